theorem dX5_init_0 : decode cX5_init 0 = .ok (.aload_n 0, 1) := by decide +kernel
theorem dX5_init_1 : decode cX5_init 1 = .ok (.invokespecial 1, 3) := by decide +kernel
theorem dX5_init_4 : decode cX5_init 4 = .ok (.aload_n 0, 1) := by decide +kernel
theorem dX5_init_5 : decode cX5_init 5 = .ok (.sipush 600, 3) := by decide +kernel
theorem dX5_init_8 : decode cX5_init 8 = .ok (.newarray .byte, 2) := by decide +kernel
theorem dX5_init_10 : decode cX5_init 10 = .ok (.putfield 7, 3) := by decide +kernel
theorem dX5_init_13 : decode cX5_init 13 = .ok (.aload_n 0, 1) := by decide +kernel
theorem dX5_init_14 : decode cX5_init 14 = .ok (.iconst 2, 1) := by decide +kernel
theorem dX5_init_15 : decode cX5_init 15 = .ok (.newarray .int, 2) := by decide +kernel
theorem dX5_init_17 : decode cX5_init 17 = .ok (.putfield 13, 3) := by decide +kernel
theorem dX5_init_20 : decode cX5_init 20 = .ok (.aload_n 0, 1) := by decide +kernel
theorem dX5_init_21 : decode cX5_init 21 = .ok (.iconst 2, 1) := by decide +kernel
theorem dX5_init_22 : decode cX5_init 22 = .ok (.newarray .int, 2) := by decide +kernel
theorem dX5_init_24 : decode cX5_init 24 = .ok (.putfield 17, 3) := by decide +kernel
theorem dX5_init_27 : decode cX5_init 27 = .ok (.aload_n 0, 1) := by decide +kernel
theorem dX5_init_28 : decode cX5_init 28 = .ok (.iconst 2, 1) := by decide +kernel
theorem dX5_init_29 : decode cX5_init 29 = .ok (.newarray .int, 2) := by decide +kernel
theorem dX5_init_31 : decode cX5_init 31 = .ok (.putfield 20, 3) := by decide +kernel
theorem dX5_init_34 : decode cX5_init 34 = .ok (.aload_n 0, 1) := by decide +kernel
theorem dX5_init_35 : decode cX5_init 35 = .ok (.iconst 2, 1) := by decide +kernel
theorem dX5_init_36 : decode cX5_init 36 = .ok (.newarray .int, 2) := by decide +kernel
theorem dX5_init_38 : decode cX5_init 38 = .ok (.putfield 23, 3) := by decide +kernel
theorem dX5_init_41 : decode cX5_init 41 = .ok (.aload_n 0, 1) := by decide +kernel
theorem dX5_init_42 : decode cX5_init 42 = .ok (.iconst 2, 1) := by decide +kernel
theorem dX5_init_43 : decode cX5_init 43 = .ok (.newarray .int, 2) := by decide +kernel
theorem dX5_init_45 : decode cX5_init 45 = .ok (.putfield 26, 3) := by decide +kernel
theorem dX5_init_48 : decode cX5_init 48 = .ok (.aload_n 0, 1) := by decide +kernel
theorem dX5_init_49 : decode cX5_init 49 = .ok (.bipush 20, 2) := by decide +kernel
theorem dX5_init_51 : decode cX5_init 51 = .ok (.newarray .long, 2) := by decide +kernel
theorem dX5_init_53 : decode cX5_init 53 = .ok (.putfield 29, 3) := by decide +kernel
theorem dX5_init_56 : decode cX5_init 56 = .ok (.aload_n 0, 1) := by decide +kernel
theorem dX5_init_57 : decode cX5_init 57 = .ok (.bipush 20, 2) := by decide +kernel
theorem dX5_init_59 : decode cX5_init 59 = .ok (.newarray .int, 2) := by decide +kernel
theorem dX5_init_61 : decode cX5_init 61 = .ok (.putfield 33, 3) := by decide +kernel
theorem dX5_init_64 : decode cX5_init 64 = .ok (.aload_n 0, 1) := by decide +kernel
theorem dX5_init_65 : decode cX5_init 65 = .ok (.bipush 20, 2) := by decide +kernel
theorem dX5_init_67 : decode cX5_init 67 = .ok (.newarray .int, 2) := by decide +kernel
theorem dX5_init_69 : decode cX5_init 69 = .ok (.putfield 36, 3) := by decide +kernel
theorem dX5_init_72 : decode cX5_init 72 = .ok (.aload_n 0, 1) := by decide +kernel
theorem dX5_init_73 : decode cX5_init 73 = .ok (.bipush 32, 2) := by decide +kernel
theorem dX5_init_75 : decode cX5_init 75 = .ok (.newarray .long, 2) := by decide +kernel
theorem dX5_init_77 : decode cX5_init 77 = .ok (.putfield 39, 3) := by decide +kernel
theorem dX5_init_80 : decode cX5_init 80 = .ok (.aload_n 0, 1) := by decide +kernel
theorem dX5_init_81 : decode cX5_init 81 = .ok (.bipush 32, 2) := by decide +kernel
theorem dX5_init_83 : decode cX5_init 83 = .ok (.newarray .int, 2) := by decide +kernel
theorem dX5_init_85 : decode cX5_init 85 = .ok (.putfield 42, 3) := by decide +kernel
theorem dX5_init_88 : decode cX5_init 88 = .ok (.aload_n 0, 1) := by decide +kernel
theorem dX5_init_89 : decode cX5_init 89 = .ok (.sipush 320, 3) := by decide +kernel
theorem dX5_init_92 : decode cX5_init 92 = .ok (.newarray .int, 2) := by decide +kernel
theorem dX5_init_94 : decode cX5_init 94 = .ok (.putfield 45, 3) := by decide +kernel
theorem dX5_init_97 : decode cX5_init 97 = .ok (.aload_n 0, 1) := by decide +kernel
theorem dX5_init_98 : decode cX5_init 98 = .ok (.sipush 2117, 3) := by decide +kernel
theorem dX5_init_101 : decode cX5_init 101 = .ok (.newarray .int, 2) := by decide +kernel
theorem dX5_init_103 : decode cX5_init 103 = .ok (.putfield 48, 3) := by decide +kernel
theorem dX5_init_106 : decode cX5_init 106 = .ok (.aload_n 0, 1) := by decide +kernel
theorem dX5_init_107 : decode cX5_init 107 = .ok (.sipush 25404, 3) := by decide +kernel
theorem dX5_init_110 : decode cX5_init 110 = .ok (.newarray .int, 2) := by decide +kernel
theorem dX5_init_112 : decode cX5_init 112 = .ok (.putfield 51, 3) := by decide +kernel
theorem dX5_init_115 : decode cX5_init 115 = .ok (.aload_n 0, 1) := by decide +kernel
theorem dX5_init_116 : decode cX5_init 116 = .ok (.sipush 4234, 3) := by decide +kernel
theorem dX5_init_119 : decode cX5_init 119 = .ok (.newarray .int, 2) := by decide +kernel
theorem dX5_init_121 : decode cX5_init 121 = .ok (.putfield 54, 3) := by decide +kernel
theorem dX5_init_124 : decode cX5_init 124 = .ok (.aload_n 0, 1) := by decide +kernel
theorem dX5_init_125 : decode cX5_init 125 = .ok (.iconst 2, 1) := by decide +kernel
theorem dX5_init_126 : decode cX5_init 126 = .ok (.newarray .boolean, 2) := by decide +kernel
theorem dX5_init_128 : decode cX5_init 128 = .ok (.putfield 57, 3) := by decide +kernel
theorem dX5_init_131 : decode cX5_init 131 = .ok (.aload_n 0, 1) := by decide +kernel
theorem dX5_init_132 : decode cX5_init 132 = .ok (.sipush 2117, 3) := by decide +kernel
theorem dX5_init_135 : decode cX5_init 135 = .ok (.newarray .int, 2) := by decide +kernel
theorem dX5_init_137 : decode cX5_init 137 = .ok (.putfield 61, 3) := by decide +kernel
theorem dX5_init_140 : decode cX5_init 140 = .ok (.aload_n 0, 1) := by decide +kernel
theorem dX5_init_141 : decode cX5_init 141 = .ok (.bipush 10, 2) := by decide +kernel
theorem dX5_init_143 : decode cX5_init 143 = .ok (.newarray .int, 2) := by decide +kernel
theorem dX5_init_145 : decode cX5_init 145 = .ok (.putfield 64, 3) := by decide +kernel
theorem dX5_init_148 : decode cX5_init 148 = .ok (.aload_n 0, 1) := by decide +kernel
theorem dX5_init_149 : decode cX5_init 149 = .ok (.bipush 10, 2) := by decide +kernel
theorem dX5_init_151 : decode cX5_init 151 = .ok (.newarray .int, 2) := by decide +kernel
theorem dX5_init_153 : decode cX5_init 153 = .ok (.putfield 67, 3) := by decide +kernel
theorem dX5_init_156 : decode cX5_init 156 = .ok (.aload_n 0, 1) := by decide +kernel
theorem dX5_init_157 : decode cX5_init 157 = .ok (.bipush 16, 2) := by decide +kernel
theorem dX5_init_159 : decode cX5_init 159 = .ok (.newarray .int, 2) := by decide +kernel
theorem dX5_init_161 : decode cX5_init 161 = .ok (.putfield 70, 3) := by decide +kernel
theorem dX5_init_164 : decode cX5_init 164 = .ok (.aload_n 0, 1) := by decide +kernel
theorem dX5_init_165 : decode cX5_init 165 = .ok (.bipush 10, 2) := by decide +kernel
theorem dX5_init_167 : decode cX5_init 167 = .ok (.newarray .int, 2) := by decide +kernel
theorem dX5_init_169 : decode cX5_init 169 = .ok (.putfield 73, 3) := by decide +kernel
theorem dX5_init_172 : decode cX5_init 172 = .ok (.aload_n 0, 1) := by decide +kernel
theorem dX5_init_173 : decode cX5_init 173 = .ok (.bipush 10, 2) := by decide +kernel
theorem dX5_init_175 : decode cX5_init 175 = .ok (.newarray .int, 2) := by decide +kernel
theorem dX5_init_177 : decode cX5_init 177 = .ok (.putfield 76, 3) := by decide +kernel
theorem dX5_init_180 : decode cX5_init 180 = .ok (.aload_n 0, 1) := by decide +kernel
theorem dX5_init_181 : decode cX5_init 181 = .ok (.iconst 0, 1) := by decide +kernel
theorem dX5_init_182 : decode cX5_init 182 = .ok (.invokevirtual 79, 3) := by decide +kernel
theorem dX5_init_185 : decode cX5_init 185 = .ok (.aload_n 0, 1) := by decide +kernel
theorem dX5_init_186 : decode cX5_init 186 = .ok (.invokevirtual 83, 3) := by decide +kernel
theorem dX5_init_189 : decode cX5_init 189 = .ok (.return_, 1) := by decide +kernel
theorem dX5_thrown_0 : decode cX5_thrown 0 = .ok (.aload_n 0, 1) := by decide +kernel
theorem dX5_thrown_1 : decode cX5_thrown 1 = .ok (.getfield 86, 3) := by decide +kernel
theorem dX5_thrown_4 : decode cX5_thrown 4 = .ok (.ireturn, 1) := by decide +kernel
theorem dX5_within_0 : decode cX5_within 0 = .ok (.lload_n 0, 1) := by decide +kernel
theorem dX5_within_1 : decode cX5_within 1 = .ok (.lload_n 2, 1) := by decide +kernel
theorem dX5_within_2 : decode cX5_within 2 = .ok (.lcmp, 1) := by decide +kernel
theorem dX5_within_3 : decode cX5_within 3 = .ok (.ifCond .lt 14, 3) := by decide +kernel
theorem dX5_within_6 : decode cX5_within 6 = .ok (.lload_n 0, 1) := by decide +kernel
theorem dX5_within_7 : decode cX5_within 7 = .ok (.lload 4, 2) := by decide +kernel
theorem dX5_within_9 : decode cX5_within 9 = .ok (.lcmp, 1) := by decide +kernel
theorem dX5_within_10 : decode cX5_within 10 = .ok (.ifCond .gt 7, 3) := by decide +kernel
theorem dX5_within_13 : decode cX5_within 13 = .ok (.iconst 1, 1) := by decide +kernel
theorem dX5_within_14 : decode cX5_within 14 = .ok (.goto 4, 3) := by decide +kernel
theorem dX5_within_17 : decode cX5_within 17 = .ok (.iconst 0, 1) := by decide +kernel
theorem dX5_within_18 : decode cX5_within 18 = .ok (.ireturn, 1) := by decide +kernel
theorem dX5_puts_0 : decode cX5_puts 0 = .ok (.bipush 24, 2) := by decide +kernel
theorem dX5_puts_2 : decode cX5_puts 2 = .ok (.istore_n 2, 1) := by decide +kernel
theorem dX5_puts_3 : decode cX5_puts 3 = .ok (.iload_n 2, 1) := by decide +kernel
theorem dX5_puts_4 : decode cX5_puts 4 = .ok (.ifCond .lt 32, 3) := by decide +kernel
theorem dX5_puts_7 : decode cX5_puts 7 = .ok (.aload_n 0, 1) := by decide +kernel
theorem dX5_puts_8 : decode cX5_puts 8 = .ok (.getfield 7, 3) := by decide +kernel
theorem dX5_puts_11 : decode cX5_puts 11 = .ok (.aload_n 0, 1) := by decide +kernel
theorem dX5_puts_12 : decode cX5_puts 12 = .ok (.getfield 90, 3) := by decide +kernel
theorem dX5_puts_15 : decode cX5_puts 15 = .ok (.iload_n 1, 1) := by decide +kernel
theorem dX5_puts_16 : decode cX5_puts 16 = .ok (.iload_n 2, 1) := by decide +kernel
theorem dX5_puts_17 : decode cX5_puts 17 = .ok (.ishr, 1) := by decide +kernel
theorem dX5_puts_18 : decode cX5_puts 18 = .ok (.i2b, 1) := by decide +kernel
theorem dX5_puts_19 : decode cX5_puts 19 = .ok (.bastore, 1) := by decide +kernel
theorem dX5_puts_20 : decode cX5_puts 20 = .ok (.aload_n 0, 1) := by decide +kernel
theorem dX5_puts_21 : decode cX5_puts 21 = .ok (.dup, 1) := by decide +kernel
theorem dX5_puts_22 : decode cX5_puts 22 = .ok (.getfield 90, 3) := by decide +kernel
theorem dX5_puts_25 : decode cX5_puts 25 = .ok (.iconst 1, 1) := by decide +kernel
theorem dX5_puts_26 : decode cX5_puts 26 = .ok (.iadd, 1) := by decide +kernel
theorem dX5_puts_27 : decode cX5_puts 27 = .ok (.putfield 90, 3) := by decide +kernel
theorem dX5_puts_30 : decode cX5_puts 30 = .ok (.iinc 2 (-8), 3) := by decide +kernel
theorem dX5_puts_33 : decode cX5_puts 33 = .ok (.goto (-30), 3) := by decide +kernel
theorem dX5_puts_36 : decode cX5_puts 36 = .ok (.return_, 1) := by decide +kernel
theorem dX5_feed_0 : decode cX5_feed 0 = .ok (.aload_n 0, 1) := by decide +kernel
theorem dX5_feed_1 : decode cX5_feed 1 = .ok (.iconst 0, 1) := by decide +kernel
theorem dX5_feed_2 : decode cX5_feed 2 = .ok (.putfield 86, 3) := by decide +kernel
theorem dX5_feed_5 : decode cX5_feed 5 = .ok (.aload_n 0, 1) := by decide +kernel
theorem dX5_feed_6 : decode cX5_feed 6 = .ok (.getfield 90, 3) := by decide +kernel
theorem dX5_feed_9 : decode cX5_feed 9 = .ok (.bipush 20, 2) := by decide +kernel
theorem dX5_feed_11 : decode cX5_feed 11 = .ok (.iadd, 1) := by decide +kernel
theorem dX5_feed_12 : decode cX5_feed 12 = .ok (.sipush 600, 3) := by decide +kernel
theorem dX5_feed_15 : decode cX5_feed 15 = .ok (.if_icmp .le 5, 3) := by decide +kernel
theorem dX5_feed_18 : decode cX5_feed 18 = .ok (.iconst (-1), 1) := by decide +kernel
theorem dX5_feed_19 : decode cX5_feed 19 = .ok (.ireturn, 1) := by decide +kernel
theorem dX5_feed_20 : decode cX5_feed 20 = .ok (.aload_n 0, 1) := by decide +kernel
theorem dX5_feed_21 : decode cX5_feed 21 = .ok (.iload_n 1, 1) := by decide +kernel
theorem dX5_feed_22 : decode cX5_feed 22 = .ok (.invokevirtual 93, 3) := by decide +kernel
theorem dX5_feed_25 : decode cX5_feed 25 = .ok (.aload_n 0, 1) := by decide +kernel
theorem dX5_feed_26 : decode cX5_feed 26 = .ok (.iload_n 2, 1) := by decide +kernel
theorem dX5_feed_27 : decode cX5_feed 27 = .ok (.invokevirtual 93, 3) := by decide +kernel
theorem dX5_feed_30 : decode cX5_feed 30 = .ok (.aload_n 0, 1) := by decide +kernel
theorem dX5_feed_31 : decode cX5_feed 31 = .ok (.iload_n 3, 1) := by decide +kernel
theorem dX5_feed_32 : decode cX5_feed 32 = .ok (.invokevirtual 93, 3) := by decide +kernel
theorem dX5_feed_35 : decode cX5_feed 35 = .ok (.aload_n 0, 1) := by decide +kernel
theorem dX5_feed_36 : decode cX5_feed 36 = .ok (.iload 4, 2) := by decide +kernel
theorem dX5_feed_38 : decode cX5_feed 38 = .ok (.invokevirtual 93, 3) := by decide +kernel
theorem dX5_feed_41 : decode cX5_feed 41 = .ok (.aload_n 0, 1) := by decide +kernel
theorem dX5_feed_42 : decode cX5_feed 42 = .ok (.iload 5, 2) := by decide +kernel
theorem dX5_feed_44 : decode cX5_feed 44 = .ok (.invokevirtual 93, 3) := by decide +kernel
theorem dX5_feed_47 : decode cX5_feed 47 = .ok (.aload_n 0, 1) := by decide +kernel
theorem dX5_feed_48 : decode cX5_feed 48 = .ok (.getfield 90, 3) := by decide +kernel
theorem dX5_feed_51 : decode cX5_feed 51 = .ok (.ireturn, 1) := by decide +kernel
theorem dX5_see_0 : decode cX5_see 0 = .ok (.iload_n 1, 1) := by decide +kernel
theorem dX5_see_1 : decode cX5_see 1 = .ok (.aload_n 0, 1) := by decide +kernel
theorem dX5_see_2 : decode cX5_see 2 = .ok (.getfield 96, 3) := by decide +kernel
theorem dX5_see_5 : decode cX5_see 5 = .ok (.if_icmp .ge 16, 3) := by decide +kernel
theorem dX5_see_8 : decode cX5_see 8 = .ok (.aload_n 0, 1) := by decide +kernel
theorem dX5_see_9 : decode cX5_see 9 = .ok (.getfield 7, 3) := by decide +kernel
theorem dX5_see_12 : decode cX5_see 12 = .ok (.iload_n 1, 1) := by decide +kernel
theorem dX5_see_13 : decode cX5_see 13 = .ok (.baload, 1) := by decide +kernel
theorem dX5_see_14 : decode cX5_see 14 = .ok (.sipush 255, 3) := by decide +kernel
theorem dX5_see_17 : decode cX5_see 17 = .ok (.iand, 1) := by decide +kernel
theorem dX5_see_18 : decode cX5_see 18 = .ok (.goto 4, 3) := by decide +kernel
theorem dX5_see_21 : decode cX5_see 21 = .ok (.iconst (-1), 1) := by decide +kernel
theorem dX5_see_22 : decode cX5_see 22 = .ok (.ireturn, 1) := by decide +kernel
theorem dX5_steps_0 : decode cX5_steps 0 = .ok (.aload_n 0, 1) := by decide +kernel
theorem dX5_steps_1 : decode cX5_steps 1 = .ok (.aload_n 0, 1) := by decide +kernel
theorem dX5_steps_2 : decode cX5_steps 2 = .ok (.getfield 99, 3) := by decide +kernel
theorem dX5_steps_5 : decode cX5_steps 5 = .ok (.putfield 102, 3) := by decide +kernel
theorem dX5_steps_8 : decode cX5_steps 8 = .ok (.aload_n 0, 1) := by decide +kernel
theorem dX5_steps_9 : decode cX5_steps 9 = .ok (.aload_n 0, 1) := by decide +kernel
theorem dX5_steps_10 : decode cX5_steps 10 = .ok (.getfield 102, 3) := by decide +kernel
theorem dX5_steps_13 : decode cX5_steps 13 = .ok (.invokevirtual 105, 3) := by decide +kernel
theorem dX5_steps_16 : decode cX5_steps 16 = .ok (.bipush 32, 2) := by decide +kernel
theorem dX5_steps_18 : decode cX5_steps 18 = .ok (.if_icmp .eq 16, 3) := by decide +kernel
theorem dX5_steps_21 : decode cX5_steps 21 = .ok (.aload_n 0, 1) := by decide +kernel
theorem dX5_steps_22 : decode cX5_steps 22 = .ok (.aload_n 0, 1) := by decide +kernel
theorem dX5_steps_23 : decode cX5_steps 23 = .ok (.getfield 102, 3) := by decide +kernel
theorem dX5_steps_26 : decode cX5_steps 26 = .ok (.invokevirtual 105, 3) := by decide +kernel
theorem dX5_steps_29 : decode cX5_steps 29 = .ok (.bipush 10, 2) := by decide +kernel
theorem dX5_steps_31 : decode cX5_steps 31 = .ok (.if_icmp .ne 16, 3) := by decide +kernel
theorem dX5_steps_34 : decode cX5_steps 34 = .ok (.aload_n 0, 1) := by decide +kernel
theorem dX5_steps_35 : decode cX5_steps 35 = .ok (.dup, 1) := by decide +kernel
theorem dX5_steps_36 : decode cX5_steps 36 = .ok (.getfield 102, 3) := by decide +kernel
theorem dX5_steps_39 : decode cX5_steps 39 = .ok (.iconst 1, 1) := by decide +kernel
theorem dX5_steps_40 : decode cX5_steps 40 = .ok (.iadd, 1) := by decide +kernel
theorem dX5_steps_41 : decode cX5_steps 41 = .ok (.putfield 102, 3) := by decide +kernel
theorem dX5_steps_44 : decode cX5_steps 44 = .ok (.goto (-36), 3) := by decide +kernel
theorem dX5_steps_47 : decode cX5_steps 47 = .ok (.aload_n 0, 1) := by decide +kernel
theorem dX5_steps_48 : decode cX5_steps 48 = .ok (.aload_n 0, 1) := by decide +kernel
theorem dX5_steps_49 : decode cX5_steps 49 = .ok (.getfield 102, 3) := by decide +kernel
theorem dX5_steps_52 : decode cX5_steps 52 = .ok (.invokevirtual 105, 3) := by decide +kernel
theorem dX5_steps_55 : decode cX5_steps 55 = .ok (.istore_n 1, 1) := by decide +kernel
theorem dX5_steps_56 : decode cX5_steps 56 = .ok (.aload_n 0, 1) := by decide +kernel
theorem dX5_steps_57 : decode cX5_steps 57 = .ok (.aload_n 0, 1) := by decide +kernel
theorem dX5_steps_58 : decode cX5_steps 58 = .ok (.getfield 102, 3) := by decide +kernel
theorem dX5_steps_61 : decode cX5_steps 61 = .ok (.iconst 1, 1) := by decide +kernel
theorem dX5_steps_62 : decode cX5_steps 62 = .ok (.iadd, 1) := by decide +kernel
theorem dX5_steps_63 : decode cX5_steps 63 = .ok (.putfield 99, 3) := by decide +kernel
theorem dX5_steps_66 : decode cX5_steps 66 = .ok (.aload_n 0, 1) := by decide +kernel
theorem dX5_steps_67 : decode cX5_steps 67 = .ok (.iconst 4, 1) := by decide +kernel
theorem dX5_steps_68 : decode cX5_steps 68 = .ok (.putfield 109, 3) := by decide +kernel
theorem dX5_steps_71 : decode cX5_steps 71 = .ok (.aload_n 0, 1) := by decide +kernel
theorem dX5_steps_72 : decode cX5_steps 72 = .ok (.iconst 0, 1) := by decide +kernel
theorem dX5_steps_73 : decode cX5_steps 73 = .ok (.putfield 112, 3) := by decide +kernel
theorem dX5_steps_76 : decode cX5_steps 76 = .ok (.aload_n 0, 1) := by decide +kernel
theorem dX5_steps_77 : decode cX5_steps 77 = .ok (.lconst 0, 1) := by decide +kernel
theorem dX5_steps_78 : decode cX5_steps 78 = .ok (.putfield 115, 3) := by decide +kernel
theorem dX5_steps_81 : decode cX5_steps 81 = .ok (.iload_n 1, 1) := by decide +kernel
theorem dX5_steps_82 : decode cX5_steps 82 = .ok (.iconst (-1), 1) := by decide +kernel
theorem dX5_steps_83 : decode cX5_steps 83 = .ok (.if_icmp .ne 19, 3) := by decide +kernel
theorem dX5_steps_86 : decode cX5_steps 86 = .ok (.aload_n 0, 1) := by decide +kernel
theorem dX5_steps_87 : decode cX5_steps 87 = .ok (.aload_n 0, 1) := by decide +kernel
theorem dX5_steps_88 : decode cX5_steps 88 = .ok (.getfield 102, 3) := by decide +kernel
theorem dX5_steps_91 : decode cX5_steps 91 = .ok (.putfield 99, 3) := by decide +kernel
theorem dX5_steps_94 : decode cX5_steps 94 = .ok (.aload_n 0, 1) := by decide +kernel
theorem dX5_steps_95 : decode cX5_steps 95 = .ok (.iconst 0, 1) := by decide +kernel
theorem dX5_steps_96 : decode cX5_steps 96 = .ok (.putfield 109, 3) := by decide +kernel
theorem dX5_steps_99 : decode cX5_steps 99 = .ok (.goto 265, 3) := by decide +kernel
theorem dX5_steps_102 : decode cX5_steps 102 = .ok (.iload_n 1, 1) := by decide +kernel
theorem dX5_steps_103 : decode cX5_steps 103 = .ok (.bipush 59, 2) := by decide +kernel
theorem dX5_steps_105 : decode cX5_steps 105 = .ok (.if_icmp .ne 11, 3) := by decide +kernel
theorem dX5_steps_108 : decode cX5_steps 108 = .ok (.aload_n 0, 1) := by decide +kernel
theorem dX5_steps_109 : decode cX5_steps 109 = .ok (.iconst 3, 1) := by decide +kernel
theorem dX5_steps_110 : decode cX5_steps 110 = .ok (.putfield 109, 3) := by decide +kernel
theorem dX5_steps_113 : decode cX5_steps 113 = .ok (.goto 251, 3) := by decide +kernel
theorem dX5_steps_116 : decode cX5_steps 116 = .ok (.iload_n 1, 1) := by decide +kernel
theorem dX5_steps_117 : decode cX5_steps 117 = .ok (.i2l, 1) := by decide +kernel
theorem dX5_steps_118 : decode cX5_steps 118 = .ok (.ldc2_w 119, 3) := by decide +kernel
theorem dX5_steps_121 : decode cX5_steps 121 = .ok (.ldc2_w 121, 3) := by decide +kernel
theorem dX5_steps_124 : decode cX5_steps 124 = .ok (.invokestatic 123, 3) := by decide +kernel
theorem dX5_steps_127 : decode cX5_steps 127 = .ok (.ifCond .eq 116, 3) := by decide +kernel
theorem dX5_steps_130 : decode cX5_steps 130 = .ok (.aload_n 0, 1) := by decide +kernel
theorem dX5_steps_131 : decode cX5_steps 131 = .ok (.aload_n 0, 1) := by decide +kernel
theorem dX5_steps_132 : decode cX5_steps 132 = .ok (.getfield 102, 3) := by decide +kernel
theorem dX5_steps_135 : decode cX5_steps 135 = .ok (.putfield 99, 3) := by decide +kernel
theorem dX5_steps_138 : decode cX5_steps 138 = .ok (.aload_n 0, 1) := by decide +kernel
theorem dX5_steps_139 : decode cX5_steps 139 = .ok (.aload_n 0, 1) := by decide +kernel
theorem dX5_steps_140 : decode cX5_steps 140 = .ok (.getfield 99, 3) := by decide +kernel
theorem dX5_steps_143 : decode cX5_steps 143 = .ok (.invokevirtual 105, 3) := by decide +kernel
theorem dX5_steps_146 : decode cX5_steps 146 = .ok (.i2l, 1) := by decide +kernel
theorem dX5_steps_147 : decode cX5_steps 147 = .ok (.ldc2_w 119, 3) := by decide +kernel
theorem dX5_steps_150 : decode cX5_steps 150 = .ok (.ldc2_w 121, 3) := by decide +kernel
theorem dX5_steps_153 : decode cX5_steps 153 = .ok (.invokestatic 123, 3) := by decide +kernel
theorem dX5_steps_156 : decode cX5_steps 156 = .ok (.ifCond .eq 61, 3) := by decide +kernel
theorem dX5_steps_159 : decode cX5_steps 159 = .ok (.aload_n 0, 1) := by decide +kernel
theorem dX5_steps_160 : decode cX5_steps 160 = .ok (.aload_n 0, 1) := by decide +kernel
theorem dX5_steps_161 : decode cX5_steps 161 = .ok (.getfield 99, 3) := by decide +kernel
theorem dX5_steps_164 : decode cX5_steps 164 = .ok (.aload_n 0, 1) := by decide +kernel
theorem dX5_steps_165 : decode cX5_steps 165 = .ok (.getfield 102, 3) := by decide +kernel
theorem dX5_steps_168 : decode cX5_steps 168 = .ok (.isub, 1) := by decide +kernel
theorem dX5_steps_169 : decode cX5_steps 169 = .ok (.bipush 6, 2) := by decide +kernel
theorem dX5_steps_171 : decode cX5_steps 171 = .ok (.if_icmp .ge 26, 3) := by decide +kernel
theorem dX5_steps_174 : decode cX5_steps 174 = .ok (.aload_n 0, 1) := by decide +kernel
theorem dX5_steps_175 : decode cX5_steps 175 = .ok (.getfield 115, 3) := by decide +kernel
theorem dX5_steps_178 : decode cX5_steps 178 = .ok (.iconst 5, 1) := by decide +kernel
theorem dX5_steps_179 : decode cX5_steps 179 = .ok (.lshl, 1) := by decide +kernel
theorem dX5_steps_180 : decode cX5_steps 180 = .ok (.aload_n 0, 1) := by decide +kernel
theorem dX5_steps_181 : decode cX5_steps 181 = .ok (.aload_n 0, 1) := by decide +kernel
theorem dX5_steps_182 : decode cX5_steps 182 = .ok (.getfield 99, 3) := by decide +kernel
theorem dX5_steps_185 : decode cX5_steps 185 = .ok (.invokevirtual 105, 3) := by decide +kernel
theorem dX5_steps_188 : decode cX5_steps 188 = .ok (.i2l, 1) := by decide +kernel
theorem dX5_steps_189 : decode cX5_steps 189 = .ok (.ldc2_w 127, 3) := by decide +kernel
theorem dX5_steps_192 : decode cX5_steps 192 = .ok (.lsub, 1) := by decide +kernel
theorem dX5_steps_193 : decode cX5_steps 193 = .ok (.lor, 1) := by decide +kernel
theorem dX5_steps_194 : decode cX5_steps 194 = .ok (.goto 7, 3) := by decide +kernel
theorem dX5_steps_197 : decode cX5_steps 197 = .ok (.aload_n 0, 1) := by decide +kernel
theorem dX5_steps_198 : decode cX5_steps 198 = .ok (.getfield 115, 3) := by decide +kernel
theorem dX5_steps_201 : decode cX5_steps 201 = .ok (.putfield 115, 3) := by decide +kernel
theorem dX5_steps_204 : decode cX5_steps 204 = .ok (.aload_n 0, 1) := by decide +kernel
theorem dX5_steps_205 : decode cX5_steps 205 = .ok (.dup, 1) := by decide +kernel
theorem dX5_steps_206 : decode cX5_steps 206 = .ok (.getfield 99, 3) := by decide +kernel
theorem dX5_steps_209 : decode cX5_steps 209 = .ok (.iconst 1, 1) := by decide +kernel
theorem dX5_steps_210 : decode cX5_steps 210 = .ok (.iadd, 1) := by decide +kernel
theorem dX5_steps_211 : decode cX5_steps 211 = .ok (.putfield 99, 3) := by decide +kernel
theorem dX5_steps_214 : decode cX5_steps 214 = .ok (.goto (-76), 3) := by decide +kernel
theorem dX5_steps_217 : decode cX5_steps 217 = .ok (.aload_n 0, 1) := by decide +kernel
theorem dX5_steps_218 : decode cX5_steps 218 = .ok (.aload_n 0, 1) := by decide +kernel
theorem dX5_steps_219 : decode cX5_steps 219 = .ok (.getfield 99, 3) := by decide +kernel
theorem dX5_steps_222 : decode cX5_steps 222 = .ok (.aload_n 0, 1) := by decide +kernel
theorem dX5_steps_223 : decode cX5_steps 223 = .ok (.getfield 102, 3) := by decide +kernel
theorem dX5_steps_226 : decode cX5_steps 226 = .ok (.isub, 1) := by decide +kernel
theorem dX5_steps_227 : decode cX5_steps 227 = .ok (.bipush 7, 2) := by decide +kernel
theorem dX5_steps_229 : decode cX5_steps 229 = .ok (.if_icmp .ge 7, 3) := by decide +kernel
theorem dX5_steps_232 : decode cX5_steps 232 = .ok (.iconst 1, 1) := by decide +kernel
theorem dX5_steps_233 : decode cX5_steps 233 = .ok (.goto 4, 3) := by decide +kernel
theorem dX5_steps_236 : decode cX5_steps 236 = .ok (.iconst 4, 1) := by decide +kernel
theorem dX5_steps_237 : decode cX5_steps 237 = .ok (.putfield 109, 3) := by decide +kernel
theorem dX5_steps_240 : decode cX5_steps 240 = .ok (.goto 124, 3) := by decide +kernel
theorem dX5_steps_243 : decode cX5_steps 243 = .ok (.iload_n 1, 1) := by decide +kernel
theorem dX5_steps_244 : decode cX5_steps 244 = .ok (.i2l, 1) := by decide +kernel
theorem dX5_steps_245 : decode cX5_steps 245 = .ok (.ldc2_w 129, 3) := by decide +kernel
theorem dX5_steps_248 : decode cX5_steps 248 = .ok (.ldc2_w 131, 3) := by decide +kernel
theorem dX5_steps_251 : decode cX5_steps 251 = .ok (.invokestatic 123, 3) := by decide +kernel
theorem dX5_steps_254 : decode cX5_steps 254 = .ok (.ifCond .eq 110, 3) := by decide +kernel
theorem dX5_steps_257 : decode cX5_steps 257 = .ok (.aload_n 0, 1) := by decide +kernel
theorem dX5_steps_258 : decode cX5_steps 258 = .ok (.aload_n 0, 1) := by decide +kernel
theorem dX5_steps_259 : decode cX5_steps 259 = .ok (.getfield 102, 3) := by decide +kernel
theorem dX5_steps_262 : decode cX5_steps 262 = .ok (.putfield 99, 3) := by decide +kernel
theorem dX5_steps_265 : decode cX5_steps 265 = .ok (.aload_n 0, 1) := by decide +kernel
theorem dX5_steps_266 : decode cX5_steps 266 = .ok (.aload_n 0, 1) := by decide +kernel
theorem dX5_steps_267 : decode cX5_steps 267 = .ok (.getfield 99, 3) := by decide +kernel
theorem dX5_steps_270 : decode cX5_steps 270 = .ok (.invokevirtual 105, 3) := by decide +kernel
theorem dX5_steps_273 : decode cX5_steps 273 = .ok (.i2l, 1) := by decide +kernel
theorem dX5_steps_274 : decode cX5_steps 274 = .ok (.ldc2_w 129, 3) := by decide +kernel
theorem dX5_steps_277 : decode cX5_steps 277 = .ok (.ldc2_w 131, 3) := by decide +kernel
theorem dX5_steps_280 : decode cX5_steps 280 = .ok (.invokestatic 123, 3) := by decide +kernel
theorem dX5_steps_283 : decode cX5_steps 283 = .ok (.ifCond .eq 59, 3) := by decide +kernel
theorem dX5_steps_286 : decode cX5_steps 286 = .ok (.aload_n 0, 1) := by decide +kernel
theorem dX5_steps_287 : decode cX5_steps 287 = .ok (.aload_n 0, 1) := by decide +kernel
theorem dX5_steps_288 : decode cX5_steps 288 = .ok (.getfield 99, 3) := by decide +kernel
theorem dX5_steps_291 : decode cX5_steps 291 = .ok (.aload_n 0, 1) := by decide +kernel
theorem dX5_steps_292 : decode cX5_steps 292 = .ok (.getfield 102, 3) := by decide +kernel
theorem dX5_steps_295 : decode cX5_steps 295 = .ok (.isub, 1) := by decide +kernel
theorem dX5_steps_296 : decode cX5_steps 296 = .ok (.iconst 2, 1) := by decide +kernel
theorem dX5_steps_297 : decode cX5_steps 297 = .ok (.if_icmp .ge 25, 3) := by decide +kernel
theorem dX5_steps_300 : decode cX5_steps 300 = .ok (.bipush 10, 2) := by decide +kernel
theorem dX5_steps_302 : decode cX5_steps 302 = .ok (.aload_n 0, 1) := by decide +kernel
theorem dX5_steps_303 : decode cX5_steps 303 = .ok (.getfield 112, 3) := by decide +kernel
theorem dX5_steps_306 : decode cX5_steps 306 = .ok (.imul, 1) := by decide +kernel
theorem dX5_steps_307 : decode cX5_steps 307 = .ok (.aload_n 0, 1) := by decide +kernel
theorem dX5_steps_308 : decode cX5_steps 308 = .ok (.aload_n 0, 1) := by decide +kernel
theorem dX5_steps_309 : decode cX5_steps 309 = .ok (.getfield 99, 3) := by decide +kernel
theorem dX5_steps_312 : decode cX5_steps 312 = .ok (.invokevirtual 105, 3) := by decide +kernel
theorem dX5_steps_315 : decode cX5_steps 315 = .ok (.iadd, 1) := by decide +kernel
theorem dX5_steps_316 : decode cX5_steps 316 = .ok (.bipush 48, 2) := by decide +kernel
theorem dX5_steps_318 : decode cX5_steps 318 = .ok (.isub, 1) := by decide +kernel
theorem dX5_steps_319 : decode cX5_steps 319 = .ok (.goto 7, 3) := by decide +kernel
theorem dX5_steps_322 : decode cX5_steps 322 = .ok (.aload_n 0, 1) := by decide +kernel
theorem dX5_steps_323 : decode cX5_steps 323 = .ok (.getfield 112, 3) := by decide +kernel
theorem dX5_steps_326 : decode cX5_steps 326 = .ok (.putfield 112, 3) := by decide +kernel
theorem dX5_steps_329 : decode cX5_steps 329 = .ok (.aload_n 0, 1) := by decide +kernel
theorem dX5_steps_330 : decode cX5_steps 330 = .ok (.dup, 1) := by decide +kernel
theorem dX5_steps_331 : decode cX5_steps 331 = .ok (.getfield 99, 3) := by decide +kernel
theorem dX5_steps_334 : decode cX5_steps 334 = .ok (.iconst 1, 1) := by decide +kernel
theorem dX5_steps_335 : decode cX5_steps 335 = .ok (.iadd, 1) := by decide +kernel
theorem dX5_steps_336 : decode cX5_steps 336 = .ok (.putfield 99, 3) := by decide +kernel
theorem dX5_steps_339 : decode cX5_steps 339 = .ok (.goto (-74), 3) := by decide +kernel
theorem dX5_steps_342 : decode cX5_steps 342 = .ok (.aload_n 0, 1) := by decide +kernel
theorem dX5_steps_343 : decode cX5_steps 343 = .ok (.aload_n 0, 1) := by decide +kernel
theorem dX5_steps_344 : decode cX5_steps 344 = .ok (.getfield 99, 3) := by decide +kernel
theorem dX5_steps_347 : decode cX5_steps 347 = .ok (.aload_n 0, 1) := by decide +kernel
theorem dX5_steps_348 : decode cX5_steps 348 = .ok (.getfield 102, 3) := by decide +kernel
theorem dX5_steps_351 : decode cX5_steps 351 = .ok (.isub, 1) := by decide +kernel
theorem dX5_steps_352 : decode cX5_steps 352 = .ok (.iconst 3, 1) := by decide +kernel
theorem dX5_steps_353 : decode cX5_steps 353 = .ok (.if_icmp .ge 7, 3) := by decide +kernel
theorem dX5_steps_356 : decode cX5_steps 356 = .ok (.iconst 2, 1) := by decide +kernel
theorem dX5_steps_357 : decode cX5_steps 357 = .ok (.goto 4, 3) := by decide +kernel
theorem dX5_steps_360 : decode cX5_steps 360 = .ok (.iconst 4, 1) := by decide +kernel
theorem dX5_steps_361 : decode cX5_steps 361 = .ok (.putfield 109, 3) := by decide +kernel
theorem dX5_steps_364 : decode cX5_steps 364 = .ok (.return_, 1) := by decide +kernel
theorem dX5_must_0 : decode cX5_must 0 = .ok (.aload_n 0, 1) := by decide +kernel
theorem dX5_must_1 : decode cX5_must 1 = .ok (.getfield 133, 3) := by decide +kernel
theorem dX5_must_4 : decode cX5_must 4 = .ok (.ifCond .ne 20, 3) := by decide +kernel
theorem dX5_must_7 : decode cX5_must 7 = .ok (.iload_n 1, 1) := by decide +kernel
theorem dX5_must_8 : decode cX5_must 8 = .ok (.ifCond .ne 16, 3) := by decide +kernel
theorem dX5_must_11 : decode cX5_must 11 = .ok (.aload_n 0, 1) := by decide +kernel
theorem dX5_must_12 : decode cX5_must 12 = .ok (.iload_n 2, 1) := by decide +kernel
theorem dX5_must_13 : decode cX5_must 13 = .ok (.putfield 133, 3) := by decide +kernel
theorem dX5_must_16 : decode cX5_must 16 = .ok (.aload_n 0, 1) := by decide +kernel
theorem dX5_must_17 : decode cX5_must 17 = .ok (.aload_n 0, 1) := by decide +kernel
theorem dX5_must_18 : decode cX5_must 18 = .ok (.getfield 102, 3) := by decide +kernel
theorem dX5_must_21 : decode cX5_must 21 = .ok (.putfield 136, 3) := by decide +kernel
theorem dX5_must_24 : decode cX5_must 24 = .ok (.aload_n 0, 1) := by decide +kernel
theorem dX5_must_25 : decode cX5_must 25 = .ok (.getfield 133, 3) := by decide +kernel
theorem dX5_must_28 : decode cX5_must 28 = .ok (.ifCond .ne 7, 3) := by decide +kernel
theorem dX5_must_31 : decode cX5_must 31 = .ok (.iconst 1, 1) := by decide +kernel
theorem dX5_must_32 : decode cX5_must 32 = .ok (.goto 4, 3) := by decide +kernel
theorem dX5_must_35 : decode cX5_must 35 = .ok (.iconst 0, 1) := by decide +kernel
theorem dX5_must_36 : decode cX5_must 36 = .ok (.ireturn, 1) := by decide +kernel
theorem dX5_spelled_0 : decode cX5_spelled 0 = .ok (.lconst 0, 1) := by decide +kernel
theorem dX5_spelled_1 : decode cX5_spelled 1 = .ok (.lstore_n 1, 1) := by decide +kernel
theorem dX5_spelled_2 : decode cX5_spelled 2 = .ok (.iconst 0, 1) := by decide +kernel
theorem dX5_spelled_3 : decode cX5_spelled 3 = .ok (.istore_n 3, 1) := by decide +kernel
theorem dX5_spelled_4 : decode cX5_spelled 4 = .ok (.iload_n 3, 1) := by decide +kernel
theorem dX5_spelled_5 : decode cX5_spelled 5 = .ok (.aload_n 0, 1) := by decide +kernel
theorem dX5_spelled_6 : decode cX5_spelled 6 = .ok (.invokevirtual 139, 3) := by decide +kernel
theorem dX5_spelled_9 : decode cX5_spelled 9 = .ok (.if_icmp .ge 24, 3) := by decide +kernel
theorem dX5_spelled_12 : decode cX5_spelled 12 = .ok (.lload_n 1, 1) := by decide +kernel
theorem dX5_spelled_13 : decode cX5_spelled 13 = .ok (.iconst 5, 1) := by decide +kernel
theorem dX5_spelled_14 : decode cX5_spelled 14 = .ok (.lshl, 1) := by decide +kernel
theorem dX5_spelled_15 : decode cX5_spelled 15 = .ok (.aload_n 0, 1) := by decide +kernel
theorem dX5_spelled_16 : decode cX5_spelled 16 = .ok (.iload_n 3, 1) := by decide +kernel
theorem dX5_spelled_17 : decode cX5_spelled 17 = .ok (.invokevirtual 145, 3) := by decide +kernel
theorem dX5_spelled_20 : decode cX5_spelled 20 = .ok (.i2l, 1) := by decide +kernel
theorem dX5_spelled_21 : decode cX5_spelled 21 = .ok (.ldc2_w 127, 3) := by decide +kernel
theorem dX5_spelled_24 : decode cX5_spelled 24 = .ok (.lsub, 1) := by decide +kernel
theorem dX5_spelled_25 : decode cX5_spelled 25 = .ok (.lor, 1) := by decide +kernel
theorem dX5_spelled_26 : decode cX5_spelled 26 = .ok (.lstore_n 1, 1) := by decide +kernel
theorem dX5_spelled_27 : decode cX5_spelled 27 = .ok (.iinc 3 1, 3) := by decide +kernel
theorem dX5_spelled_30 : decode cX5_spelled 30 = .ok (.goto (-26), 3) := by decide +kernel
theorem dX5_spelled_33 : decode cX5_spelled 33 = .ok (.lload_n 1, 1) := by decide +kernel
theorem dX5_spelled_34 : decode cX5_spelled 34 = .ok (.lreturn, 1) := by decide +kernel
theorem dX5_is_0 : decode cX5_is 0 = .ok (.aload_n 0, 1) := by decide +kernel
theorem dX5_is_1 : decode cX5_is 1 = .ok (.getfield 109, 3) := by decide +kernel
theorem dX5_is_4 : decode cX5_is 4 = .ok (.iconst 1, 1) := by decide +kernel
theorem dX5_is_5 : decode cX5_is 5 = .ok (.if_icmp .ne 19, 3) := by decide +kernel
theorem dX5_is_8 : decode cX5_is 8 = .ok (.aload_n 0, 1) := by decide +kernel
theorem dX5_is_9 : decode cX5_is 9 = .ok (.getfield 115, 3) := by decide +kernel
theorem dX5_is_12 : decode cX5_is 12 = .ok (.aload_n 1, 1) := by decide +kernel
theorem dX5_is_13 : decode cX5_is 13 = .ok (.invokestatic 149, 3) := by decide +kernel
theorem dX5_is_16 : decode cX5_is 16 = .ok (.lcmp, 1) := by decide +kernel
theorem dX5_is_17 : decode cX5_is 17 = .ok (.ifCond .ne 7, 3) := by decide +kernel
theorem dX5_is_20 : decode cX5_is 20 = .ok (.iconst 1, 1) := by decide +kernel
theorem dX5_is_21 : decode cX5_is 21 = .ok (.goto 4, 3) := by decide +kernel
theorem dX5_is_24 : decode cX5_is 24 = .ok (.iconst 0, 1) := by decide +kernel
theorem dX5_is_25 : decode cX5_is 25 = .ok (.ireturn, 1) := by decide +kernel
theorem dX5_isName_0 : decode cX5_isName 0 = .ok (.aload_n 0, 1) := by decide +kernel
theorem dX5_isName_1 : decode cX5_isName 1 = .ok (.getfield 109, 3) := by decide +kernel
theorem dX5_isName_4 : decode cX5_isName 4 = .ok (.iconst 1, 1) := by decide +kernel
theorem dX5_isName_5 : decode cX5_isName 5 = .ok (.if_icmp .ne 43, 3) := by decide +kernel
theorem dX5_isName_8 : decode cX5_isName 8 = .ok (.aload_n 0, 1) := by decide +kernel
theorem dX5_isName_9 : decode cX5_isName 9 = .ok (.ldc 153, 2) := by decide +kernel
theorem dX5_isName_11 : decode cX5_isName 11 = .ok (.invokevirtual 154, 3) := by decide +kernel
theorem dX5_isName_14 : decode cX5_isName 14 = .ok (.ifCond .ne 34, 3) := by decide +kernel
theorem dX5_isName_17 : decode cX5_isName 17 = .ok (.aload_n 0, 1) := by decide +kernel
theorem dX5_isName_18 : decode cX5_isName 18 = .ok (.ldc 158, 2) := by decide +kernel
theorem dX5_isName_20 : decode cX5_isName 20 = .ok (.invokevirtual 154, 3) := by decide +kernel
theorem dX5_isName_23 : decode cX5_isName 23 = .ok (.ifCond .ne 25, 3) := by decide +kernel
theorem dX5_isName_26 : decode cX5_isName 26 = .ok (.aload_n 0, 1) := by decide +kernel
theorem dX5_isName_27 : decode cX5_isName 27 = .ok (.ldc 160, 2) := by decide +kernel
theorem dX5_isName_29 : decode cX5_isName 29 = .ok (.invokevirtual 154, 3) := by decide +kernel
theorem dX5_isName_32 : decode cX5_isName 32 = .ok (.ifCond .ne 16, 3) := by decide +kernel
theorem dX5_isName_35 : decode cX5_isName 35 = .ok (.aload_n 0, 1) := by decide +kernel
theorem dX5_isName_36 : decode cX5_isName 36 = .ok (.ldc 162, 2) := by decide +kernel
theorem dX5_isName_38 : decode cX5_isName 38 = .ok (.invokevirtual 154, 3) := by decide +kernel
theorem dX5_isName_41 : decode cX5_isName 41 = .ok (.ifCond .ne 7, 3) := by decide +kernel
theorem dX5_isName_44 : decode cX5_isName 44 = .ok (.iconst 1, 1) := by decide +kernel
theorem dX5_isName_45 : decode cX5_isName 45 = .ok (.goto 4, 3) := by decide +kernel
theorem dX5_isName_48 : decode cX5_isName 48 = .ok (.iconst 0, 1) := by decide +kernel
theorem dX5_isName_49 : decode cX5_isName 49 = .ok (.ireturn, 1) := by decide +kernel
theorem dX5_takesNumber_0 : decode cX5_takesNumber 0 = .ok (.aload_n 0, 1) := by decide +kernel
theorem dX5_takesNumber_1 : decode cX5_takesNumber 1 = .ok (.aload_n 0, 1) := by decide +kernel
theorem dX5_takesNumber_2 : decode cX5_takesNumber 2 = .ok (.getfield 109, 3) := by decide +kernel
theorem dX5_takesNumber_5 : decode cX5_takesNumber 5 = .ok (.iconst 2, 1) := by decide +kernel
theorem dX5_takesNumber_6 : decode cX5_takesNumber 6 = .ok (.if_icmp .ne 7, 3) := by decide +kernel
theorem dX5_takesNumber_9 : decode cX5_takesNumber 9 = .ok (.iconst 1, 1) := by decide +kernel
theorem dX5_takesNumber_10 : decode cX5_takesNumber 10 = .ok (.goto 4, 3) := by decide +kernel
theorem dX5_takesNumber_13 : decode cX5_takesNumber 13 = .ok (.iconst 0, 1) := by decide +kernel
theorem dX5_takesNumber_14 : decode cX5_takesNumber 14 = .ok (.iconst 1, 1) := by decide +kernel
theorem dX5_takesNumber_15 : decode cX5_takesNumber 15 = .ok (.invokevirtual 164, 3) := by decide +kernel
theorem dX5_takesNumber_18 : decode cX5_takesNumber 18 = .ok (.ifCond .eq 23, 3) := by decide +kernel
theorem dX5_takesNumber_21 : decode cX5_takesNumber 21 = .ok (.aload_n 0, 1) := by decide +kernel
theorem dX5_takesNumber_22 : decode cX5_takesNumber 22 = .ok (.aload_n 0, 1) := by decide +kernel
theorem dX5_takesNumber_23 : decode cX5_takesNumber 23 = .ok (.getfield 112, 3) := by decide +kernel
theorem dX5_takesNumber_26 : decode cX5_takesNumber 26 = .ok (.i2l, 1) := by decide +kernel
theorem dX5_takesNumber_27 : decode cX5_takesNumber 27 = .ok (.iload_n 1, 1) := by decide +kernel
theorem dX5_takesNumber_28 : decode cX5_takesNumber 28 = .ok (.i2l, 1) := by decide +kernel
theorem dX5_takesNumber_29 : decode cX5_takesNumber 29 = .ok (.iload_n 2, 1) := by decide +kernel
theorem dX5_takesNumber_30 : decode cX5_takesNumber 30 = .ok (.i2l, 1) := by decide +kernel
theorem dX5_takesNumber_31 : decode cX5_takesNumber 31 = .ok (.invokestatic 123, 3) := by decide +kernel
theorem dX5_takesNumber_34 : decode cX5_takesNumber 34 = .ok (.iconst 4, 1) := by decide +kernel
theorem dX5_takesNumber_35 : decode cX5_takesNumber 35 = .ok (.invokevirtual 164, 3) := by decide +kernel
theorem dX5_takesNumber_38 : decode cX5_takesNumber 38 = .ok (.ifCond .ne 5, 3) := by decide +kernel
theorem dX5_takesNumber_41 : decode cX5_takesNumber 41 = .ok (.iconst 0, 1) := by decide +kernel
theorem dX5_takesNumber_42 : decode cX5_takesNumber 42 = .ok (.ireturn, 1) := by decide +kernel
theorem dX5_takesNumber_43 : decode cX5_takesNumber 43 = .ok (.aload_n 0, 1) := by decide +kernel
theorem dX5_takesNumber_44 : decode cX5_takesNumber 44 = .ok (.aload_n 0, 1) := by decide +kernel
theorem dX5_takesNumber_45 : decode cX5_takesNumber 45 = .ok (.getfield 112, 3) := by decide +kernel
theorem dX5_takesNumber_48 : decode cX5_takesNumber 48 = .ok (.putfield 168, 3) := by decide +kernel
theorem dX5_takesNumber_51 : decode cX5_takesNumber 51 = .ok (.aload_n 0, 1) := by decide +kernel
theorem dX5_takesNumber_52 : decode cX5_takesNumber 52 = .ok (.invokevirtual 171, 3) := by decide +kernel
theorem dX5_takesNumber_55 : decode cX5_takesNumber 55 = .ok (.iconst 1, 1) := by decide +kernel
theorem dX5_takesNumber_56 : decode cX5_takesNumber 56 = .ok (.ireturn, 1) := by decide +kernel
theorem dX5_plain_0 : decode cX5_plain 0 = .ok (.aload_n 0, 1) := by decide +kernel
theorem dX5_plain_1 : decode cX5_plain 1 = .ok (.getfield 13, 3) := by decide +kernel
theorem dX5_plain_4 : decode cX5_plain 4 = .ok (.iload_n 1, 1) := by decide +kernel
theorem dX5_plain_5 : decode cX5_plain 5 = .ok (.iconst 0, 1) := by decide +kernel
theorem dX5_plain_6 : decode cX5_plain 6 = .ok (.iastore, 1) := by decide +kernel
theorem dX5_plain_7 : decode cX5_plain 7 = .ok (.aload_n 0, 1) := by decide +kernel
theorem dX5_plain_8 : decode cX5_plain 8 = .ok (.getfield 17, 3) := by decide +kernel
theorem dX5_plain_11 : decode cX5_plain 11 = .ok (.iload_n 1, 1) := by decide +kernel
theorem dX5_plain_12 : decode cX5_plain 12 = .ok (.iconst 0, 1) := by decide +kernel
theorem dX5_plain_13 : decode cX5_plain 13 = .ok (.iastore, 1) := by decide +kernel
theorem dX5_plain_14 : decode cX5_plain 14 = .ok (.aload_n 0, 1) := by decide +kernel
theorem dX5_plain_15 : decode cX5_plain 15 = .ok (.getfield 20, 3) := by decide +kernel
theorem dX5_plain_18 : decode cX5_plain 18 = .ok (.iload_n 1, 1) := by decide +kernel
theorem dX5_plain_19 : decode cX5_plain 19 = .ok (.iconst 4, 1) := by decide +kernel
theorem dX5_plain_20 : decode cX5_plain 20 = .ok (.iastore, 1) := by decide +kernel
theorem dX5_plain_21 : decode cX5_plain 21 = .ok (.aload_n 0, 1) := by decide +kernel
theorem dX5_plain_22 : decode cX5_plain 22 = .ok (.getfield 23, 3) := by decide +kernel
theorem dX5_plain_25 : decode cX5_plain 25 = .ok (.iload_n 1, 1) := by decide +kernel
theorem dX5_plain_26 : decode cX5_plain 26 = .ok (.iconst 4, 1) := by decide +kernel
theorem dX5_plain_27 : decode cX5_plain 27 = .ok (.iastore, 1) := by decide +kernel
theorem dX5_plain_28 : decode cX5_plain 28 = .ok (.aload_n 0, 1) := by decide +kernel
theorem dX5_plain_29 : decode cX5_plain 29 = .ok (.getfield 26, 3) := by decide +kernel
theorem dX5_plain_32 : decode cX5_plain 32 = .ok (.iload_n 1, 1) := by decide +kernel
theorem dX5_plain_33 : decode cX5_plain 33 = .ok (.bipush 30, 2) := by decide +kernel
theorem dX5_plain_35 : decode cX5_plain 35 = .ok (.iastore, 1) := by decide +kernel
theorem dX5_plain_36 : decode cX5_plain 36 = .ok (.sipush 160, 3) := by decide +kernel
theorem dX5_plain_39 : decode cX5_plain 39 = .ok (.iload_n 1, 1) := by decide +kernel
theorem dX5_plain_40 : decode cX5_plain 40 = .ok (.imul, 1) := by decide +kernel
theorem dX5_plain_41 : decode cX5_plain 41 = .ok (.istore_n 2, 1) := by decide +kernel
theorem dX5_plain_42 : decode cX5_plain 42 = .ok (.iload_n 2, 1) := by decide +kernel
theorem dX5_plain_43 : decode cX5_plain 43 = .ok (.sipush 160, 3) := by decide +kernel
theorem dX5_plain_46 : decode cX5_plain 46 = .ok (.iload_n 1, 1) := by decide +kernel
theorem dX5_plain_47 : decode cX5_plain 47 = .ok (.imul, 1) := by decide +kernel
theorem dX5_plain_48 : decode cX5_plain 48 = .ok (.sipush 160, 3) := by decide +kernel
theorem dX5_plain_51 : decode cX5_plain 51 = .ok (.iadd, 1) := by decide +kernel
theorem dX5_plain_52 : decode cX5_plain 52 = .ok (.if_icmp .ge 16, 3) := by decide +kernel
theorem dX5_plain_55 : decode cX5_plain 55 = .ok (.aload_n 0, 1) := by decide +kernel
theorem dX5_plain_56 : decode cX5_plain 56 = .ok (.getfield 45, 3) := by decide +kernel
theorem dX5_plain_59 : decode cX5_plain 59 = .ok (.iload_n 2, 1) := by decide +kernel
theorem dX5_plain_60 : decode cX5_plain 60 = .ok (.iconst 0, 1) := by decide +kernel
theorem dX5_plain_61 : decode cX5_plain 61 = .ok (.iastore, 1) := by decide +kernel
theorem dX5_plain_62 : decode cX5_plain 62 = .ok (.iinc 2 1, 3) := by decide +kernel
theorem dX5_plain_65 : decode cX5_plain 65 = .ok (.goto (-23), 3) := by decide +kernel
theorem dX5_plain_68 : decode cX5_plain 68 = .ok (.return_, 1) := by decide +kernel
theorem dX5_itemNamed_0 : decode cX5_itemNamed 0 = .ok (.iconst 0, 1) := by decide +kernel
theorem dX5_itemNamed_1 : decode cX5_itemNamed 1 = .ok (.istore_n 1, 1) := by decide +kernel
theorem dX5_itemNamed_2 : decode cX5_itemNamed 2 = .ok (.iload_n 1, 1) := by decide +kernel
theorem dX5_itemNamed_3 : decode cX5_itemNamed 3 = .ok (.aload_n 0, 1) := by decide +kernel
theorem dX5_itemNamed_4 : decode cX5_itemNamed 4 = .ok (.getfield 13, 3) := by decide +kernel
theorem dX5_itemNamed_7 : decode cX5_itemNamed 7 = .ok (.aload_n 0, 1) := by decide +kernel
theorem dX5_itemNamed_8 : decode cX5_itemNamed 8 = .ok (.getfield 174, 3) := by decide +kernel
theorem dX5_itemNamed_11 : decode cX5_itemNamed 11 = .ok (.iaload, 1) := by decide +kernel
theorem dX5_itemNamed_12 : decode cX5_itemNamed 12 = .ok (.if_icmp .ge 33, 3) := by decide +kernel
theorem dX5_itemNamed_15 : decode cX5_itemNamed 15 = .ok (.aload_n 0, 1) := by decide +kernel
theorem dX5_itemNamed_16 : decode cX5_itemNamed 16 = .ok (.getfield 29, 3) := by decide +kernel
theorem dX5_itemNamed_19 : decode cX5_itemNamed 19 = .ok (.bipush 10, 2) := by decide +kernel
theorem dX5_itemNamed_21 : decode cX5_itemNamed 21 = .ok (.aload_n 0, 1) := by decide +kernel
theorem dX5_itemNamed_22 : decode cX5_itemNamed 22 = .ok (.getfield 174, 3) := by decide +kernel
theorem dX5_itemNamed_25 : decode cX5_itemNamed 25 = .ok (.imul, 1) := by decide +kernel
theorem dX5_itemNamed_26 : decode cX5_itemNamed 26 = .ok (.iload_n 1, 1) := by decide +kernel
theorem dX5_itemNamed_27 : decode cX5_itemNamed 27 = .ok (.iadd, 1) := by decide +kernel
theorem dX5_itemNamed_28 : decode cX5_itemNamed 28 = .ok (.laload, 1) := by decide +kernel
theorem dX5_itemNamed_29 : decode cX5_itemNamed 29 = .ok (.aload_n 0, 1) := by decide +kernel
theorem dX5_itemNamed_30 : decode cX5_itemNamed 30 = .ok (.getfield 115, 3) := by decide +kernel
theorem dX5_itemNamed_33 : decode cX5_itemNamed 33 = .ok (.lcmp, 1) := by decide +kernel
theorem dX5_itemNamed_34 : decode cX5_itemNamed 34 = .ok (.ifCond .ne 5, 3) := by decide +kernel
theorem dX5_itemNamed_37 : decode cX5_itemNamed 37 = .ok (.iload_n 1, 1) := by decide +kernel
theorem dX5_itemNamed_38 : decode cX5_itemNamed 38 = .ok (.ireturn, 1) := by decide +kernel
theorem dX5_itemNamed_39 : decode cX5_itemNamed 39 = .ok (.iinc 1 1, 3) := by decide +kernel
theorem dX5_itemNamed_42 : decode cX5_itemNamed 42 = .ok (.goto (-40), 3) := by decide +kernel
theorem dX5_itemNamed_45 : decode cX5_itemNamed 45 = .ok (.iconst (-1), 1) := by decide +kernel
theorem dX5_itemNamed_46 : decode cX5_itemNamed 46 = .ok (.ireturn, 1) := by decide +kernel
theorem dX5_isOrderNamed_0 : decode cX5_isOrderNamed 0 = .ok (.iconst 0, 1) := by decide +kernel
theorem dX5_isOrderNamed_1 : decode cX5_isOrderNamed 1 = .ok (.istore_n 1, 1) := by decide +kernel
theorem dX5_isOrderNamed_2 : decode cX5_isOrderNamed 2 = .ok (.iload_n 1, 1) := by decide +kernel
theorem dX5_isOrderNamed_3 : decode cX5_isOrderNamed 3 = .ok (.aload_n 0, 1) := by decide +kernel
theorem dX5_isOrderNamed_4 : decode cX5_isOrderNamed 4 = .ok (.getfield 17, 3) := by decide +kernel
theorem dX5_isOrderNamed_7 : decode cX5_isOrderNamed 7 = .ok (.aload_n 0, 1) := by decide +kernel
theorem dX5_isOrderNamed_8 : decode cX5_isOrderNamed 8 = .ok (.getfield 174, 3) := by decide +kernel
theorem dX5_isOrderNamed_11 : decode cX5_isOrderNamed 11 = .ok (.iaload, 1) := by decide +kernel
theorem dX5_isOrderNamed_12 : decode cX5_isOrderNamed 12 = .ok (.if_icmp .ge 33, 3) := by decide +kernel
theorem dX5_isOrderNamed_15 : decode cX5_isOrderNamed 15 = .ok (.aload_n 0, 1) := by decide +kernel
theorem dX5_isOrderNamed_16 : decode cX5_isOrderNamed 16 = .ok (.getfield 39, 3) := by decide +kernel
theorem dX5_isOrderNamed_19 : decode cX5_isOrderNamed 19 = .ok (.bipush 16, 2) := by decide +kernel
theorem dX5_isOrderNamed_21 : decode cX5_isOrderNamed 21 = .ok (.aload_n 0, 1) := by decide +kernel
theorem dX5_isOrderNamed_22 : decode cX5_isOrderNamed 22 = .ok (.getfield 174, 3) := by decide +kernel
theorem dX5_isOrderNamed_25 : decode cX5_isOrderNamed 25 = .ok (.imul, 1) := by decide +kernel
theorem dX5_isOrderNamed_26 : decode cX5_isOrderNamed 26 = .ok (.iload_n 1, 1) := by decide +kernel
theorem dX5_isOrderNamed_27 : decode cX5_isOrderNamed 27 = .ok (.iadd, 1) := by decide +kernel
theorem dX5_isOrderNamed_28 : decode cX5_isOrderNamed 28 = .ok (.laload, 1) := by decide +kernel
theorem dX5_isOrderNamed_29 : decode cX5_isOrderNamed 29 = .ok (.aload_n 0, 1) := by decide +kernel
theorem dX5_isOrderNamed_30 : decode cX5_isOrderNamed 30 = .ok (.getfield 115, 3) := by decide +kernel
theorem dX5_isOrderNamed_33 : decode cX5_isOrderNamed 33 = .ok (.lcmp, 1) := by decide +kernel
theorem dX5_isOrderNamed_34 : decode cX5_isOrderNamed 34 = .ok (.ifCond .ne 5, 3) := by decide +kernel
theorem dX5_isOrderNamed_37 : decode cX5_isOrderNamed 37 = .ok (.iconst 1, 1) := by decide +kernel
theorem dX5_isOrderNamed_38 : decode cX5_isOrderNamed 38 = .ok (.ireturn, 1) := by decide +kernel
theorem dX5_isOrderNamed_39 : decode cX5_isOrderNamed 39 = .ok (.iinc 1 1, 3) := by decide +kernel
theorem dX5_isOrderNamed_42 : decode cX5_isOrderNamed 42 = .ok (.goto (-40), 3) := by decide +kernel
theorem dX5_isOrderNamed_45 : decode cX5_isOrderNamed 45 = .ok (.iconst 0, 1) := by decide +kernel
theorem dX5_isOrderNamed_46 : decode cX5_isOrderNamed 46 = .ok (.ireturn, 1) := by decide +kernel
theorem dX5_newName_0 : decode cX5_newName 0 = .ok (.aload_n 0, 1) := by decide +kernel
theorem dX5_newName_1 : decode cX5_newName 1 = .ok (.aload_n 0, 1) := by decide +kernel
theorem dX5_newName_2 : decode cX5_newName 2 = .ok (.invokevirtual 177, 3) := by decide +kernel
theorem dX5_newName_5 : decode cX5_newName 5 = .ok (.iconst 1, 1) := by decide +kernel
theorem dX5_newName_6 : decode cX5_newName 6 = .ok (.invokevirtual 164, 3) := by decide +kernel
theorem dX5_newName_9 : decode cX5_newName 9 = .ok (.ifCond .eq 30, 3) := by decide +kernel
theorem dX5_newName_12 : decode cX5_newName 12 = .ok (.aload_n 0, 1) := by decide +kernel
theorem dX5_newName_13 : decode cX5_newName 13 = .ok (.aload_n 0, 1) := by decide +kernel
theorem dX5_newName_14 : decode cX5_newName 14 = .ok (.invokevirtual 181, 3) := by decide +kernel
theorem dX5_newName_17 : decode cX5_newName 17 = .ok (.ifCond .ge 14, 3) := by decide +kernel
theorem dX5_newName_20 : decode cX5_newName 20 = .ok (.aload_n 0, 1) := by decide +kernel
theorem dX5_newName_21 : decode cX5_newName 21 = .ok (.invokevirtual 184, 3) := by decide +kernel
theorem dX5_newName_24 : decode cX5_newName 24 = .ok (.ifCond .ne 7, 3) := by decide +kernel
theorem dX5_newName_27 : decode cX5_newName 27 = .ok (.iconst 1, 1) := by decide +kernel
theorem dX5_newName_28 : decode cX5_newName 28 = .ok (.goto 4, 3) := by decide +kernel
theorem dX5_newName_31 : decode cX5_newName 31 = .ok (.iconst 0, 1) := by decide +kernel
theorem dX5_newName_32 : decode cX5_newName 32 = .ok (.iconst 2, 1) := by decide +kernel
theorem dX5_newName_33 : decode cX5_newName 33 = .ok (.invokevirtual 164, 3) := by decide +kernel
theorem dX5_newName_36 : decode cX5_newName 36 = .ok (.ifCond .ne 5, 3) := by decide +kernel
theorem dX5_newName_39 : decode cX5_newName 39 = .ok (.iconst 0, 1) := by decide +kernel
theorem dX5_newName_40 : decode cX5_newName 40 = .ok (.ireturn, 1) := by decide +kernel
theorem dX5_newName_41 : decode cX5_newName 41 = .ok (.aload_n 0, 1) := by decide +kernel
theorem dX5_newName_42 : decode cX5_newName 42 = .ok (.aload_n 0, 1) := by decide +kernel
theorem dX5_newName_43 : decode cX5_newName 43 = .ok (.getfield 115, 3) := by decide +kernel
theorem dX5_newName_46 : decode cX5_newName 46 = .ok (.putfield 187, 3) := by decide +kernel
theorem dX5_newName_49 : decode cX5_newName 49 = .ok (.aload_n 0, 1) := by decide +kernel
theorem dX5_newName_50 : decode cX5_newName 50 = .ok (.invokevirtual 171, 3) := by decide +kernel
theorem dX5_newName_53 : decode cX5_newName 53 = .ok (.iconst 1, 1) := by decide +kernel
theorem dX5_newName_54 : decode cX5_newName 54 = .ok (.ireturn, 1) := by decide +kernel
theorem dX5_holesLine_0 : decode cX5_holesLine 0 = .ok (.aload_n 0, 1) := by decide +kernel
theorem dX5_holesLine_1 : decode cX5_holesLine 1 = .ok (.iconst 1, 1) := by decide +kernel
theorem dX5_holesLine_2 : decode cX5_holesLine 2 = .ok (.bipush 8, 2) := by decide +kernel
theorem dX5_holesLine_4 : decode cX5_holesLine 4 = .ok (.invokevirtual 190, 3) := by decide +kernel
theorem dX5_holesLine_7 : decode cX5_holesLine 7 = .ok (.ifCond .ne 5, 3) := by decide +kernel
theorem dX5_holesLine_10 : decode cX5_holesLine 10 = .ok (.iconst 0, 1) := by decide +kernel
theorem dX5_holesLine_11 : decode cX5_holesLine 11 = .ok (.ireturn, 1) := by decide +kernel
theorem dX5_holesLine_12 : decode cX5_holesLine 12 = .ok (.aload_n 0, 1) := by decide +kernel
theorem dX5_holesLine_13 : decode cX5_holesLine 13 = .ok (.getfield 20, 3) := by decide +kernel
theorem dX5_holesLine_16 : decode cX5_holesLine 16 = .ok (.aload_n 0, 1) := by decide +kernel
theorem dX5_holesLine_17 : decode cX5_holesLine 17 = .ok (.getfield 174, 3) := by decide +kernel
theorem dX5_holesLine_20 : decode cX5_holesLine 20 = .ok (.aload_n 0, 1) := by decide +kernel
theorem dX5_holesLine_21 : decode cX5_holesLine 21 = .ok (.getfield 168, 3) := by decide +kernel
theorem dX5_holesLine_24 : decode cX5_holesLine 24 = .ok (.iastore, 1) := by decide +kernel
theorem dX5_holesLine_25 : decode cX5_holesLine 25 = .ok (.aload_n 0, 1) := by decide +kernel
theorem dX5_holesLine_26 : decode cX5_holesLine 26 = .ok (.iconst 1, 1) := by decide +kernel
theorem dX5_holesLine_27 : decode cX5_holesLine 27 = .ok (.putfield 194, 3) := by decide +kernel
theorem dX5_holesLine_30 : decode cX5_holesLine 30 = .ok (.iconst 1, 1) := by decide +kernel
theorem dX5_holesLine_31 : decode cX5_holesLine 31 = .ok (.ireturn, 1) := by decide +kernel
theorem dX5_waveLine_0 : decode cX5_waveLine 0 = .ok (.aload_n 0, 1) := by decide +kernel
theorem dX5_waveLine_1 : decode cX5_waveLine 1 = .ok (.iconst 1, 1) := by decide +kernel
theorem dX5_waveLine_2 : decode cX5_waveLine 2 = .ok (.bipush 8, 2) := by decide +kernel
theorem dX5_waveLine_4 : decode cX5_waveLine 4 = .ok (.invokevirtual 190, 3) := by decide +kernel
theorem dX5_waveLine_7 : decode cX5_waveLine 7 = .ok (.ifCond .ne 5, 3) := by decide +kernel
theorem dX5_waveLine_10 : decode cX5_waveLine 10 = .ok (.iconst 0, 1) := by decide +kernel
theorem dX5_waveLine_11 : decode cX5_waveLine 11 = .ok (.ireturn, 1) := by decide +kernel
theorem dX5_waveLine_12 : decode cX5_waveLine 12 = .ok (.aload_n 0, 1) := by decide +kernel
theorem dX5_waveLine_13 : decode cX5_waveLine 13 = .ok (.getfield 23, 3) := by decide +kernel
theorem dX5_waveLine_16 : decode cX5_waveLine 16 = .ok (.aload_n 0, 1) := by decide +kernel
theorem dX5_waveLine_17 : decode cX5_waveLine 17 = .ok (.getfield 174, 3) := by decide +kernel
theorem dX5_waveLine_20 : decode cX5_waveLine 20 = .ok (.aload_n 0, 1) := by decide +kernel
theorem dX5_waveLine_21 : decode cX5_waveLine 21 = .ok (.getfield 168, 3) := by decide +kernel
theorem dX5_waveLine_24 : decode cX5_waveLine 24 = .ok (.iastore, 1) := by decide +kernel
theorem dX5_waveLine_25 : decode cX5_waveLine 25 = .ok (.aload_n 0, 1) := by decide +kernel
theorem dX5_waveLine_26 : decode cX5_waveLine 26 = .ok (.iconst 1, 1) := by decide +kernel
theorem dX5_waveLine_27 : decode cX5_waveLine 27 = .ok (.bipush 60, 2) := by decide +kernel
theorem dX5_waveLine_29 : decode cX5_waveLine 29 = .ok (.invokevirtual 190, 3) := by decide +kernel
theorem dX5_waveLine_32 : decode cX5_waveLine 32 = .ok (.ifCond .ne 5, 3) := by decide +kernel
theorem dX5_waveLine_35 : decode cX5_waveLine 35 = .ok (.iconst 0, 1) := by decide +kernel
theorem dX5_waveLine_36 : decode cX5_waveLine 36 = .ok (.ireturn, 1) := by decide +kernel
theorem dX5_waveLine_37 : decode cX5_waveLine 37 = .ok (.aload_n 0, 1) := by decide +kernel
theorem dX5_waveLine_38 : decode cX5_waveLine 38 = .ok (.getfield 26, 3) := by decide +kernel
theorem dX5_waveLine_41 : decode cX5_waveLine 41 = .ok (.aload_n 0, 1) := by decide +kernel
theorem dX5_waveLine_42 : decode cX5_waveLine 42 = .ok (.getfield 174, 3) := by decide +kernel
theorem dX5_waveLine_45 : decode cX5_waveLine 45 = .ok (.aload_n 0, 1) := by decide +kernel
theorem dX5_waveLine_46 : decode cX5_waveLine 46 = .ok (.getfield 168, 3) := by decide +kernel
theorem dX5_waveLine_49 : decode cX5_waveLine 49 = .ok (.iastore, 1) := by decide +kernel
theorem dX5_waveLine_50 : decode cX5_waveLine 50 = .ok (.aload_n 0, 1) := by decide +kernel
theorem dX5_waveLine_51 : decode cX5_waveLine 51 = .ok (.iconst 1, 1) := by decide +kernel
theorem dX5_waveLine_52 : decode cX5_waveLine 52 = .ok (.putfield 198, 3) := by decide +kernel
theorem dX5_waveLine_55 : decode cX5_waveLine 55 = .ok (.iconst 1, 1) := by decide +kernel
theorem dX5_waveLine_56 : decode cX5_waveLine 56 = .ok (.ireturn, 1) := by decide +kernel
theorem dX5_itemLine_0 : decode cX5_itemLine 0 = .ok (.aload_n 0, 1) := by decide +kernel
theorem dX5_itemLine_1 : decode cX5_itemLine 1 = .ok (.invokevirtual 201, 3) := by decide +kernel
theorem dX5_itemLine_4 : decode cX5_itemLine 4 = .ok (.ifCond .ne 5, 3) := by decide +kernel
theorem dX5_itemLine_7 : decode cX5_itemLine 7 = .ok (.iconst 0, 1) := by decide +kernel
theorem dX5_itemLine_8 : decode cX5_itemLine 8 = .ok (.ireturn, 1) := by decide +kernel
theorem dX5_itemLine_9 : decode cX5_itemLine 9 = .ok (.bipush 10, 2) := by decide +kernel
theorem dX5_itemLine_11 : decode cX5_itemLine 11 = .ok (.aload_n 0, 1) := by decide +kernel
theorem dX5_itemLine_12 : decode cX5_itemLine 12 = .ok (.getfield 174, 3) := by decide +kernel
theorem dX5_itemLine_15 : decode cX5_itemLine 15 = .ok (.imul, 1) := by decide +kernel
theorem dX5_itemLine_16 : decode cX5_itemLine 16 = .ok (.aload_n 0, 1) := by decide +kernel
theorem dX5_itemLine_17 : decode cX5_itemLine 17 = .ok (.getfield 13, 3) := by decide +kernel
theorem dX5_itemLine_20 : decode cX5_itemLine 20 = .ok (.aload_n 0, 1) := by decide +kernel
theorem dX5_itemLine_21 : decode cX5_itemLine 21 = .ok (.getfield 174, 3) := by decide +kernel
theorem dX5_itemLine_24 : decode cX5_itemLine 24 = .ok (.iaload, 1) := by decide +kernel
theorem dX5_itemLine_25 : decode cX5_itemLine 25 = .ok (.iadd, 1) := by decide +kernel
theorem dX5_itemLine_26 : decode cX5_itemLine 26 = .ok (.istore_n 1, 1) := by decide +kernel
theorem dX5_itemLine_27 : decode cX5_itemLine 27 = .ok (.aload_n 0, 1) := by decide +kernel
theorem dX5_itemLine_28 : decode cX5_itemLine 28 = .ok (.getfield 187, 3) := by decide +kernel
theorem dX5_itemLine_31 : decode cX5_itemLine 31 = .ok (.lstore_n 2, 1) := by decide +kernel
theorem dX5_itemLine_32 : decode cX5_itemLine 32 = .ok (.aload_n 0, 1) := by decide +kernel
theorem dX5_itemLine_33 : decode cX5_itemLine 33 = .ok (.iconst 0, 1) := by decide +kernel
theorem dX5_itemLine_34 : decode cX5_itemLine 34 = .ok (.bipush 99, 2) := by decide +kernel
theorem dX5_itemLine_36 : decode cX5_itemLine 36 = .ok (.invokevirtual 190, 3) := by decide +kernel
theorem dX5_itemLine_39 : decode cX5_itemLine 39 = .ok (.ifCond .ne 5, 3) := by decide +kernel
theorem dX5_itemLine_42 : decode cX5_itemLine 42 = .ok (.iconst 0, 1) := by decide +kernel
theorem dX5_itemLine_43 : decode cX5_itemLine 43 = .ok (.ireturn, 1) := by decide +kernel
theorem dX5_itemLine_44 : decode cX5_itemLine 44 = .ok (.aload_n 0, 1) := by decide +kernel
theorem dX5_itemLine_45 : decode cX5_itemLine 45 = .ok (.getfield 33, 3) := by decide +kernel
theorem dX5_itemLine_48 : decode cX5_itemLine 48 = .ok (.iload_n 1, 1) := by decide +kernel
theorem dX5_itemLine_49 : decode cX5_itemLine 49 = .ok (.aload_n 0, 1) := by decide +kernel
theorem dX5_itemLine_50 : decode cX5_itemLine 50 = .ok (.getfield 168, 3) := by decide +kernel
theorem dX5_itemLine_53 : decode cX5_itemLine 53 = .ok (.iastore, 1) := by decide +kernel
theorem dX5_itemLine_54 : decode cX5_itemLine 54 = .ok (.aload_n 0, 1) := by decide +kernel
theorem dX5_itemLine_55 : decode cX5_itemLine 55 = .ok (.iconst 0, 1) := by decide +kernel
theorem dX5_itemLine_56 : decode cX5_itemLine 56 = .ok (.bipush 99, 2) := by decide +kernel
theorem dX5_itemLine_58 : decode cX5_itemLine 58 = .ok (.invokevirtual 190, 3) := by decide +kernel
theorem dX5_itemLine_61 : decode cX5_itemLine 61 = .ok (.ifCond .ne 5, 3) := by decide +kernel
theorem dX5_itemLine_64 : decode cX5_itemLine 64 = .ok (.iconst 0, 1) := by decide +kernel
theorem dX5_itemLine_65 : decode cX5_itemLine 65 = .ok (.ireturn, 1) := by decide +kernel
theorem dX5_itemLine_66 : decode cX5_itemLine 66 = .ok (.aload_n 0, 1) := by decide +kernel
theorem dX5_itemLine_67 : decode cX5_itemLine 67 = .ok (.getfield 36, 3) := by decide +kernel
theorem dX5_itemLine_70 : decode cX5_itemLine 70 = .ok (.iload_n 1, 1) := by decide +kernel
theorem dX5_itemLine_71 : decode cX5_itemLine 71 = .ok (.aload_n 0, 1) := by decide +kernel
theorem dX5_itemLine_72 : decode cX5_itemLine 72 = .ok (.getfield 168, 3) := by decide +kernel
theorem dX5_itemLine_75 : decode cX5_itemLine 75 = .ok (.iastore, 1) := by decide +kernel
theorem dX5_itemLine_76 : decode cX5_itemLine 76 = .ok (.aload_n 0, 1) := by decide +kernel
theorem dX5_itemLine_77 : decode cX5_itemLine 77 = .ok (.getfield 29, 3) := by decide +kernel
theorem dX5_itemLine_80 : decode cX5_itemLine 80 = .ok (.iload_n 1, 1) := by decide +kernel
theorem dX5_itemLine_81 : decode cX5_itemLine 81 = .ok (.lload_n 2, 1) := by decide +kernel
theorem dX5_itemLine_82 : decode cX5_itemLine 82 = .ok (.lastore, 1) := by decide +kernel
theorem dX5_itemLine_83 : decode cX5_itemLine 83 = .ok (.aload_n 0, 1) := by decide +kernel
theorem dX5_itemLine_84 : decode cX5_itemLine 84 = .ok (.getfield 13, 3) := by decide +kernel
theorem dX5_itemLine_87 : decode cX5_itemLine 87 = .ok (.aload_n 0, 1) := by decide +kernel
theorem dX5_itemLine_88 : decode cX5_itemLine 88 = .ok (.getfield 174, 3) := by decide +kernel
theorem dX5_itemLine_91 : decode cX5_itemLine 91 = .ok (.dup2, 1) := by decide +kernel
theorem dX5_itemLine_92 : decode cX5_itemLine 92 = .ok (.iaload, 1) := by decide +kernel
theorem dX5_itemLine_93 : decode cX5_itemLine 93 = .ok (.iconst 1, 1) := by decide +kernel
theorem dX5_itemLine_94 : decode cX5_itemLine 94 = .ok (.iadd, 1) := by decide +kernel
theorem dX5_itemLine_95 : decode cX5_itemLine 95 = .ok (.iastore, 1) := by decide +kernel
theorem dX5_itemLine_96 : decode cX5_itemLine 96 = .ok (.iconst 1, 1) := by decide +kernel
theorem dX5_itemLine_97 : decode cX5_itemLine 97 = .ok (.ireturn, 1) := by decide +kernel
theorem dX5_orderLine_0 : decode cX5_orderLine 0 = .ok (.aload_n 0, 1) := by decide +kernel
theorem dX5_orderLine_1 : decode cX5_orderLine 1 = .ok (.invokevirtual 201, 3) := by decide +kernel
theorem dX5_orderLine_4 : decode cX5_orderLine 4 = .ok (.ifCond .ne 5, 3) := by decide +kernel
theorem dX5_orderLine_7 : decode cX5_orderLine 7 = .ok (.iconst 0, 1) := by decide +kernel
theorem dX5_orderLine_8 : decode cX5_orderLine 8 = .ok (.ireturn, 1) := by decide +kernel
theorem dX5_orderLine_9 : decode cX5_orderLine 9 = .ok (.bipush 16, 2) := by decide +kernel
theorem dX5_orderLine_11 : decode cX5_orderLine 11 = .ok (.aload_n 0, 1) := by decide +kernel
theorem dX5_orderLine_12 : decode cX5_orderLine 12 = .ok (.getfield 174, 3) := by decide +kernel
theorem dX5_orderLine_15 : decode cX5_orderLine 15 = .ok (.imul, 1) := by decide +kernel
theorem dX5_orderLine_16 : decode cX5_orderLine 16 = .ok (.aload_n 0, 1) := by decide +kernel
theorem dX5_orderLine_17 : decode cX5_orderLine 17 = .ok (.getfield 17, 3) := by decide +kernel
theorem dX5_orderLine_20 : decode cX5_orderLine 20 = .ok (.aload_n 0, 1) := by decide +kernel
theorem dX5_orderLine_21 : decode cX5_orderLine 21 = .ok (.getfield 174, 3) := by decide +kernel
theorem dX5_orderLine_24 : decode cX5_orderLine 24 = .ok (.iaload, 1) := by decide +kernel
theorem dX5_orderLine_25 : decode cX5_orderLine 25 = .ok (.iadd, 1) := by decide +kernel
theorem dX5_orderLine_26 : decode cX5_orderLine 26 = .ok (.istore_n 1, 1) := by decide +kernel
theorem dX5_orderLine_27 : decode cX5_orderLine 27 = .ok (.aload_n 0, 1) := by decide +kernel
theorem dX5_orderLine_28 : decode cX5_orderLine 28 = .ok (.getfield 187, 3) := by decide +kernel
theorem dX5_orderLine_31 : decode cX5_orderLine 31 = .ok (.lstore_n 2, 1) := by decide +kernel
theorem dX5_orderLine_32 : decode cX5_orderLine 32 = .ok (.aload_n 0, 1) := by decide +kernel
theorem dX5_orderLine_33 : decode cX5_orderLine 33 = .ok (.iconst 0, 1) := by decide +kernel
theorem dX5_orderLine_34 : decode cX5_orderLine 34 = .ok (.bipush 99, 2) := by decide +kernel
theorem dX5_orderLine_36 : decode cX5_orderLine 36 = .ok (.invokevirtual 190, 3) := by decide +kernel
theorem dX5_orderLine_39 : decode cX5_orderLine 39 = .ok (.ifCond .ne 5, 3) := by decide +kernel
theorem dX5_orderLine_42 : decode cX5_orderLine 42 = .ok (.iconst 0, 1) := by decide +kernel
theorem dX5_orderLine_43 : decode cX5_orderLine 43 = .ok (.ireturn, 1) := by decide +kernel
theorem dX5_orderLine_44 : decode cX5_orderLine 44 = .ok (.aload_n 0, 1) := by decide +kernel
theorem dX5_orderLine_45 : decode cX5_orderLine 45 = .ok (.getfield 42, 3) := by decide +kernel
theorem dX5_orderLine_48 : decode cX5_orderLine 48 = .ok (.iload_n 1, 1) := by decide +kernel
theorem dX5_orderLine_49 : decode cX5_orderLine 49 = .ok (.aload_n 0, 1) := by decide +kernel
theorem dX5_orderLine_50 : decode cX5_orderLine 50 = .ok (.getfield 168, 3) := by decide +kernel
theorem dX5_orderLine_53 : decode cX5_orderLine 53 = .ok (.iastore, 1) := by decide +kernel
theorem dX5_orderLine_54 : decode cX5_orderLine 54 = .ok (.iconst 0, 1) := by decide +kernel
theorem dX5_orderLine_55 : decode cX5_orderLine 55 = .ok (.istore 4, 2) := by decide +kernel
theorem dX5_orderLine_57 : decode cX5_orderLine 57 = .ok (.aload_n 0, 1) := by decide +kernel
theorem dX5_orderLine_58 : decode cX5_orderLine 58 = .ok (.aload_n 0, 1) := by decide +kernel
theorem dX5_orderLine_59 : decode cX5_orderLine 59 = .ok (.invokevirtual 177, 3) := by decide +kernel
theorem dX5_orderLine_62 : decode cX5_orderLine 62 = .ok (.iconst 1, 1) := by decide +kernel
theorem dX5_orderLine_63 : decode cX5_orderLine 63 = .ok (.invokevirtual 164, 3) := by decide +kernel
theorem dX5_orderLine_66 : decode cX5_orderLine 66 = .ok (.ifCond .ne 5, 3) := by decide +kernel
theorem dX5_orderLine_69 : decode cX5_orderLine 69 = .ok (.iconst 0, 1) := by decide +kernel
theorem dX5_orderLine_70 : decode cX5_orderLine 70 = .ok (.ireturn, 1) := by decide +kernel
theorem dX5_orderLine_71 : decode cX5_orderLine 71 = .ok (.aload_n 0, 1) := by decide +kernel
theorem dX5_orderLine_72 : decode cX5_orderLine 72 = .ok (.invokevirtual 181, 3) := by decide +kernel
theorem dX5_orderLine_75 : decode cX5_orderLine 75 = .ok (.istore 5, 2) := by decide +kernel
theorem dX5_orderLine_77 : decode cX5_orderLine 77 = .ok (.aload_n 0, 1) := by decide +kernel
theorem dX5_orderLine_78 : decode cX5_orderLine 78 = .ok (.iload 5, 2) := by decide +kernel
theorem dX5_orderLine_80 : decode cX5_orderLine 80 = .ok (.ifCond .lt 18, 3) := by decide +kernel
theorem dX5_orderLine_83 : decode cX5_orderLine 83 = .ok (.aload_n 0, 1) := by decide +kernel
theorem dX5_orderLine_84 : decode cX5_orderLine 84 = .ok (.getfield 45, 3) := by decide +kernel
theorem dX5_orderLine_87 : decode cX5_orderLine 87 = .ok (.bipush 10, 2) := by decide +kernel
theorem dX5_orderLine_89 : decode cX5_orderLine 89 = .ok (.iload_n 1, 1) := by decide +kernel
theorem dX5_orderLine_90 : decode cX5_orderLine 90 = .ok (.imul, 1) := by decide +kernel
theorem dX5_orderLine_91 : decode cX5_orderLine 91 = .ok (.iload 5, 2) := by decide +kernel
theorem dX5_orderLine_93 : decode cX5_orderLine 93 = .ok (.iadd, 1) := by decide +kernel
theorem dX5_orderLine_94 : decode cX5_orderLine 94 = .ok (.iaload, 1) := by decide +kernel
theorem dX5_orderLine_95 : decode cX5_orderLine 95 = .ok (.ifCond .ne 7, 3) := by decide +kernel
theorem dX5_orderLine_98 : decode cX5_orderLine 98 = .ok (.iconst 1, 1) := by decide +kernel
theorem dX5_orderLine_99 : decode cX5_orderLine 99 = .ok (.goto 4, 3) := by decide +kernel
theorem dX5_orderLine_102 : decode cX5_orderLine 102 = .ok (.iconst 0, 1) := by decide +kernel
theorem dX5_orderLine_103 : decode cX5_orderLine 103 = .ok (.iconst 2, 1) := by decide +kernel
theorem dX5_orderLine_104 : decode cX5_orderLine 104 = .ok (.invokevirtual 164, 3) := by decide +kernel
theorem dX5_orderLine_107 : decode cX5_orderLine 107 = .ok (.ifCond .eq 41, 3) := by decide +kernel
theorem dX5_orderLine_110 : decode cX5_orderLine 110 = .ok (.aload_n 0, 1) := by decide +kernel
theorem dX5_orderLine_111 : decode cX5_orderLine 111 = .ok (.iload 5, 2) := by decide +kernel
theorem dX5_orderLine_113 : decode cX5_orderLine 113 = .ok (.ifCond .lt 7, 3) := by decide +kernel
theorem dX5_orderLine_116 : decode cX5_orderLine 116 = .ok (.iconst 1, 1) := by decide +kernel
theorem dX5_orderLine_117 : decode cX5_orderLine 117 = .ok (.goto 4, 3) := by decide +kernel
theorem dX5_orderLine_120 : decode cX5_orderLine 120 = .ok (.iconst 0, 1) := by decide +kernel
theorem dX5_orderLine_121 : decode cX5_orderLine 121 = .ok (.iconst 3, 1) := by decide +kernel
theorem dX5_orderLine_122 : decode cX5_orderLine 122 = .ok (.invokevirtual 164, 3) := by decide +kernel
theorem dX5_orderLine_125 : decode cX5_orderLine 125 = .ok (.ifCond .eq 23, 3) := by decide +kernel
theorem dX5_orderLine_128 : decode cX5_orderLine 128 = .ok (.aload_n 0, 1) := by decide +kernel
theorem dX5_orderLine_129 : decode cX5_orderLine 129 = .ok (.iload 4, 2) := by decide +kernel
theorem dX5_orderLine_131 : decode cX5_orderLine 131 = .ok (.bipush 6, 2) := by decide +kernel
theorem dX5_orderLine_133 : decode cX5_orderLine 133 = .ok (.if_icmp .ge 7, 3) := by decide +kernel
theorem dX5_orderLine_136 : decode cX5_orderLine 136 = .ok (.iconst 1, 1) := by decide +kernel
theorem dX5_orderLine_137 : decode cX5_orderLine 137 = .ok (.goto 4, 3) := by decide +kernel
theorem dX5_orderLine_140 : decode cX5_orderLine 140 = .ok (.iconst 0, 1) := by decide +kernel
theorem dX5_orderLine_141 : decode cX5_orderLine 141 = .ok (.iconst 5, 1) := by decide +kernel
theorem dX5_orderLine_142 : decode cX5_orderLine 142 = .ok (.invokevirtual 164, 3) := by decide +kernel
theorem dX5_orderLine_145 : decode cX5_orderLine 145 = .ok (.ifCond .ne 5, 3) := by decide +kernel
theorem dX5_orderLine_148 : decode cX5_orderLine 148 = .ok (.iconst 0, 1) := by decide +kernel
theorem dX5_orderLine_149 : decode cX5_orderLine 149 = .ok (.ireturn, 1) := by decide +kernel
theorem dX5_orderLine_150 : decode cX5_orderLine 150 = .ok (.aload_n 0, 1) := by decide +kernel
theorem dX5_orderLine_151 : decode cX5_orderLine 151 = .ok (.invokevirtual 171, 3) := by decide +kernel
theorem dX5_orderLine_154 : decode cX5_orderLine 154 = .ok (.aload_n 0, 1) := by decide +kernel
theorem dX5_orderLine_155 : decode cX5_orderLine 155 = .ok (.iconst 1, 1) := by decide +kernel
theorem dX5_orderLine_156 : decode cX5_orderLine 156 = .ok (.bipush 9, 2) := by decide +kernel
theorem dX5_orderLine_158 : decode cX5_orderLine 158 = .ok (.invokevirtual 190, 3) := by decide +kernel
theorem dX5_orderLine_161 : decode cX5_orderLine 161 = .ok (.ifCond .ne 5, 3) := by decide +kernel
theorem dX5_orderLine_164 : decode cX5_orderLine 164 = .ok (.iconst 0, 1) := by decide +kernel
theorem dX5_orderLine_165 : decode cX5_orderLine 165 = .ok (.ireturn, 1) := by decide +kernel
theorem dX5_orderLine_166 : decode cX5_orderLine 166 = .ok (.aload_n 0, 1) := by decide +kernel
theorem dX5_orderLine_167 : decode cX5_orderLine 167 = .ok (.getfield 45, 3) := by decide +kernel
theorem dX5_orderLine_170 : decode cX5_orderLine 170 = .ok (.bipush 10, 2) := by decide +kernel
theorem dX5_orderLine_172 : decode cX5_orderLine 172 = .ok (.iload_n 1, 1) := by decide +kernel
theorem dX5_orderLine_173 : decode cX5_orderLine 173 = .ok (.imul, 1) := by decide +kernel
theorem dX5_orderLine_174 : decode cX5_orderLine 174 = .ok (.iload 5, 2) := by decide +kernel
theorem dX5_orderLine_176 : decode cX5_orderLine 176 = .ok (.iadd, 1) := by decide +kernel
theorem dX5_orderLine_177 : decode cX5_orderLine 177 = .ok (.aload_n 0, 1) := by decide +kernel
theorem dX5_orderLine_178 : decode cX5_orderLine 178 = .ok (.getfield 168, 3) := by decide +kernel
theorem dX5_orderLine_181 : decode cX5_orderLine 181 = .ok (.iastore, 1) := by decide +kernel
theorem dX5_orderLine_182 : decode cX5_orderLine 182 = .ok (.iinc 4 1, 3) := by decide +kernel
theorem dX5_orderLine_185 : decode cX5_orderLine 185 = .ok (.aload_n 0, 1) := by decide +kernel
theorem dX5_orderLine_186 : decode cX5_orderLine 186 = .ok (.getfield 109, 3) := by decide +kernel
theorem dX5_orderLine_189 : decode cX5_orderLine 189 = .ok (.iconst 1, 1) := by decide +kernel
theorem dX5_orderLine_190 : decode cX5_orderLine 190 = .ok (.if_icmp .eq (-133), 3) := by decide +kernel
theorem dX5_orderLine_193 : decode cX5_orderLine 193 = .ok (.aload_n 0, 1) := by decide +kernel
theorem dX5_orderLine_194 : decode cX5_orderLine 194 = .ok (.getfield 39, 3) := by decide +kernel
theorem dX5_orderLine_197 : decode cX5_orderLine 197 = .ok (.iload_n 1, 1) := by decide +kernel
theorem dX5_orderLine_198 : decode cX5_orderLine 198 = .ok (.lload_n 2, 1) := by decide +kernel
theorem dX5_orderLine_199 : decode cX5_orderLine 199 = .ok (.lastore, 1) := by decide +kernel
theorem dX5_orderLine_200 : decode cX5_orderLine 200 = .ok (.aload_n 0, 1) := by decide +kernel
theorem dX5_orderLine_201 : decode cX5_orderLine 201 = .ok (.getfield 17, 3) := by decide +kernel
theorem dX5_orderLine_204 : decode cX5_orderLine 204 = .ok (.aload_n 0, 1) := by decide +kernel
theorem dX5_orderLine_205 : decode cX5_orderLine 205 = .ok (.getfield 174, 3) := by decide +kernel
theorem dX5_orderLine_208 : decode cX5_orderLine 208 = .ok (.dup2, 1) := by decide +kernel
theorem dX5_orderLine_209 : decode cX5_orderLine 209 = .ok (.iaload, 1) := by decide +kernel
theorem dX5_orderLine_210 : decode cX5_orderLine 210 = .ok (.iconst 1, 1) := by decide +kernel
theorem dX5_orderLine_211 : decode cX5_orderLine 211 = .ok (.iadd, 1) := by decide +kernel
theorem dX5_orderLine_212 : decode cX5_orderLine 212 = .ok (.iastore, 1) := by decide +kernel
theorem dX5_orderLine_213 : decode cX5_orderLine 213 = .ok (.iconst 1, 1) := by decide +kernel
theorem dX5_orderLine_214 : decode cX5_orderLine 214 = .ok (.ireturn, 1) := by decide +kernel
theorem dX5_lineHere_0 : decode cX5_lineHere 0 = .ok (.aload_n 0, 1) := by decide +kernel
theorem dX5_lineHere_1 : decode cX5_lineHere 1 = .ok (.ldc 153, 2) := by decide +kernel
theorem dX5_lineHere_3 : decode cX5_lineHere 3 = .ok (.invokevirtual 154, 3) := by decide +kernel
theorem dX5_lineHere_6 : decode cX5_lineHere 6 = .ok (.ifCond .eq 7, 3) := by decide +kernel
theorem dX5_lineHere_9 : decode cX5_lineHere 9 = .ok (.iconst 0, 1) := by decide +kernel
theorem dX5_lineHere_10 : decode cX5_lineHere 10 = .ok (.goto 43, 3) := by decide +kernel
theorem dX5_lineHere_13 : decode cX5_lineHere 13 = .ok (.aload_n 0, 1) := by decide +kernel
theorem dX5_lineHere_14 : decode cX5_lineHere 14 = .ok (.ldc 158, 2) := by decide +kernel
theorem dX5_lineHere_16 : decode cX5_lineHere 16 = .ok (.invokevirtual 154, 3) := by decide +kernel
theorem dX5_lineHere_19 : decode cX5_lineHere 19 = .ok (.ifCond .eq 7, 3) := by decide +kernel
theorem dX5_lineHere_22 : decode cX5_lineHere 22 = .ok (.iconst 1, 1) := by decide +kernel
theorem dX5_lineHere_23 : decode cX5_lineHere 23 = .ok (.goto 30, 3) := by decide +kernel
theorem dX5_lineHere_26 : decode cX5_lineHere 26 = .ok (.aload_n 0, 1) := by decide +kernel
theorem dX5_lineHere_27 : decode cX5_lineHere 27 = .ok (.ldc 160, 2) := by decide +kernel
theorem dX5_lineHere_29 : decode cX5_lineHere 29 = .ok (.invokevirtual 154, 3) := by decide +kernel
theorem dX5_lineHere_32 : decode cX5_lineHere 32 = .ok (.ifCond .eq 7, 3) := by decide +kernel
theorem dX5_lineHere_35 : decode cX5_lineHere 35 = .ok (.iconst 2, 1) := by decide +kernel
theorem dX5_lineHere_36 : decode cX5_lineHere 36 = .ok (.goto 17, 3) := by decide +kernel
theorem dX5_lineHere_39 : decode cX5_lineHere 39 = .ok (.aload_n 0, 1) := by decide +kernel
theorem dX5_lineHere_40 : decode cX5_lineHere 40 = .ok (.ldc 162, 2) := by decide +kernel
theorem dX5_lineHere_42 : decode cX5_lineHere 42 = .ok (.invokevirtual 154, 3) := by decide +kernel
theorem dX5_lineHere_45 : decode cX5_lineHere 45 = .ok (.ifCond .eq 7, 3) := by decide +kernel
theorem dX5_lineHere_48 : decode cX5_lineHere 48 = .ok (.iconst 3, 1) := by decide +kernel
theorem dX5_lineHere_49 : decode cX5_lineHere 49 = .ok (.goto 4, 3) := by decide +kernel
theorem dX5_lineHere_52 : decode cX5_lineHere 52 = .ok (.iconst (-1), 1) := by decide +kernel
theorem dX5_lineHere_53 : decode cX5_lineHere 53 = .ok (.istore_n 1, 1) := by decide +kernel
theorem dX5_lineHere_54 : decode cX5_lineHere 54 = .ok (.aload_n 0, 1) := by decide +kernel
theorem dX5_lineHere_55 : decode cX5_lineHere 55 = .ok (.iload_n 1, 1) := by decide +kernel
theorem dX5_lineHere_56 : decode cX5_lineHere 56 = .ok (.ifCond .lt 7, 3) := by decide +kernel
theorem dX5_lineHere_59 : decode cX5_lineHere 59 = .ok (.iconst 1, 1) := by decide +kernel
theorem dX5_lineHere_60 : decode cX5_lineHere 60 = .ok (.goto 4, 3) := by decide +kernel
theorem dX5_lineHere_63 : decode cX5_lineHere 63 = .ok (.iconst 0, 1) := by decide +kernel
theorem dX5_lineHere_64 : decode cX5_lineHere 64 = .ok (.iconst 1, 1) := by decide +kernel
theorem dX5_lineHere_65 : decode cX5_lineHere 65 = .ok (.invokevirtual 164, 3) := by decide +kernel
theorem dX5_lineHere_68 : decode cX5_lineHere 68 = .ok (.ifCond .eq 52, 3) := by decide +kernel
theorem dX5_lineHere_71 : decode cX5_lineHere 71 = .ok (.aload_n 0, 1) := by decide +kernel
theorem dX5_lineHere_72 : decode cX5_lineHere 72 = .ok (.iload_n 1, 1) := by decide +kernel
theorem dX5_lineHere_73 : decode cX5_lineHere 73 = .ok (.ifCond .ne 10, 3) := by decide +kernel
theorem dX5_lineHere_76 : decode cX5_lineHere 76 = .ok (.aload_n 0, 1) := by decide +kernel
theorem dX5_lineHere_77 : decode cX5_lineHere 77 = .ok (.getfield 194, 3) := by decide +kernel
theorem dX5_lineHere_80 : decode cX5_lineHere 80 = .ok (.ifCond .ne 7, 3) := by decide +kernel
theorem dX5_lineHere_83 : decode cX5_lineHere 83 = .ok (.iconst 1, 1) := by decide +kernel
theorem dX5_lineHere_84 : decode cX5_lineHere 84 = .ok (.goto 4, 3) := by decide +kernel
theorem dX5_lineHere_87 : decode cX5_lineHere 87 = .ok (.iconst 0, 1) := by decide +kernel
theorem dX5_lineHere_88 : decode cX5_lineHere 88 = .ok (.iconst 2, 1) := by decide +kernel
theorem dX5_lineHere_89 : decode cX5_lineHere 89 = .ok (.invokevirtual 164, 3) := by decide +kernel
theorem dX5_lineHere_92 : decode cX5_lineHere 92 = .ok (.ifCond .eq 28, 3) := by decide +kernel
theorem dX5_lineHere_95 : decode cX5_lineHere 95 = .ok (.aload_n 0, 1) := by decide +kernel
theorem dX5_lineHere_96 : decode cX5_lineHere 96 = .ok (.iload_n 1, 1) := by decide +kernel
theorem dX5_lineHere_97 : decode cX5_lineHere 97 = .ok (.iconst 1, 1) := by decide +kernel
theorem dX5_lineHere_98 : decode cX5_lineHere 98 = .ok (.if_icmp .ne 10, 3) := by decide +kernel
theorem dX5_lineHere_101 : decode cX5_lineHere 101 = .ok (.aload_n 0, 1) := by decide +kernel
theorem dX5_lineHere_102 : decode cX5_lineHere 102 = .ok (.getfield 198, 3) := by decide +kernel
theorem dX5_lineHere_105 : decode cX5_lineHere 105 = .ok (.ifCond .ne 7, 3) := by decide +kernel
theorem dX5_lineHere_108 : decode cX5_lineHere 108 = .ok (.iconst 1, 1) := by decide +kernel
theorem dX5_lineHere_109 : decode cX5_lineHere 109 = .ok (.goto 4, 3) := by decide +kernel
theorem dX5_lineHere_112 : decode cX5_lineHere 112 = .ok (.iconst 0, 1) := by decide +kernel
theorem dX5_lineHere_113 : decode cX5_lineHere 113 = .ok (.iconst 2, 1) := by decide +kernel
theorem dX5_lineHere_114 : decode cX5_lineHere 114 = .ok (.invokevirtual 164, 3) := by decide +kernel
theorem dX5_lineHere_117 : decode cX5_lineHere 117 = .ok (.ifCond .ne 5, 3) := by decide +kernel
theorem dX5_lineHere_120 : decode cX5_lineHere 120 = .ok (.iconst 0, 1) := by decide +kernel
theorem dX5_lineHere_121 : decode cX5_lineHere 121 = .ok (.ireturn, 1) := by decide +kernel
theorem dX5_lineHere_122 : decode cX5_lineHere 122 = .ok (.aload_n 0, 1) := by decide +kernel
theorem dX5_lineHere_123 : decode cX5_lineHere 123 = .ok (.iload_n 1, 1) := by decide +kernel
theorem dX5_lineHere_124 : decode cX5_lineHere 124 = .ok (.iconst 2, 1) := by decide +kernel
theorem dX5_lineHere_125 : decode cX5_lineHere 125 = .ok (.if_icmp .ne 17, 3) := by decide +kernel
theorem dX5_lineHere_128 : decode cX5_lineHere 128 = .ok (.aload_n 0, 1) := by decide +kernel
theorem dX5_lineHere_129 : decode cX5_lineHere 129 = .ok (.getfield 13, 3) := by decide +kernel
theorem dX5_lineHere_132 : decode cX5_lineHere 132 = .ok (.aload_n 0, 1) := by decide +kernel
theorem dX5_lineHere_133 : decode cX5_lineHere 133 = .ok (.getfield 174, 3) := by decide +kernel
theorem dX5_lineHere_136 : decode cX5_lineHere 136 = .ok (.iaload, 1) := by decide +kernel
theorem dX5_lineHere_137 : decode cX5_lineHere 137 = .ok (.bipush 10, 2) := by decide +kernel
theorem dX5_lineHere_139 : decode cX5_lineHere 139 = .ok (.if_icmp .ge 7, 3) := by decide +kernel
theorem dX5_lineHere_142 : decode cX5_lineHere 142 = .ok (.iconst 1, 1) := by decide +kernel
theorem dX5_lineHere_143 : decode cX5_lineHere 143 = .ok (.goto 4, 3) := by decide +kernel
theorem dX5_lineHere_146 : decode cX5_lineHere 146 = .ok (.iconst 0, 1) := by decide +kernel
theorem dX5_lineHere_147 : decode cX5_lineHere 147 = .ok (.iconst 5, 1) := by decide +kernel
theorem dX5_lineHere_148 : decode cX5_lineHere 148 = .ok (.invokevirtual 164, 3) := by decide +kernel
theorem dX5_lineHere_151 : decode cX5_lineHere 151 = .ok (.ifCond .eq 35, 3) := by decide +kernel
theorem dX5_lineHere_154 : decode cX5_lineHere 154 = .ok (.aload_n 0, 1) := by decide +kernel
theorem dX5_lineHere_155 : decode cX5_lineHere 155 = .ok (.iload_n 1, 1) := by decide +kernel
theorem dX5_lineHere_156 : decode cX5_lineHere 156 = .ok (.iconst 3, 1) := by decide +kernel
theorem dX5_lineHere_157 : decode cX5_lineHere 157 = .ok (.if_icmp .ne 17, 3) := by decide +kernel
theorem dX5_lineHere_160 : decode cX5_lineHere 160 = .ok (.aload_n 0, 1) := by decide +kernel
theorem dX5_lineHere_161 : decode cX5_lineHere 161 = .ok (.getfield 17, 3) := by decide +kernel
theorem dX5_lineHere_164 : decode cX5_lineHere 164 = .ok (.aload_n 0, 1) := by decide +kernel
theorem dX5_lineHere_165 : decode cX5_lineHere 165 = .ok (.getfield 174, 3) := by decide +kernel
theorem dX5_lineHere_168 : decode cX5_lineHere 168 = .ok (.iaload, 1) := by decide +kernel
theorem dX5_lineHere_169 : decode cX5_lineHere 169 = .ok (.bipush 16, 2) := by decide +kernel
theorem dX5_lineHere_171 : decode cX5_lineHere 171 = .ok (.if_icmp .ge 7, 3) := by decide +kernel
theorem dX5_lineHere_174 : decode cX5_lineHere 174 = .ok (.iconst 1, 1) := by decide +kernel
theorem dX5_lineHere_175 : decode cX5_lineHere 175 = .ok (.goto 4, 3) := by decide +kernel
theorem dX5_lineHere_178 : decode cX5_lineHere 178 = .ok (.iconst 0, 1) := by decide +kernel
theorem dX5_lineHere_179 : decode cX5_lineHere 179 = .ok (.iconst 5, 1) := by decide +kernel
theorem dX5_lineHere_180 : decode cX5_lineHere 180 = .ok (.invokevirtual 164, 3) := by decide +kernel
theorem dX5_lineHere_183 : decode cX5_lineHere 183 = .ok (.ifCond .ne 5, 3) := by decide +kernel
theorem dX5_lineHere_186 : decode cX5_lineHere 186 = .ok (.iconst 0, 1) := by decide +kernel
theorem dX5_lineHere_187 : decode cX5_lineHere 187 = .ok (.ireturn, 1) := by decide +kernel
theorem dX5_lineHere_188 : decode cX5_lineHere 188 = .ok (.aload_n 0, 1) := by decide +kernel
theorem dX5_lineHere_189 : decode cX5_lineHere 189 = .ok (.invokevirtual 171, 3) := by decide +kernel
theorem dX5_lineHere_192 : decode cX5_lineHere 192 = .ok (.iload_n 1, 1) := by decide +kernel
theorem dX5_lineHere_193 : decode cX5_lineHere 193 = .ok (.ifCond .ne 10, 3) := by decide +kernel
theorem dX5_lineHere_196 : decode cX5_lineHere 196 = .ok (.aload_n 0, 1) := by decide +kernel
theorem dX5_lineHere_197 : decode cX5_lineHere 197 = .ok (.invokevirtual 204, 3) := by decide +kernel
theorem dX5_lineHere_200 : decode cX5_lineHere 200 = .ok (.goto 31, 3) := by decide +kernel
theorem dX5_lineHere_203 : decode cX5_lineHere 203 = .ok (.iload_n 1, 1) := by decide +kernel
theorem dX5_lineHere_204 : decode cX5_lineHere 204 = .ok (.iconst 1, 1) := by decide +kernel
theorem dX5_lineHere_205 : decode cX5_lineHere 205 = .ok (.if_icmp .ne 10, 3) := by decide +kernel
theorem dX5_lineHere_208 : decode cX5_lineHere 208 = .ok (.aload_n 0, 1) := by decide +kernel
theorem dX5_lineHere_209 : decode cX5_lineHere 209 = .ok (.invokevirtual 207, 3) := by decide +kernel
theorem dX5_lineHere_212 : decode cX5_lineHere 212 = .ok (.goto 19, 3) := by decide +kernel
theorem dX5_lineHere_215 : decode cX5_lineHere 215 = .ok (.iload_n 1, 1) := by decide +kernel
theorem dX5_lineHere_216 : decode cX5_lineHere 216 = .ok (.iconst 2, 1) := by decide +kernel
theorem dX5_lineHere_217 : decode cX5_lineHere 217 = .ok (.if_icmp .ne 10, 3) := by decide +kernel
theorem dX5_lineHere_220 : decode cX5_lineHere 220 = .ok (.aload_n 0, 1) := by decide +kernel
theorem dX5_lineHere_221 : decode cX5_lineHere 221 = .ok (.invokevirtual 210, 3) := by decide +kernel
theorem dX5_lineHere_224 : decode cX5_lineHere 224 = .ok (.goto 7, 3) := by decide +kernel
theorem dX5_lineHere_227 : decode cX5_lineHere 227 = .ok (.aload_n 0, 1) := by decide +kernel
theorem dX5_lineHere_228 : decode cX5_lineHere 228 = .ok (.invokevirtual 213, 3) := by decide +kernel
theorem dX5_lineHere_231 : decode cX5_lineHere 231 = .ok (.istore_n 2, 1) := by decide +kernel
theorem dX5_lineHere_232 : decode cX5_lineHere 232 = .ok (.iload_n 2, 1) := by decide +kernel
theorem dX5_lineHere_233 : decode cX5_lineHere 233 = .ok (.ifCond .eq 24, 3) := by decide +kernel
theorem dX5_lineHere_236 : decode cX5_lineHere 236 = .ok (.aload_n 0, 1) := by decide +kernel
theorem dX5_lineHere_237 : decode cX5_lineHere 237 = .ok (.aload_n 0, 1) := by decide +kernel
theorem dX5_lineHere_238 : decode cX5_lineHere 238 = .ok (.getfield 109, 3) := by decide +kernel
theorem dX5_lineHere_241 : decode cX5_lineHere 241 = .ok (.iconst 3, 1) := by decide +kernel
theorem dX5_lineHere_242 : decode cX5_lineHere 242 = .ok (.if_icmp .ne 7, 3) := by decide +kernel
theorem dX5_lineHere_245 : decode cX5_lineHere 245 = .ok (.iconst 1, 1) := by decide +kernel
theorem dX5_lineHere_246 : decode cX5_lineHere 246 = .ok (.goto 4, 3) := by decide +kernel
theorem dX5_lineHere_249 : decode cX5_lineHere 249 = .ok (.iconst 0, 1) := by decide +kernel
theorem dX5_lineHere_250 : decode cX5_lineHere 250 = .ok (.iconst 1, 1) := by decide +kernel
theorem dX5_lineHere_251 : decode cX5_lineHere 251 = .ok (.invokevirtual 164, 3) := by decide +kernel
theorem dX5_lineHere_254 : decode cX5_lineHere 254 = .ok (.ifCond .ne 5, 3) := by decide +kernel
theorem dX5_lineHere_257 : decode cX5_lineHere 257 = .ok (.iconst 0, 1) := by decide +kernel
theorem dX5_lineHere_258 : decode cX5_lineHere 258 = .ok (.ireturn, 1) := by decide +kernel
theorem dX5_lineHere_259 : decode cX5_lineHere 259 = .ok (.aload_n 0, 1) := by decide +kernel
theorem dX5_lineHere_260 : decode cX5_lineHere 260 = .ok (.invokevirtual 171, 3) := by decide +kernel
theorem dX5_lineHere_263 : decode cX5_lineHere 263 = .ok (.iconst 1, 1) := by decide +kernel
theorem dX5_lineHere_264 : decode cX5_lineHere 264 = .ok (.ireturn, 1) := by decide +kernel
theorem dX5_empties_0 : decode cX5_empties 0 = .ok (.iconst 0, 1) := by decide +kernel
theorem dX5_empties_1 : decode cX5_empties 1 = .ok (.istore_n 1, 1) := by decide +kernel
theorem dX5_empties_2 : decode cX5_empties 2 = .ok (.iload_n 1, 1) := by decide +kernel
theorem dX5_empties_3 : decode cX5_empties 3 = .ok (.sipush 2117, 3) := by decide +kernel
theorem dX5_empties_6 : decode cX5_empties 6 = .ok (.if_icmp .ge 16, 3) := by decide +kernel
theorem dX5_empties_9 : decode cX5_empties 9 = .ok (.aload_n 0, 1) := by decide +kernel
theorem dX5_empties_10 : decode cX5_empties 10 = .ok (.getfield 48, 3) := by decide +kernel
theorem dX5_empties_13 : decode cX5_empties 13 = .ok (.iload_n 1, 1) := by decide +kernel
theorem dX5_empties_14 : decode cX5_empties 14 = .ok (.iconst 0, 1) := by decide +kernel
theorem dX5_empties_15 : decode cX5_empties 15 = .ok (.iastore, 1) := by decide +kernel
theorem dX5_empties_16 : decode cX5_empties 16 = .ok (.iinc 1 1, 3) := by decide +kernel
theorem dX5_empties_19 : decode cX5_empties 19 = .ok (.goto (-17), 3) := by decide +kernel
theorem dX5_empties_22 : decode cX5_empties 22 = .ok (.iconst 0, 1) := by decide +kernel
theorem dX5_empties_23 : decode cX5_empties 23 = .ok (.istore_n 1, 1) := by decide +kernel
theorem dX5_empties_24 : decode cX5_empties 24 = .ok (.iload_n 1, 1) := by decide +kernel
theorem dX5_empties_25 : decode cX5_empties 25 = .ok (.bipush 16, 2) := by decide +kernel
theorem dX5_empties_27 : decode cX5_empties 27 = .ok (.if_icmp .ge 20, 3) := by decide +kernel
theorem dX5_empties_30 : decode cX5_empties 30 = .ok (.aload_n 0, 1) := by decide +kernel
theorem dX5_empties_31 : decode cX5_empties 31 = .ok (.getfield 48, 3) := by decide +kernel
theorem dX5_empties_34 : decode cX5_empties 34 = .ok (.sipush 346, 3) := by decide +kernel
theorem dX5_empties_37 : decode cX5_empties 37 = .ok (.iload_n 1, 1) := by decide +kernel
theorem dX5_empties_38 : decode cX5_empties 38 = .ok (.iadd, 1) := by decide +kernel
theorem dX5_empties_39 : decode cX5_empties 39 = .ok (.iconst (-1), 1) := by decide +kernel
theorem dX5_empties_40 : decode cX5_empties 40 = .ok (.iastore, 1) := by decide +kernel
theorem dX5_empties_41 : decode cX5_empties 41 = .ok (.iinc 1 1, 3) := by decide +kernel
theorem dX5_empties_44 : decode cX5_empties 44 = .ok (.goto (-20), 3) := by decide +kernel
theorem dX5_empties_47 : decode cX5_empties 47 = .ok (.iconst 0, 1) := by decide +kernel
theorem dX5_empties_48 : decode cX5_empties 48 = .ok (.istore_n 1, 1) := by decide +kernel
theorem dX5_empties_49 : decode cX5_empties 49 = .ok (.iload_n 1, 1) := by decide +kernel
theorem dX5_empties_50 : decode cX5_empties 50 = .ok (.bipush 8, 2) := by decide +kernel
theorem dX5_empties_52 : decode cX5_empties 52 = .ok (.if_icmp .ge 20, 3) := by decide +kernel
theorem dX5_empties_55 : decode cX5_empties 55 = .ok (.aload_n 0, 1) := by decide +kernel
theorem dX5_empties_56 : decode cX5_empties 56 = .ok (.getfield 48, 3) := by decide +kernel
theorem dX5_empties_59 : decode cX5_empties 59 = .ok (.sipush 362, 3) := by decide +kernel
theorem dX5_empties_62 : decode cX5_empties 62 = .ok (.iload_n 1, 1) := by decide +kernel
theorem dX5_empties_63 : decode cX5_empties 63 = .ok (.iadd, 1) := by decide +kernel
theorem dX5_empties_64 : decode cX5_empties 64 = .ok (.iconst (-1), 1) := by decide +kernel
theorem dX5_empties_65 : decode cX5_empties 65 = .ok (.iastore, 1) := by decide +kernel
theorem dX5_empties_66 : decode cX5_empties 66 = .ok (.iinc 1 1, 3) := by decide +kernel
theorem dX5_empties_69 : decode cX5_empties 69 = .ok (.goto (-20), 3) := by decide +kernel
theorem dX5_empties_72 : decode cX5_empties 72 = .ok (.return_, 1) := by decide +kernel
theorem dX5_copies_0 : decode cX5_copies 0 = .ok (.aload_n 0, 1) := by decide +kernel
theorem dX5_copies_1 : decode cX5_copies 1 = .ok (.getfield 13, 3) := by decide +kernel
theorem dX5_copies_4 : decode cX5_copies 4 = .ok (.iconst 0, 1) := by decide +kernel
theorem dX5_copies_5 : decode cX5_copies 5 = .ok (.aload_n 0, 1) := by decide +kernel
theorem dX5_copies_6 : decode cX5_copies 6 = .ok (.getfield 13, 3) := by decide +kernel
theorem dX5_copies_9 : decode cX5_copies 9 = .ok (.iconst 1, 1) := by decide +kernel
theorem dX5_copies_10 : decode cX5_copies 10 = .ok (.iaload, 1) := by decide +kernel
theorem dX5_copies_11 : decode cX5_copies 11 = .ok (.iastore, 1) := by decide +kernel
theorem dX5_copies_12 : decode cX5_copies 12 = .ok (.aload_n 0, 1) := by decide +kernel
theorem dX5_copies_13 : decode cX5_copies 13 = .ok (.getfield 17, 3) := by decide +kernel
theorem dX5_copies_16 : decode cX5_copies 16 = .ok (.iconst 0, 1) := by decide +kernel
theorem dX5_copies_17 : decode cX5_copies 17 = .ok (.aload_n 0, 1) := by decide +kernel
theorem dX5_copies_18 : decode cX5_copies 18 = .ok (.getfield 17, 3) := by decide +kernel
theorem dX5_copies_21 : decode cX5_copies 21 = .ok (.iconst 1, 1) := by decide +kernel
theorem dX5_copies_22 : decode cX5_copies 22 = .ok (.iaload, 1) := by decide +kernel
theorem dX5_copies_23 : decode cX5_copies 23 = .ok (.iastore, 1) := by decide +kernel
theorem dX5_copies_24 : decode cX5_copies 24 = .ok (.aload_n 0, 1) := by decide +kernel
theorem dX5_copies_25 : decode cX5_copies 25 = .ok (.getfield 20, 3) := by decide +kernel
theorem dX5_copies_28 : decode cX5_copies 28 = .ok (.iconst 0, 1) := by decide +kernel
theorem dX5_copies_29 : decode cX5_copies 29 = .ok (.aload_n 0, 1) := by decide +kernel
theorem dX5_copies_30 : decode cX5_copies 30 = .ok (.getfield 20, 3) := by decide +kernel
theorem dX5_copies_33 : decode cX5_copies 33 = .ok (.iconst 1, 1) := by decide +kernel
theorem dX5_copies_34 : decode cX5_copies 34 = .ok (.iaload, 1) := by decide +kernel
theorem dX5_copies_35 : decode cX5_copies 35 = .ok (.iastore, 1) := by decide +kernel
theorem dX5_copies_36 : decode cX5_copies 36 = .ok (.aload_n 0, 1) := by decide +kernel
theorem dX5_copies_37 : decode cX5_copies 37 = .ok (.getfield 23, 3) := by decide +kernel
theorem dX5_copies_40 : decode cX5_copies 40 = .ok (.iconst 0, 1) := by decide +kernel
theorem dX5_copies_41 : decode cX5_copies 41 = .ok (.aload_n 0, 1) := by decide +kernel
theorem dX5_copies_42 : decode cX5_copies 42 = .ok (.getfield 23, 3) := by decide +kernel
theorem dX5_copies_45 : decode cX5_copies 45 = .ok (.iconst 1, 1) := by decide +kernel
theorem dX5_copies_46 : decode cX5_copies 46 = .ok (.iaload, 1) := by decide +kernel
theorem dX5_copies_47 : decode cX5_copies 47 = .ok (.iastore, 1) := by decide +kernel
theorem dX5_copies_48 : decode cX5_copies 48 = .ok (.aload_n 0, 1) := by decide +kernel
theorem dX5_copies_49 : decode cX5_copies 49 = .ok (.getfield 26, 3) := by decide +kernel
theorem dX5_copies_52 : decode cX5_copies 52 = .ok (.iconst 0, 1) := by decide +kernel
theorem dX5_copies_53 : decode cX5_copies 53 = .ok (.aload_n 0, 1) := by decide +kernel
theorem dX5_copies_54 : decode cX5_copies 54 = .ok (.getfield 26, 3) := by decide +kernel
theorem dX5_copies_57 : decode cX5_copies 57 = .ok (.iconst 1, 1) := by decide +kernel
theorem dX5_copies_58 : decode cX5_copies 58 = .ok (.iaload, 1) := by decide +kernel
theorem dX5_copies_59 : decode cX5_copies 59 = .ok (.iastore, 1) := by decide +kernel
theorem dX5_copies_60 : decode cX5_copies 60 = .ok (.aload_n 0, 1) := by decide +kernel
theorem dX5_copies_61 : decode cX5_copies 61 = .ok (.invokevirtual 83, 3) := by decide +kernel
theorem dX5_copies_64 : decode cX5_copies 64 = .ok (.iconst 0, 1) := by decide +kernel
theorem dX5_copies_65 : decode cX5_copies 65 = .ok (.istore_n 1, 1) := by decide +kernel
theorem dX5_copies_66 : decode cX5_copies 66 = .ok (.iload_n 1, 1) := by decide +kernel
theorem dX5_copies_67 : decode cX5_copies 67 = .ok (.bipush 10, 2) := by decide +kernel
theorem dX5_copies_69 : decode cX5_copies 69 = .ok (.if_icmp .ge 68, 3) := by decide +kernel
theorem dX5_copies_72 : decode cX5_copies 72 = .ok (.aload_n 0, 1) := by decide +kernel
theorem dX5_copies_73 : decode cX5_copies 73 = .ok (.getfield 29, 3) := by decide +kernel
theorem dX5_copies_76 : decode cX5_copies 76 = .ok (.iload_n 1, 1) := by decide +kernel
theorem dX5_copies_77 : decode cX5_copies 77 = .ok (.aload_n 0, 1) := by decide +kernel
theorem dX5_copies_78 : decode cX5_copies 78 = .ok (.getfield 29, 3) := by decide +kernel
theorem dX5_copies_81 : decode cX5_copies 81 = .ok (.bipush 10, 2) := by decide +kernel
theorem dX5_copies_83 : decode cX5_copies 83 = .ok (.iload_n 1, 1) := by decide +kernel
theorem dX5_copies_84 : decode cX5_copies 84 = .ok (.iadd, 1) := by decide +kernel
theorem dX5_copies_85 : decode cX5_copies 85 = .ok (.laload, 1) := by decide +kernel
theorem dX5_copies_86 : decode cX5_copies 86 = .ok (.lastore, 1) := by decide +kernel
theorem dX5_copies_87 : decode cX5_copies 87 = .ok (.aload_n 0, 1) := by decide +kernel
theorem dX5_copies_88 : decode cX5_copies 88 = .ok (.getfield 33, 3) := by decide +kernel
theorem dX5_copies_91 : decode cX5_copies 91 = .ok (.iload_n 1, 1) := by decide +kernel
theorem dX5_copies_92 : decode cX5_copies 92 = .ok (.aload_n 0, 1) := by decide +kernel
theorem dX5_copies_93 : decode cX5_copies 93 = .ok (.getfield 33, 3) := by decide +kernel
theorem dX5_copies_96 : decode cX5_copies 96 = .ok (.bipush 10, 2) := by decide +kernel
theorem dX5_copies_98 : decode cX5_copies 98 = .ok (.iload_n 1, 1) := by decide +kernel
theorem dX5_copies_99 : decode cX5_copies 99 = .ok (.iadd, 1) := by decide +kernel
theorem dX5_copies_100 : decode cX5_copies 100 = .ok (.iaload, 1) := by decide +kernel
theorem dX5_copies_101 : decode cX5_copies 101 = .ok (.iastore, 1) := by decide +kernel
theorem dX5_copies_102 : decode cX5_copies 102 = .ok (.aload_n 0, 1) := by decide +kernel
theorem dX5_copies_103 : decode cX5_copies 103 = .ok (.getfield 48, 3) := by decide +kernel
theorem dX5_copies_106 : decode cX5_copies 106 = .ok (.iload_n 1, 1) := by decide +kernel
theorem dX5_copies_107 : decode cX5_copies 107 = .ok (.iload_n 1, 1) := by decide +kernel
theorem dX5_copies_108 : decode cX5_copies 108 = .ok (.aload_n 0, 1) := by decide +kernel
theorem dX5_copies_109 : decode cX5_copies 109 = .ok (.getfield 13, 3) := by decide +kernel
theorem dX5_copies_112 : decode cX5_copies 112 = .ok (.iconst 0, 1) := by decide +kernel
theorem dX5_copies_113 : decode cX5_copies 113 = .ok (.iaload, 1) := by decide +kernel
theorem dX5_copies_114 : decode cX5_copies 114 = .ok (.if_icmp .ge 15, 3) := by decide +kernel
theorem dX5_copies_117 : decode cX5_copies 117 = .ok (.aload_n 0, 1) := by decide +kernel
theorem dX5_copies_118 : decode cX5_copies 118 = .ok (.getfield 36, 3) := by decide +kernel
theorem dX5_copies_121 : decode cX5_copies 121 = .ok (.bipush 10, 2) := by decide +kernel
theorem dX5_copies_123 : decode cX5_copies 123 = .ok (.iload_n 1, 1) := by decide +kernel
theorem dX5_copies_124 : decode cX5_copies 124 = .ok (.iadd, 1) := by decide +kernel
theorem dX5_copies_125 : decode cX5_copies 125 = .ok (.iaload, 1) := by decide +kernel
theorem dX5_copies_126 : decode cX5_copies 126 = .ok (.goto 4, 3) := by decide +kernel
theorem dX5_copies_129 : decode cX5_copies 129 = .ok (.iconst 0, 1) := by decide +kernel
theorem dX5_copies_130 : decode cX5_copies 130 = .ok (.iastore, 1) := by decide +kernel
theorem dX5_copies_131 : decode cX5_copies 131 = .ok (.iinc 1 1, 3) := by decide +kernel
theorem dX5_copies_134 : decode cX5_copies 134 = .ok (.goto (-68), 3) := by decide +kernel
theorem dX5_copies_137 : decode cX5_copies 137 = .ok (.iconst 0, 1) := by decide +kernel
theorem dX5_copies_138 : decode cX5_copies 138 = .ok (.istore_n 1, 1) := by decide +kernel
theorem dX5_copies_139 : decode cX5_copies 139 = .ok (.iload_n 1, 1) := by decide +kernel
theorem dX5_copies_140 : decode cX5_copies 140 = .ok (.bipush 16, 2) := by decide +kernel
theorem dX5_copies_142 : decode cX5_copies 142 = .ok (.if_icmp .ge 39, 3) := by decide +kernel
theorem dX5_copies_145 : decode cX5_copies 145 = .ok (.aload_n 0, 1) := by decide +kernel
theorem dX5_copies_146 : decode cX5_copies 146 = .ok (.getfield 39, 3) := by decide +kernel
theorem dX5_copies_149 : decode cX5_copies 149 = .ok (.iload_n 1, 1) := by decide +kernel
theorem dX5_copies_150 : decode cX5_copies 150 = .ok (.aload_n 0, 1) := by decide +kernel
theorem dX5_copies_151 : decode cX5_copies 151 = .ok (.getfield 39, 3) := by decide +kernel
theorem dX5_copies_154 : decode cX5_copies 154 = .ok (.bipush 16, 2) := by decide +kernel
theorem dX5_copies_156 : decode cX5_copies 156 = .ok (.iload_n 1, 1) := by decide +kernel
theorem dX5_copies_157 : decode cX5_copies 157 = .ok (.iadd, 1) := by decide +kernel
theorem dX5_copies_158 : decode cX5_copies 158 = .ok (.laload, 1) := by decide +kernel
theorem dX5_copies_159 : decode cX5_copies 159 = .ok (.lastore, 1) := by decide +kernel
theorem dX5_copies_160 : decode cX5_copies 160 = .ok (.aload_n 0, 1) := by decide +kernel
theorem dX5_copies_161 : decode cX5_copies 161 = .ok (.getfield 42, 3) := by decide +kernel
theorem dX5_copies_164 : decode cX5_copies 164 = .ok (.iload_n 1, 1) := by decide +kernel
theorem dX5_copies_165 : decode cX5_copies 165 = .ok (.aload_n 0, 1) := by decide +kernel
theorem dX5_copies_166 : decode cX5_copies 166 = .ok (.getfield 42, 3) := by decide +kernel
theorem dX5_copies_169 : decode cX5_copies 169 = .ok (.bipush 16, 2) := by decide +kernel
theorem dX5_copies_171 : decode cX5_copies 171 = .ok (.iload_n 1, 1) := by decide +kernel
theorem dX5_copies_172 : decode cX5_copies 172 = .ok (.iadd, 1) := by decide +kernel
theorem dX5_copies_173 : decode cX5_copies 173 = .ok (.iaload, 1) := by decide +kernel
theorem dX5_copies_174 : decode cX5_copies 174 = .ok (.iastore, 1) := by decide +kernel
theorem dX5_copies_175 : decode cX5_copies 175 = .ok (.iinc 1 1, 3) := by decide +kernel
theorem dX5_copies_178 : decode cX5_copies 178 = .ok (.goto (-39), 3) := by decide +kernel
theorem dX5_copies_181 : decode cX5_copies 181 = .ok (.iconst 0, 1) := by decide +kernel
theorem dX5_copies_182 : decode cX5_copies 182 = .ok (.istore_n 1, 1) := by decide +kernel
theorem dX5_copies_183 : decode cX5_copies 183 = .ok (.iload_n 1, 1) := by decide +kernel
theorem dX5_copies_184 : decode cX5_copies 184 = .ok (.sipush 160, 3) := by decide +kernel
theorem dX5_copies_187 : decode cX5_copies 187 = .ok (.if_icmp .ge 25, 3) := by decide +kernel
theorem dX5_copies_190 : decode cX5_copies 190 = .ok (.aload_n 0, 1) := by decide +kernel
theorem dX5_copies_191 : decode cX5_copies 191 = .ok (.getfield 45, 3) := by decide +kernel
theorem dX5_copies_194 : decode cX5_copies 194 = .ok (.iload_n 1, 1) := by decide +kernel
theorem dX5_copies_195 : decode cX5_copies 195 = .ok (.aload_n 0, 1) := by decide +kernel
theorem dX5_copies_196 : decode cX5_copies 196 = .ok (.getfield 45, 3) := by decide +kernel
theorem dX5_copies_199 : decode cX5_copies 199 = .ok (.sipush 160, 3) := by decide +kernel
theorem dX5_copies_202 : decode cX5_copies 202 = .ok (.iload_n 1, 1) := by decide +kernel
theorem dX5_copies_203 : decode cX5_copies 203 = .ok (.iadd, 1) := by decide +kernel
theorem dX5_copies_204 : decode cX5_copies 204 = .ok (.iaload, 1) := by decide +kernel
theorem dX5_copies_205 : decode cX5_copies 205 = .ok (.iastore, 1) := by decide +kernel
theorem dX5_copies_206 : decode cX5_copies 206 = .ok (.iinc 1 1, 3) := by decide +kernel
theorem dX5_copies_209 : decode cX5_copies 209 = .ok (.goto (-26), 3) := by decide +kernel
theorem dX5_copies_212 : decode cX5_copies 212 = .ok (.return_, 1) := by decide +kernel
theorem dX5_wall_0 : decode cX5_wall 0 = .ok (.aload_n 0, 1) := by decide +kernel
theorem dX5_wall_1 : decode cX5_wall 1 = .ok (.iconst 0, 1) := by decide +kernel
theorem dX5_wall_2 : decode cX5_wall 2 = .ok (.putfield 86, 3) := by decide +kernel
theorem dX5_wall_5 : decode cX5_wall 5 = .ok (.iload_n 1, 1) := by decide +kernel
theorem dX5_wall_6 : decode cX5_wall 6 = .ok (.i2l, 1) := by decide +kernel
theorem dX5_wall_7 : decode cX5_wall 7 = .ok (.lconst 0, 1) := by decide +kernel
theorem dX5_wall_8 : decode cX5_wall 8 = .ok (.aload_n 0, 1) := by decide +kernel
theorem dX5_wall_9 : decode cX5_wall 9 = .ok (.getfield 90, 3) := by decide +kernel
theorem dX5_wall_12 : decode cX5_wall 12 = .ok (.i2l, 1) := by decide +kernel
theorem dX5_wall_13 : decode cX5_wall 13 = .ok (.invokestatic 123, 3) := by decide +kernel
theorem dX5_wall_16 : decode cX5_wall 16 = .ok (.ifCond .ne 5, 3) := by decide +kernel
theorem dX5_wall_19 : decode cX5_wall 19 = .ok (.iconst (-1), 1) := by decide +kernel
theorem dX5_wall_20 : decode cX5_wall 20 = .ok (.ireturn, 1) := by decide +kernel
theorem dX5_wall_21 : decode cX5_wall 21 = .ok (.aload_n 0, 1) := by decide +kernel
theorem dX5_wall_22 : decode cX5_wall 22 = .ok (.iconst 0, 1) := by decide +kernel
theorem dX5_wall_23 : decode cX5_wall 23 = .ok (.putfield 90, 3) := by decide +kernel
theorem dX5_wall_26 : decode cX5_wall 26 = .ok (.aload_n 0, 1) := by decide +kernel
theorem dX5_wall_27 : decode cX5_wall 27 = .ok (.iload_n 1, 1) := by decide +kernel
theorem dX5_wall_28 : decode cX5_wall 28 = .ok (.putfield 96, 3) := by decide +kernel
theorem dX5_wall_31 : decode cX5_wall 31 = .ok (.aload_n 0, 1) := by decide +kernel
theorem dX5_wall_32 : decode cX5_wall 32 = .ok (.iconst 0, 1) := by decide +kernel
theorem dX5_wall_33 : decode cX5_wall 33 = .ok (.putfield 99, 3) := by decide +kernel
theorem dX5_wall_36 : decode cX5_wall 36 = .ok (.aload_n 0, 1) := by decide +kernel
theorem dX5_wall_37 : decode cX5_wall 37 = .ok (.iconst 0, 1) := by decide +kernel
theorem dX5_wall_38 : decode cX5_wall 38 = .ok (.putfield 133, 3) := by decide +kernel
theorem dX5_wall_41 : decode cX5_wall 41 = .ok (.aload_n 0, 1) := by decide +kernel
theorem dX5_wall_42 : decode cX5_wall 42 = .ok (.iconst 1, 1) := by decide +kernel
theorem dX5_wall_43 : decode cX5_wall 43 = .ok (.putfield 174, 3) := by decide +kernel
theorem dX5_wall_46 : decode cX5_wall 46 = .ok (.aload_n 0, 1) := by decide +kernel
theorem dX5_wall_47 : decode cX5_wall 47 = .ok (.iconst 1, 1) := by decide +kernel
theorem dX5_wall_48 : decode cX5_wall 48 = .ok (.invokevirtual 79, 3) := by decide +kernel
theorem dX5_wall_51 : decode cX5_wall 51 = .ok (.aload_n 0, 1) := by decide +kernel
theorem dX5_wall_52 : decode cX5_wall 52 = .ok (.iconst 0, 1) := by decide +kernel
theorem dX5_wall_53 : decode cX5_wall 53 = .ok (.putfield 194, 3) := by decide +kernel
theorem dX5_wall_56 : decode cX5_wall 56 = .ok (.aload_n 0, 1) := by decide +kernel
theorem dX5_wall_57 : decode cX5_wall 57 = .ok (.iconst 0, 1) := by decide +kernel
theorem dX5_wall_58 : decode cX5_wall 58 = .ok (.putfield 198, 3) := by decide +kernel
theorem dX5_wall_61 : decode cX5_wall 61 = .ok (.aload_n 0, 1) := by decide +kernel
theorem dX5_wall_62 : decode cX5_wall 62 = .ok (.invokevirtual 171, 3) := by decide +kernel
theorem dX5_wall_65 : decode cX5_wall 65 = .ok (.iconst 0, 1) := by decide +kernel
theorem dX5_wall_66 : decode cX5_wall 66 = .ok (.istore_n 2, 1) := by decide +kernel
theorem dX5_wall_67 : decode cX5_wall 67 = .ok (.iconst 1, 1) := by decide +kernel
theorem dX5_wall_68 : decode cX5_wall 68 = .ok (.istore_n 3, 1) := by decide +kernel
theorem dX5_wall_69 : decode cX5_wall 69 = .ok (.iload_n 3, 1) := by decide +kernel
theorem dX5_wall_70 : decode cX5_wall 70 = .ok (.ifCond .eq 21, 3) := by decide +kernel
theorem dX5_wall_73 : decode cX5_wall 73 = .ok (.aload_n 0, 1) := by decide +kernel
theorem dX5_wall_74 : decode cX5_wall 74 = .ok (.getfield 109, 3) := by decide +kernel
theorem dX5_wall_77 : decode cX5_wall 77 = .ok (.ifCond .eq 14, 3) := by decide +kernel
theorem dX5_wall_80 : decode cX5_wall 80 = .ok (.aload_n 0, 1) := by decide +kernel
theorem dX5_wall_81 : decode cX5_wall 81 = .ok (.invokevirtual 216, 3) := by decide +kernel
theorem dX5_wall_84 : decode cX5_wall 84 = .ok (.istore_n 3, 1) := by decide +kernel
theorem dX5_wall_85 : decode cX5_wall 85 = .ok (.iinc 2 1, 3) := by decide +kernel
theorem dX5_wall_88 : decode cX5_wall 88 = .ok (.goto (-19), 3) := by decide +kernel
theorem dX5_wall_91 : decode cX5_wall 91 = .ok (.aload_n 0, 1) := by decide +kernel
theorem dX5_wall_92 : decode cX5_wall 92 = .ok (.iconst 0, 1) := by decide +kernel
theorem dX5_wall_93 : decode cX5_wall 93 = .ok (.putfield 174, 3) := by decide +kernel
theorem dX5_wall_96 : decode cX5_wall 96 = .ok (.iload_n 3, 1) := by decide +kernel
theorem dX5_wall_97 : decode cX5_wall 97 = .ok (.ifCond .ne 19, 3) := by decide +kernel
theorem dX5_wall_100 : decode cX5_wall 100 = .ok (.bipush (-2), 2) := by decide +kernel
theorem dX5_wall_102 : decode cX5_wall 102 = .ok (.bipush 8, 2) := by decide +kernel
theorem dX5_wall_104 : decode cX5_wall 104 = .ok (.aload_n 0, 1) := by decide +kernel
theorem dX5_wall_105 : decode cX5_wall 105 = .ok (.getfield 136, 3) := by decide +kernel
theorem dX5_wall_108 : decode cX5_wall 108 = .ok (.imul, 1) := by decide +kernel
theorem dX5_wall_109 : decode cX5_wall 109 = .ok (.aload_n 0, 1) := by decide +kernel
theorem dX5_wall_110 : decode cX5_wall 110 = .ok (.getfield 133, 3) := by decide +kernel
theorem dX5_wall_113 : decode cX5_wall 113 = .ok (.iadd, 1) := by decide +kernel
theorem dX5_wall_114 : decode cX5_wall 114 = .ok (.isub, 1) := by decide +kernel
theorem dX5_wall_115 : decode cX5_wall 115 = .ok (.ireturn, 1) := by decide +kernel
theorem dX5_wall_116 : decode cX5_wall 116 = .ok (.aload_n 0, 1) := by decide +kernel
theorem dX5_wall_117 : decode cX5_wall 117 = .ok (.invokevirtual 219, 3) := by decide +kernel
theorem dX5_wall_120 : decode cX5_wall 120 = .ok (.aload_n 0, 1) := by decide +kernel
theorem dX5_wall_121 : decode cX5_wall 121 = .ok (.iconst 0, 1) := by decide +kernel
theorem dX5_wall_122 : decode cX5_wall 122 = .ok (.putfield 222, 3) := by decide +kernel
theorem dX5_wall_125 : decode cX5_wall 125 = .ok (.aload_n 0, 1) := by decide +kernel
theorem dX5_wall_126 : decode cX5_wall 126 = .ok (.getfield 57, 3) := by decide +kernel
theorem dX5_wall_129 : decode cX5_wall 129 = .ok (.iconst 0, 1) := by decide +kernel
theorem dX5_wall_130 : decode cX5_wall 130 = .ok (.iconst 0, 1) := by decide +kernel
theorem dX5_wall_131 : decode cX5_wall 131 = .ok (.bastore, 1) := by decide +kernel
theorem dX5_wall_132 : decode cX5_wall 132 = .ok (.aload_n 0, 1) := by decide +kernel
theorem dX5_wall_133 : decode cX5_wall 133 = .ok (.getfield 57, 3) := by decide +kernel
theorem dX5_wall_136 : decode cX5_wall 136 = .ok (.iconst 1, 1) := by decide +kernel
theorem dX5_wall_137 : decode cX5_wall 137 = .ok (.iconst 0, 1) := by decide +kernel
theorem dX5_wall_138 : decode cX5_wall 138 = .ok (.bastore, 1) := by decide +kernel
theorem dX5_wall_139 : decode cX5_wall 139 = .ok (.iload_n 2, 1) := by decide +kernel
theorem dX5_wall_140 : decode cX5_wall 140 = .ok (.ireturn, 1) := by decide +kernel
theorem dX5_isItem_0 : decode cX5_isItem 0 = .ok (.iload_n 1, 1) := by decide +kernel
theorem dX5_isItem_1 : decode cX5_isItem 1 = .ok (.i2l, 1) := by decide +kernel
theorem dX5_isItem_2 : decode cX5_isItem 2 = .ok (.lconst 0, 1) := by decide +kernel
theorem dX5_isItem_3 : decode cX5_isItem 3 = .ok (.aload_n 0, 1) := by decide +kernel
theorem dX5_isItem_4 : decode cX5_isItem 4 = .ok (.getfield 13, 3) := by decide +kernel
theorem dX5_isItem_7 : decode cX5_isItem 7 = .ok (.iconst 0, 1) := by decide +kernel
theorem dX5_isItem_8 : decode cX5_isItem 8 = .ok (.iaload, 1) := by decide +kernel
theorem dX5_isItem_9 : decode cX5_isItem 9 = .ok (.iconst 1, 1) := by decide +kernel
theorem dX5_isItem_10 : decode cX5_isItem 10 = .ok (.isub, 1) := by decide +kernel
theorem dX5_isItem_11 : decode cX5_isItem 11 = .ok (.i2l, 1) := by decide +kernel
theorem dX5_isItem_12 : decode cX5_isItem 12 = .ok (.invokestatic 123, 3) := by decide +kernel
theorem dX5_isItem_15 : decode cX5_isItem 15 = .ok (.ireturn, 1) := by decide +kernel
theorem dX5_isOrder_0 : decode cX5_isOrder 0 = .ok (.iload_n 1, 1) := by decide +kernel
theorem dX5_isOrder_1 : decode cX5_isOrder 1 = .ok (.i2l, 1) := by decide +kernel
theorem dX5_isOrder_2 : decode cX5_isOrder 2 = .ok (.lconst 0, 1) := by decide +kernel
theorem dX5_isOrder_3 : decode cX5_isOrder 3 = .ok (.aload_n 0, 1) := by decide +kernel
theorem dX5_isOrder_4 : decode cX5_isOrder 4 = .ok (.getfield 17, 3) := by decide +kernel
theorem dX5_isOrder_7 : decode cX5_isOrder 7 = .ok (.iconst 0, 1) := by decide +kernel
theorem dX5_isOrder_8 : decode cX5_isOrder 8 = .ok (.iaload, 1) := by decide +kernel
theorem dX5_isOrder_9 : decode cX5_isOrder 9 = .ok (.iconst 1, 1) := by decide +kernel
theorem dX5_isOrder_10 : decode cX5_isOrder 10 = .ok (.isub, 1) := by decide +kernel
theorem dX5_isOrder_11 : decode cX5_isOrder 11 = .ok (.i2l, 1) := by decide +kernel
theorem dX5_isOrder_12 : decode cX5_isOrder 12 = .ok (.invokestatic 123, 3) := by decide +kernel
theorem dX5_isOrder_15 : decode cX5_isOrder 15 = .ok (.ireturn, 1) := by decide +kernel
theorem dX5_sumOf_0 : decode cX5_sumOf 0 = .ok (.iconst 0, 1) := by decide +kernel
theorem dX5_sumOf_1 : decode cX5_sumOf 1 = .ok (.istore_n 3, 1) := by decide +kernel
theorem dX5_sumOf_2 : decode cX5_sumOf 2 = .ok (.iconst 0, 1) := by decide +kernel
theorem dX5_sumOf_3 : decode cX5_sumOf 3 = .ok (.istore 4, 2) := by decide +kernel
theorem dX5_sumOf_5 : decode cX5_sumOf 5 = .ok (.iload 4, 2) := by decide +kernel
theorem dX5_sumOf_7 : decode cX5_sumOf 7 = .ok (.bipush 10, 2) := by decide +kernel
theorem dX5_sumOf_9 : decode cX5_sumOf 9 = .ok (.if_icmp .ge 26, 3) := by decide +kernel
theorem dX5_sumOf_12 : decode cX5_sumOf 12 = .ok (.iload_n 3, 1) := by decide +kernel
theorem dX5_sumOf_13 : decode cX5_sumOf 13 = .ok (.aload_n 0, 1) := by decide +kernel
theorem dX5_sumOf_14 : decode cX5_sumOf 14 = .ok (.getfield 48, 3) := by decide +kernel
theorem dX5_sumOf_17 : decode cX5_sumOf 17 = .ok (.iload_n 1, 1) := by decide +kernel
theorem dX5_sumOf_18 : decode cX5_sumOf 18 = .ok (.bipush 10, 2) := by decide +kernel
theorem dX5_sumOf_20 : decode cX5_sumOf 20 = .ok (.iload_n 2, 1) := by decide +kernel
theorem dX5_sumOf_21 : decode cX5_sumOf 21 = .ok (.imul, 1) := by decide +kernel
theorem dX5_sumOf_22 : decode cX5_sumOf 22 = .ok (.iadd, 1) := by decide +kernel
theorem dX5_sumOf_23 : decode cX5_sumOf 23 = .ok (.iload 4, 2) := by decide +kernel
theorem dX5_sumOf_25 : decode cX5_sumOf 25 = .ok (.iadd, 1) := by decide +kernel
theorem dX5_sumOf_26 : decode cX5_sumOf 26 = .ok (.iaload, 1) := by decide +kernel
theorem dX5_sumOf_27 : decode cX5_sumOf 27 = .ok (.iadd, 1) := by decide +kernel
theorem dX5_sumOf_28 : decode cX5_sumOf 28 = .ok (.istore_n 3, 1) := by decide +kernel
theorem dX5_sumOf_29 : decode cX5_sumOf 29 = .ok (.iinc 4 1, 3) := by decide +kernel
theorem dX5_sumOf_32 : decode cX5_sumOf 32 = .ok (.goto (-27), 3) := by decide +kernel
theorem dX5_sumOf_35 : decode cX5_sumOf 35 = .ok (.iload_n 3, 1) := by decide +kernel
theorem dX5_sumOf_36 : decode cX5_sumOf 36 = .ok (.ireturn, 1) := by decide +kernel
theorem dX5_needOf_0 : decode cX5_needOf 0 = .ok (.iconst 0, 1) := by decide +kernel
theorem dX5_needOf_1 : decode cX5_needOf 1 = .ok (.istore_n 2, 1) := by decide +kernel
theorem dX5_needOf_2 : decode cX5_needOf 2 = .ok (.iconst 0, 1) := by decide +kernel
theorem dX5_needOf_3 : decode cX5_needOf 3 = .ok (.istore_n 3, 1) := by decide +kernel
theorem dX5_needOf_4 : decode cX5_needOf 4 = .ok (.iload_n 3, 1) := by decide +kernel
theorem dX5_needOf_5 : decode cX5_needOf 5 = .ok (.bipush 10, 2) := by decide +kernel
theorem dX5_needOf_7 : decode cX5_needOf 7 = .ok (.if_icmp .ge 23, 3) := by decide +kernel
theorem dX5_needOf_10 : decode cX5_needOf 10 = .ok (.iload_n 2, 1) := by decide +kernel
theorem dX5_needOf_11 : decode cX5_needOf 11 = .ok (.aload_n 0, 1) := by decide +kernel
theorem dX5_needOf_12 : decode cX5_needOf 12 = .ok (.getfield 45, 3) := by decide +kernel
theorem dX5_needOf_15 : decode cX5_needOf 15 = .ok (.bipush 10, 2) := by decide +kernel
theorem dX5_needOf_17 : decode cX5_needOf 17 = .ok (.iload_n 1, 1) := by decide +kernel
theorem dX5_needOf_18 : decode cX5_needOf 18 = .ok (.imul, 1) := by decide +kernel
theorem dX5_needOf_19 : decode cX5_needOf 19 = .ok (.iload_n 3, 1) := by decide +kernel
theorem dX5_needOf_20 : decode cX5_needOf 20 = .ok (.iadd, 1) := by decide +kernel
theorem dX5_needOf_21 : decode cX5_needOf 21 = .ok (.iaload, 1) := by decide +kernel
theorem dX5_needOf_22 : decode cX5_needOf 22 = .ok (.iadd, 1) := by decide +kernel
theorem dX5_needOf_23 : decode cX5_needOf 23 = .ok (.istore_n 2, 1) := by decide +kernel
theorem dX5_needOf_24 : decode cX5_needOf 24 = .ok (.iinc 3 1, 3) := by decide +kernel
theorem dX5_needOf_27 : decode cX5_needOf 27 = .ok (.goto (-23), 3) := by decide +kernel
theorem dX5_needOf_30 : decode cX5_needOf 30 = .ok (.iload_n 2, 1) := by decide +kernel
theorem dX5_needOf_31 : decode cX5_needOf 31 = .ok (.ireturn, 1) := by decide +kernel
theorem dX5_lateOf_0 : decode cX5_lateOf 0 = .ok (.iconst 0, 1) := by decide +kernel
theorem dX5_lateOf_1 : decode cX5_lateOf 1 = .ok (.istore_n 2, 1) := by decide +kernel
theorem dX5_lateOf_2 : decode cX5_lateOf 2 = .ok (.iconst 0, 1) := by decide +kernel
theorem dX5_lateOf_3 : decode cX5_lateOf 3 = .ok (.istore_n 3, 1) := by decide +kernel
theorem dX5_lateOf_4 : decode cX5_lateOf 4 = .ok (.iload_n 3, 1) := by decide +kernel
theorem dX5_lateOf_5 : decode cX5_lateOf 5 = .ok (.aload_n 0, 1) := by decide +kernel
theorem dX5_lateOf_6 : decode cX5_lateOf 6 = .ok (.getfield 17, 3) := by decide +kernel
theorem dX5_lateOf_9 : decode cX5_lateOf 9 = .ok (.iconst 0, 1) := by decide +kernel
theorem dX5_lateOf_10 : decode cX5_lateOf 10 = .ok (.iaload, 1) := by decide +kernel
theorem dX5_lateOf_11 : decode cX5_lateOf 11 = .ok (.if_icmp .ge 27, 3) := by decide +kernel
theorem dX5_lateOf_14 : decode cX5_lateOf 14 = .ok (.iload_n 2, 1) := by decide +kernel
theorem dX5_lateOf_15 : decode cX5_lateOf 15 = .ok (.aload_n 0, 1) := by decide +kernel
theorem dX5_lateOf_16 : decode cX5_lateOf 16 = .ok (.getfield 48, 3) := by decide +kernel
theorem dX5_lateOf_19 : decode cX5_lateOf 19 = .ok (.sipush 170, 3) := by decide +kernel
theorem dX5_lateOf_22 : decode cX5_lateOf 22 = .ok (.bipush 10, 2) := by decide +kernel
theorem dX5_lateOf_24 : decode cX5_lateOf 24 = .ok (.iload_n 3, 1) := by decide +kernel
theorem dX5_lateOf_25 : decode cX5_lateOf 25 = .ok (.imul, 1) := by decide +kernel
theorem dX5_lateOf_26 : decode cX5_lateOf 26 = .ok (.iadd, 1) := by decide +kernel
theorem dX5_lateOf_27 : decode cX5_lateOf 27 = .ok (.iload_n 1, 1) := by decide +kernel
theorem dX5_lateOf_28 : decode cX5_lateOf 28 = .ok (.iadd, 1) := by decide +kernel
theorem dX5_lateOf_29 : decode cX5_lateOf 29 = .ok (.iaload, 1) := by decide +kernel
theorem dX5_lateOf_30 : decode cX5_lateOf 30 = .ok (.iadd, 1) := by decide +kernel
theorem dX5_lateOf_31 : decode cX5_lateOf 31 = .ok (.istore_n 2, 1) := by decide +kernel
theorem dX5_lateOf_32 : decode cX5_lateOf 32 = .ok (.iinc 3 1, 3) := by decide +kernel
theorem dX5_lateOf_35 : decode cX5_lateOf 35 = .ok (.goto (-31), 3) := by decide +kernel
theorem dX5_lateOf_38 : decode cX5_lateOf 38 = .ok (.iload_n 2, 1) := by decide +kernel
theorem dX5_lateOf_39 : decode cX5_lateOf 39 = .ok (.ireturn, 1) := by decide +kernel
theorem dX5_item_0 : decode cX5_item 0 = .ok (.aload_n 0, 1) := by decide +kernel
theorem dX5_item_1 : decode cX5_item 1 = .ok (.iconst 0, 1) := by decide +kernel
theorem dX5_item_2 : decode cX5_item 2 = .ok (.putfield 86, 3) := by decide +kernel
theorem dX5_item_5 : decode cX5_item 5 = .ok (.aload_n 0, 1) := by decide +kernel
theorem dX5_item_6 : decode cX5_item 6 = .ok (.iload_n 1, 1) := by decide +kernel
theorem dX5_item_7 : decode cX5_item 7 = .ok (.invokevirtual 225, 3) := by decide +kernel
theorem dX5_item_10 : decode cX5_item 10 = .ok (.ifCond .ne 5, 3) := by decide +kernel
theorem dX5_item_13 : decode cX5_item 13 = .ok (.iconst (-1), 1) := by decide +kernel
theorem dX5_item_14 : decode cX5_item 14 = .ok (.ireturn, 1) := by decide +kernel
theorem dX5_item_15 : decode cX5_item 15 = .ok (.iload_n 2, 1) := by decide +kernel
theorem dX5_item_16 : decode cX5_item 16 = .ok (.ifCond .ne 12, 3) := by decide +kernel
theorem dX5_item_19 : decode cX5_item 19 = .ok (.aload_n 0, 1) := by decide +kernel
theorem dX5_item_20 : decode cX5_item 20 = .ok (.getfield 33, 3) := by decide +kernel
theorem dX5_item_23 : decode cX5_item 23 = .ok (.iload_n 1, 1) := by decide +kernel
theorem dX5_item_24 : decode cX5_item 24 = .ok (.iaload, 1) := by decide +kernel
theorem dX5_item_25 : decode cX5_item 25 = .ok (.goto 31, 3) := by decide +kernel
theorem dX5_item_28 : decode cX5_item 28 = .ok (.iload_n 2, 1) := by decide +kernel
theorem dX5_item_29 : decode cX5_item 29 = .ok (.iconst 1, 1) := by decide +kernel
theorem dX5_item_30 : decode cX5_item 30 = .ok (.if_icmp .ne 12, 3) := by decide +kernel
theorem dX5_item_33 : decode cX5_item 33 = .ok (.aload_n 0, 1) := by decide +kernel
theorem dX5_item_34 : decode cX5_item 34 = .ok (.getfield 48, 3) := by decide +kernel
theorem dX5_item_37 : decode cX5_item 37 = .ok (.iload_n 1, 1) := by decide +kernel
theorem dX5_item_38 : decode cX5_item 38 = .ok (.iaload, 1) := by decide +kernel
theorem dX5_item_39 : decode cX5_item 39 = .ok (.goto 17, 3) := by decide +kernel
theorem dX5_item_42 : decode cX5_item 42 = .ok (.iload_n 2, 1) := by decide +kernel
theorem dX5_item_43 : decode cX5_item 43 = .ok (.iconst 2, 1) := by decide +kernel
theorem dX5_item_44 : decode cX5_item 44 = .ok (.if_icmp .ne 11, 3) := by decide +kernel
theorem dX5_item_47 : decode cX5_item 47 = .ok (.aload_n 0, 1) := by decide +kernel
theorem dX5_item_48 : decode cX5_item 48 = .ok (.iload_n 1, 1) := by decide +kernel
theorem dX5_item_49 : decode cX5_item 49 = .ok (.invokevirtual 229, 3) := by decide +kernel
theorem dX5_item_52 : decode cX5_item 52 = .ok (.goto 4, 3) := by decide +kernel
theorem dX5_item_55 : decode cX5_item 55 = .ok (.iconst (-1), 1) := by decide +kernel
theorem dX5_item_56 : decode cX5_item 56 = .ok (.ireturn, 1) := by decide +kernel
theorem dX5_order_0 : decode cX5_order 0 = .ok (.aload_n 0, 1) := by decide +kernel
theorem dX5_order_1 : decode cX5_order 1 = .ok (.aload_n 0, 1) := by decide +kernel
theorem dX5_order_2 : decode cX5_order 2 = .ok (.iload_n 1, 1) := by decide +kernel
theorem dX5_order_3 : decode cX5_order 3 = .ok (.invokevirtual 232, 3) := by decide +kernel
theorem dX5_order_6 : decode cX5_order 6 = .ok (.ifCond .eq 19, 3) := by decide +kernel
theorem dX5_order_9 : decode cX5_order 9 = .ok (.iload_n 2, 1) := by decide +kernel
theorem dX5_order_10 : decode cX5_order 10 = .ok (.i2l, 1) := by decide +kernel
theorem dX5_order_11 : decode cX5_order 11 = .ok (.lconst 0, 1) := by decide +kernel
theorem dX5_order_12 : decode cX5_order 12 = .ok (.ldc2_w 235, 3) := by decide +kernel
theorem dX5_order_15 : decode cX5_order 15 = .ok (.invokestatic 123, 3) := by decide +kernel
theorem dX5_order_18 : decode cX5_order 18 = .ok (.ifCond .eq 7, 3) := by decide +kernel
theorem dX5_order_21 : decode cX5_order 21 = .ok (.iconst 0, 1) := by decide +kernel
theorem dX5_order_22 : decode cX5_order 22 = .ok (.goto 4, 3) := by decide +kernel
theorem dX5_order_25 : decode cX5_order 25 = .ok (.iconst 1, 1) := by decide +kernel
theorem dX5_order_26 : decode cX5_order 26 = .ok (.putfield 86, 3) := by decide +kernel
theorem dX5_order_29 : decode cX5_order 29 = .ok (.aload_n 0, 1) := by decide +kernel
theorem dX5_order_30 : decode cX5_order 30 = .ok (.getfield 86, 3) := by decide +kernel
theorem dX5_order_33 : decode cX5_order 33 = .ok (.iconst 1, 1) := by decide +kernel
theorem dX5_order_34 : decode cX5_order 34 = .ok (.if_icmp .ne 5, 3) := by decide +kernel
theorem dX5_order_37 : decode cX5_order 37 = .ok (.iconst 0, 1) := by decide +kernel
theorem dX5_order_38 : decode cX5_order 38 = .ok (.ireturn, 1) := by decide +kernel
theorem dX5_order_39 : decode cX5_order 39 = .ok (.iload_n 2, 1) := by decide +kernel
theorem dX5_order_40 : decode cX5_order 40 = .ok (.tableswitch 77 0 4 #[36, 43, 49, 57, 66], 36) := by decide +kernel
theorem dX5_order_76 : decode cX5_order 76 = .ok (.aload_n 0, 1) := by decide +kernel
theorem dX5_order_77 : decode cX5_order 77 = .ok (.getfield 42, 3) := by decide +kernel
theorem dX5_order_80 : decode cX5_order 80 = .ok (.iload_n 1, 1) := by decide +kernel
theorem dX5_order_81 : decode cX5_order 81 = .ok (.iaload, 1) := by decide +kernel
theorem dX5_order_82 : decode cX5_order 82 = .ok (.ireturn, 1) := by decide +kernel
theorem dX5_order_83 : decode cX5_order 83 = .ok (.aload_n 0, 1) := by decide +kernel
theorem dX5_order_84 : decode cX5_order 84 = .ok (.iload_n 1, 1) := by decide +kernel
theorem dX5_order_85 : decode cX5_order 85 = .ok (.invokevirtual 237, 3) := by decide +kernel
theorem dX5_order_88 : decode cX5_order 88 = .ok (.ireturn, 1) := by decide +kernel
theorem dX5_order_89 : decode cX5_order 89 = .ok (.aload_n 0, 1) := by decide +kernel
theorem dX5_order_90 : decode cX5_order 90 = .ok (.bipush 10, 2) := by decide +kernel
theorem dX5_order_92 : decode cX5_order 92 = .ok (.iload_n 1, 1) := by decide +kernel
theorem dX5_order_93 : decode cX5_order 93 = .ok (.invokevirtual 240, 3) := by decide +kernel
theorem dX5_order_96 : decode cX5_order 96 = .ok (.ireturn, 1) := by decide +kernel
theorem dX5_order_97 : decode cX5_order 97 = .ok (.aload_n 0, 1) := by decide +kernel
theorem dX5_order_98 : decode cX5_order 98 = .ok (.sipush 170, 3) := by decide +kernel
theorem dX5_order_101 : decode cX5_order 101 = .ok (.iload_n 1, 1) := by decide +kernel
theorem dX5_order_102 : decode cX5_order 102 = .ok (.invokevirtual 240, 3) := by decide +kernel
theorem dX5_order_105 : decode cX5_order 105 = .ok (.ireturn, 1) := by decide +kernel
theorem dX5_order_106 : decode cX5_order 106 = .ok (.aload_n 0, 1) := by decide +kernel
theorem dX5_order_107 : decode cX5_order 107 = .ok (.getfield 48, 3) := by decide +kernel
theorem dX5_order_110 : decode cX5_order 110 = .ok (.sipush 330, 3) := by decide +kernel
theorem dX5_order_113 : decode cX5_order 113 = .ok (.iload_n 1, 1) := by decide +kernel
theorem dX5_order_114 : decode cX5_order 114 = .ok (.iadd, 1) := by decide +kernel
theorem dX5_order_115 : decode cX5_order 115 = .ok (.iaload, 1) := by decide +kernel
theorem dX5_order_116 : decode cX5_order 116 = .ok (.ireturn, 1) := by decide +kernel
theorem dX5_order_117 : decode cX5_order 117 = .ok (.aload_n 0, 1) := by decide +kernel
theorem dX5_order_118 : decode cX5_order 118 = .ok (.getfield 48, 3) := by decide +kernel
theorem dX5_order_121 : decode cX5_order 121 = .ok (.sipush 346, 3) := by decide +kernel
theorem dX5_order_124 : decode cX5_order 124 = .ok (.iload_n 1, 1) := by decide +kernel
theorem dX5_order_125 : decode cX5_order 125 = .ok (.iadd, 1) := by decide +kernel
theorem dX5_order_126 : decode cX5_order 126 = .ok (.iaload, 1) := by decide +kernel
theorem dX5_order_127 : decode cX5_order 127 = .ok (.ireturn, 1) := by decide +kernel
theorem dX5_units_0 : decode cX5_units 0 = .ok (.aload_n 0, 1) := by decide +kernel
theorem dX5_units_1 : decode cX5_units 1 = .ok (.iconst 0, 1) := by decide +kernel
theorem dX5_units_2 : decode cX5_units 2 = .ok (.putfield 86, 3) := by decide +kernel
theorem dX5_units_5 : decode cX5_units 5 = .ok (.aload_n 0, 1) := by decide +kernel
theorem dX5_units_6 : decode cX5_units 6 = .ok (.iload_n 1, 1) := by decide +kernel
theorem dX5_units_7 : decode cX5_units 7 = .ok (.invokevirtual 232, 3) := by decide +kernel
theorem dX5_units_10 : decode cX5_units 10 = .ok (.ifCond .eq 11, 3) := by decide +kernel
theorem dX5_units_13 : decode cX5_units 13 = .ok (.aload_n 0, 1) := by decide +kernel
theorem dX5_units_14 : decode cX5_units 14 = .ok (.iload_n 2, 1) := by decide +kernel
theorem dX5_units_15 : decode cX5_units 15 = .ok (.invokevirtual 225, 3) := by decide +kernel
theorem dX5_units_18 : decode cX5_units 18 = .ok (.ifCond .ne 5, 3) := by decide +kernel
theorem dX5_units_21 : decode cX5_units 21 = .ok (.iconst (-1), 1) := by decide +kernel
theorem dX5_units_22 : decode cX5_units 22 = .ok (.ireturn, 1) := by decide +kernel
theorem dX5_units_23 : decode cX5_units 23 = .ok (.iload_n 3, 1) := by decide +kernel
theorem dX5_units_24 : decode cX5_units 24 = .ok (.ifCond .ne 17, 3) := by decide +kernel
theorem dX5_units_27 : decode cX5_units 27 = .ok (.aload_n 0, 1) := by decide +kernel
theorem dX5_units_28 : decode cX5_units 28 = .ok (.getfield 45, 3) := by decide +kernel
theorem dX5_units_31 : decode cX5_units 31 = .ok (.bipush 10, 2) := by decide +kernel
theorem dX5_units_33 : decode cX5_units 33 = .ok (.iload_n 1, 1) := by decide +kernel
theorem dX5_units_34 : decode cX5_units 34 = .ok (.imul, 1) := by decide +kernel
theorem dX5_units_35 : decode cX5_units 35 = .ok (.iload_n 2, 1) := by decide +kernel
theorem dX5_units_36 : decode cX5_units 36 = .ok (.iadd, 1) := by decide +kernel
theorem dX5_units_37 : decode cX5_units 37 = .ok (.iaload, 1) := by decide +kernel
theorem dX5_units_38 : decode cX5_units 38 = .ok (.goto 49, 3) := by decide +kernel
theorem dX5_units_41 : decode cX5_units 41 = .ok (.iload_n 3, 1) := by decide +kernel
theorem dX5_units_42 : decode cX5_units 42 = .ok (.iconst 1, 1) := by decide +kernel
theorem dX5_units_43 : decode cX5_units 43 = .ok (.if_icmp .ne 20, 3) := by decide +kernel
theorem dX5_units_46 : decode cX5_units 46 = .ok (.aload_n 0, 1) := by decide +kernel
theorem dX5_units_47 : decode cX5_units 47 = .ok (.getfield 48, 3) := by decide +kernel
theorem dX5_units_50 : decode cX5_units 50 = .ok (.bipush 10, 2) := by decide +kernel
theorem dX5_units_52 : decode cX5_units 52 = .ok (.bipush 10, 2) := by decide +kernel
theorem dX5_units_54 : decode cX5_units 54 = .ok (.iload_n 1, 1) := by decide +kernel
theorem dX5_units_55 : decode cX5_units 55 = .ok (.imul, 1) := by decide +kernel
theorem dX5_units_56 : decode cX5_units 56 = .ok (.iadd, 1) := by decide +kernel
theorem dX5_units_57 : decode cX5_units 57 = .ok (.iload_n 2, 1) := by decide +kernel
theorem dX5_units_58 : decode cX5_units 58 = .ok (.iadd, 1) := by decide +kernel
theorem dX5_units_59 : decode cX5_units 59 = .ok (.iaload, 1) := by decide +kernel
theorem dX5_units_60 : decode cX5_units 60 = .ok (.goto 27, 3) := by decide +kernel
theorem dX5_units_63 : decode cX5_units 63 = .ok (.iload_n 3, 1) := by decide +kernel
theorem dX5_units_64 : decode cX5_units 64 = .ok (.iconst 2, 1) := by decide +kernel
theorem dX5_units_65 : decode cX5_units 65 = .ok (.if_icmp .ne 21, 3) := by decide +kernel
theorem dX5_units_68 : decode cX5_units 68 = .ok (.aload_n 0, 1) := by decide +kernel
theorem dX5_units_69 : decode cX5_units 69 = .ok (.getfield 48, 3) := by decide +kernel
theorem dX5_units_72 : decode cX5_units 72 = .ok (.sipush 170, 3) := by decide +kernel
theorem dX5_units_75 : decode cX5_units 75 = .ok (.bipush 10, 2) := by decide +kernel
theorem dX5_units_77 : decode cX5_units 77 = .ok (.iload_n 1, 1) := by decide +kernel
theorem dX5_units_78 : decode cX5_units 78 = .ok (.imul, 1) := by decide +kernel
theorem dX5_units_79 : decode cX5_units 79 = .ok (.iadd, 1) := by decide +kernel
theorem dX5_units_80 : decode cX5_units 80 = .ok (.iload_n 2, 1) := by decide +kernel
theorem dX5_units_81 : decode cX5_units 81 = .ok (.iadd, 1) := by decide +kernel
theorem dX5_units_82 : decode cX5_units 82 = .ok (.iaload, 1) := by decide +kernel
theorem dX5_units_83 : decode cX5_units 83 = .ok (.goto 4, 3) := by decide +kernel
theorem dX5_units_86 : decode cX5_units 86 = .ok (.iconst (-1), 1) := by decide +kernel
theorem dX5_units_87 : decode cX5_units 87 = .ok (.ireturn, 1) := by decide +kernel
theorem dX5_isEarlier_0 : decode cX5_isEarlier 0 = .ok (.aload_n 0, 1) := by decide +kernel
theorem dX5_isEarlier_1 : decode cX5_isEarlier 1 = .ok (.getfield 42, 3) := by decide +kernel
theorem dX5_isEarlier_4 : decode cX5_isEarlier 4 = .ok (.iload_n 1, 1) := by decide +kernel
theorem dX5_isEarlier_5 : decode cX5_isEarlier 5 = .ok (.iaload, 1) := by decide +kernel
theorem dX5_isEarlier_6 : decode cX5_isEarlier 6 = .ok (.aload_n 0, 1) := by decide +kernel
theorem dX5_isEarlier_7 : decode cX5_isEarlier 7 = .ok (.getfield 42, 3) := by decide +kernel
theorem dX5_isEarlier_10 : decode cX5_isEarlier 10 = .ok (.iload_n 2, 1) := by decide +kernel
theorem dX5_isEarlier_11 : decode cX5_isEarlier 11 = .ok (.iaload, 1) := by decide +kernel
theorem dX5_isEarlier_12 : decode cX5_isEarlier 12 = .ok (.if_icmp .eq 26, 3) := by decide +kernel
theorem dX5_isEarlier_15 : decode cX5_isEarlier 15 = .ok (.aload_n 0, 1) := by decide +kernel
theorem dX5_isEarlier_16 : decode cX5_isEarlier 16 = .ok (.getfield 42, 3) := by decide +kernel
theorem dX5_isEarlier_19 : decode cX5_isEarlier 19 = .ok (.iload_n 1, 1) := by decide +kernel
theorem dX5_isEarlier_20 : decode cX5_isEarlier 20 = .ok (.iaload, 1) := by decide +kernel
theorem dX5_isEarlier_21 : decode cX5_isEarlier 21 = .ok (.aload_n 0, 1) := by decide +kernel
theorem dX5_isEarlier_22 : decode cX5_isEarlier 22 = .ok (.getfield 42, 3) := by decide +kernel
theorem dX5_isEarlier_25 : decode cX5_isEarlier 25 = .ok (.iload_n 2, 1) := by decide +kernel
theorem dX5_isEarlier_26 : decode cX5_isEarlier 26 = .ok (.iaload, 1) := by decide +kernel
theorem dX5_isEarlier_27 : decode cX5_isEarlier 27 = .ok (.if_icmp .ge 7, 3) := by decide +kernel
theorem dX5_isEarlier_30 : decode cX5_isEarlier 30 = .ok (.iconst 1, 1) := by decide +kernel
theorem dX5_isEarlier_31 : decode cX5_isEarlier 31 = .ok (.goto 17, 3) := by decide +kernel
theorem dX5_isEarlier_34 : decode cX5_isEarlier 34 = .ok (.iconst 0, 1) := by decide +kernel
theorem dX5_isEarlier_35 : decode cX5_isEarlier 35 = .ok (.goto 13, 3) := by decide +kernel
theorem dX5_isEarlier_38 : decode cX5_isEarlier 38 = .ok (.iload_n 1, 1) := by decide +kernel
theorem dX5_isEarlier_39 : decode cX5_isEarlier 39 = .ok (.iload_n 2, 1) := by decide +kernel
theorem dX5_isEarlier_40 : decode cX5_isEarlier 40 = .ok (.if_icmp .ge 7, 3) := by decide +kernel
theorem dX5_isEarlier_43 : decode cX5_isEarlier 43 = .ok (.iconst 1, 1) := by decide +kernel
theorem dX5_isEarlier_44 : decode cX5_isEarlier 44 = .ok (.goto 4, 3) := by decide +kernel
theorem dX5_isEarlier_47 : decode cX5_isEarlier 47 = .ok (.iconst 0, 1) := by decide +kernel
theorem dX5_isEarlier_48 : decode cX5_isEarlier 48 = .ok (.ireturn, 1) := by decide +kernel
theorem dX5_alikeOf_0 : decode cX5_alikeOf 0 = .ok (.iconst 0, 1) := by decide +kernel
theorem dX5_alikeOf_1 : decode cX5_alikeOf 1 = .ok (.istore_n 3, 1) := by decide +kernel
theorem dX5_alikeOf_2 : decode cX5_alikeOf 2 = .ok (.iconst 0, 1) := by decide +kernel
theorem dX5_alikeOf_3 : decode cX5_alikeOf 3 = .ok (.istore 4, 2) := by decide +kernel
theorem dX5_alikeOf_5 : decode cX5_alikeOf 5 = .ok (.iload 4, 2) := by decide +kernel
theorem dX5_alikeOf_7 : decode cX5_alikeOf 7 = .ok (.bipush 10, 2) := by decide +kernel
theorem dX5_alikeOf_9 : decode cX5_alikeOf 9 = .ok (.if_icmp .ge 47, 3) := by decide +kernel
theorem dX5_alikeOf_12 : decode cX5_alikeOf 12 = .ok (.iload_n 3, 1) := by decide +kernel
theorem dX5_alikeOf_13 : decode cX5_alikeOf 13 = .ok (.aload_n 0, 1) := by decide +kernel
theorem dX5_alikeOf_14 : decode cX5_alikeOf 14 = .ok (.getfield 45, 3) := by decide +kernel
theorem dX5_alikeOf_17 : decode cX5_alikeOf 17 = .ok (.bipush 10, 2) := by decide +kernel
theorem dX5_alikeOf_19 : decode cX5_alikeOf 19 = .ok (.iload_n 1, 1) := by decide +kernel
theorem dX5_alikeOf_20 : decode cX5_alikeOf 20 = .ok (.imul, 1) := by decide +kernel
theorem dX5_alikeOf_21 : decode cX5_alikeOf 21 = .ok (.iload 4, 2) := by decide +kernel
theorem dX5_alikeOf_23 : decode cX5_alikeOf 23 = .ok (.iadd, 1) := by decide +kernel
theorem dX5_alikeOf_24 : decode cX5_alikeOf 24 = .ok (.iaload, 1) := by decide +kernel
theorem dX5_alikeOf_25 : decode cX5_alikeOf 25 = .ok (.ifCond .le 22, 3) := by decide +kernel
theorem dX5_alikeOf_28 : decode cX5_alikeOf 28 = .ok (.aload_n 0, 1) := by decide +kernel
theorem dX5_alikeOf_29 : decode cX5_alikeOf 29 = .ok (.getfield 45, 3) := by decide +kernel
theorem dX5_alikeOf_32 : decode cX5_alikeOf 32 = .ok (.bipush 10, 2) := by decide +kernel
theorem dX5_alikeOf_34 : decode cX5_alikeOf 34 = .ok (.iload_n 2, 1) := by decide +kernel
theorem dX5_alikeOf_35 : decode cX5_alikeOf 35 = .ok (.imul, 1) := by decide +kernel
theorem dX5_alikeOf_36 : decode cX5_alikeOf 36 = .ok (.iload 4, 2) := by decide +kernel
theorem dX5_alikeOf_38 : decode cX5_alikeOf 38 = .ok (.iadd, 1) := by decide +kernel
theorem dX5_alikeOf_39 : decode cX5_alikeOf 39 = .ok (.iaload, 1) := by decide +kernel
theorem dX5_alikeOf_40 : decode cX5_alikeOf 40 = .ok (.ifCond .le 7, 3) := by decide +kernel
theorem dX5_alikeOf_43 : decode cX5_alikeOf 43 = .ok (.iconst 1, 1) := by decide +kernel
theorem dX5_alikeOf_44 : decode cX5_alikeOf 44 = .ok (.goto 4, 3) := by decide +kernel
theorem dX5_alikeOf_47 : decode cX5_alikeOf 47 = .ok (.iconst 0, 1) := by decide +kernel
theorem dX5_alikeOf_48 : decode cX5_alikeOf 48 = .ok (.iadd, 1) := by decide +kernel
theorem dX5_alikeOf_49 : decode cX5_alikeOf 49 = .ok (.istore_n 3, 1) := by decide +kernel
theorem dX5_alikeOf_50 : decode cX5_alikeOf 50 = .ok (.iinc 4 1, 3) := by decide +kernel
theorem dX5_alikeOf_53 : decode cX5_alikeOf 53 = .ok (.goto (-48), 3) := by decide +kernel
theorem dX5_alikeOf_56 : decode cX5_alikeOf 56 = .ok (.iload_n 3, 1) := by decide +kernel
theorem dX5_alikeOf_57 : decode cX5_alikeOf 57 = .ok (.ireturn, 1) := by decide +kernel
theorem dX5_alike_0 : decode cX5_alike 0 = .ok (.aload_n 0, 1) := by decide +kernel
theorem dX5_alike_1 : decode cX5_alike 1 = .ok (.iconst 0, 1) := by decide +kernel
theorem dX5_alike_2 : decode cX5_alike 2 = .ok (.putfield 86, 3) := by decide +kernel
theorem dX5_alike_5 : decode cX5_alike 5 = .ok (.aload_n 0, 1) := by decide +kernel
theorem dX5_alike_6 : decode cX5_alike 6 = .ok (.iload_n 1, 1) := by decide +kernel
theorem dX5_alike_7 : decode cX5_alike 7 = .ok (.invokevirtual 232, 3) := by decide +kernel
theorem dX5_alike_10 : decode cX5_alike 10 = .ok (.ifCond .eq 20, 3) := by decide +kernel
theorem dX5_alike_13 : decode cX5_alike 13 = .ok (.aload_n 0, 1) := by decide +kernel
theorem dX5_alike_14 : decode cX5_alike 14 = .ok (.iload_n 2, 1) := by decide +kernel
theorem dX5_alike_15 : decode cX5_alike 15 = .ok (.invokevirtual 232, 3) := by decide +kernel
theorem dX5_alike_18 : decode cX5_alike 18 = .ok (.ifCond .eq 12, 3) := by decide +kernel
theorem dX5_alike_21 : decode cX5_alike 21 = .ok (.aload_n 0, 1) := by decide +kernel
theorem dX5_alike_22 : decode cX5_alike 22 = .ok (.iload_n 1, 1) := by decide +kernel
theorem dX5_alike_23 : decode cX5_alike 23 = .ok (.iload_n 2, 1) := by decide +kernel
theorem dX5_alike_24 : decode cX5_alike 24 = .ok (.invokevirtual 244, 3) := by decide +kernel
theorem dX5_alike_27 : decode cX5_alike 27 = .ok (.goto 4, 3) := by decide +kernel
theorem dX5_alike_30 : decode cX5_alike 30 = .ok (.iconst (-1), 1) := by decide +kernel
theorem dX5_alike_31 : decode cX5_alike 31 = .ok (.ireturn, 1) := by decide +kernel
theorem dX5_itemsOf_0 : decode cX5_itemsOf 0 = .ok (.iconst 0, 1) := by decide +kernel
theorem dX5_itemsOf_1 : decode cX5_itemsOf 1 = .ok (.istore_n 2, 1) := by decide +kernel
theorem dX5_itemsOf_2 : decode cX5_itemsOf 2 = .ok (.iconst 0, 1) := by decide +kernel
theorem dX5_itemsOf_3 : decode cX5_itemsOf 3 = .ok (.istore_n 3, 1) := by decide +kernel
theorem dX5_itemsOf_4 : decode cX5_itemsOf 4 = .ok (.iload_n 3, 1) := by decide +kernel
theorem dX5_itemsOf_5 : decode cX5_itemsOf 5 = .ok (.aload_n 0, 1) := by decide +kernel
theorem dX5_itemsOf_6 : decode cX5_itemsOf 6 = .ok (.getfield 17, 3) := by decide +kernel
theorem dX5_itemsOf_9 : decode cX5_itemsOf 9 = .ok (.iconst 0, 1) := by decide +kernel
theorem dX5_itemsOf_10 : decode cX5_itemsOf 10 = .ok (.iaload, 1) := by decide +kernel
theorem dX5_itemsOf_11 : decode cX5_itemsOf 11 = .ok (.if_icmp .ge 60, 3) := by decide +kernel
theorem dX5_itemsOf_14 : decode cX5_itemsOf 14 = .ok (.iconst 0, 1) := by decide +kernel
theorem dX5_itemsOf_15 : decode cX5_itemsOf 15 = .ok (.istore 4, 2) := by decide +kernel
theorem dX5_itemsOf_17 : decode cX5_itemsOf 17 = .ok (.iload 4, 2) := by decide +kernel
theorem dX5_itemsOf_19 : decode cX5_itemsOf 19 = .ok (.bipush 10, 2) := by decide +kernel
theorem dX5_itemsOf_21 : decode cX5_itemsOf 21 = .ok (.if_icmp .ge 44, 3) := by decide +kernel
theorem dX5_itemsOf_24 : decode cX5_itemsOf 24 = .ok (.iload_n 2, 1) := by decide +kernel
theorem dX5_itemsOf_25 : decode cX5_itemsOf 25 = .ok (.iload_n 1, 1) := by decide +kernel
theorem dX5_itemsOf_26 : decode cX5_itemsOf 26 = .ok (.iload_n 3, 1) := by decide +kernel
theorem dX5_itemsOf_27 : decode cX5_itemsOf 27 = .ok (.ishr, 1) := by decide +kernel
theorem dX5_itemsOf_28 : decode cX5_itemsOf 28 = .ok (.iconst 1, 1) := by decide +kernel
theorem dX5_itemsOf_29 : decode cX5_itemsOf 29 = .ok (.iand, 1) := by decide +kernel
theorem dX5_itemsOf_30 : decode cX5_itemsOf 30 = .ok (.iconst 1, 1) := by decide +kernel
theorem dX5_itemsOf_31 : decode cX5_itemsOf 31 = .ok (.if_icmp .ne 25, 3) := by decide +kernel
theorem dX5_itemsOf_34 : decode cX5_itemsOf 34 = .ok (.aload_n 0, 1) := by decide +kernel
theorem dX5_itemsOf_35 : decode cX5_itemsOf 35 = .ok (.getfield 45, 3) := by decide +kernel
theorem dX5_itemsOf_38 : decode cX5_itemsOf 38 = .ok (.bipush 10, 2) := by decide +kernel
theorem dX5_itemsOf_40 : decode cX5_itemsOf 40 = .ok (.iload_n 3, 1) := by decide +kernel
theorem dX5_itemsOf_41 : decode cX5_itemsOf 41 = .ok (.imul, 1) := by decide +kernel
theorem dX5_itemsOf_42 : decode cX5_itemsOf 42 = .ok (.iload 4, 2) := by decide +kernel
theorem dX5_itemsOf_44 : decode cX5_itemsOf 44 = .ok (.iadd, 1) := by decide +kernel
theorem dX5_itemsOf_45 : decode cX5_itemsOf 45 = .ok (.iaload, 1) := by decide +kernel
theorem dX5_itemsOf_46 : decode cX5_itemsOf 46 = .ok (.ifCond .le 10, 3) := by decide +kernel
theorem dX5_itemsOf_49 : decode cX5_itemsOf 49 = .ok (.iconst 1, 1) := by decide +kernel
theorem dX5_itemsOf_50 : decode cX5_itemsOf 50 = .ok (.iload 4, 2) := by decide +kernel
theorem dX5_itemsOf_52 : decode cX5_itemsOf 52 = .ok (.ishl, 1) := by decide +kernel
theorem dX5_itemsOf_53 : decode cX5_itemsOf 53 = .ok (.goto 4, 3) := by decide +kernel
theorem dX5_itemsOf_56 : decode cX5_itemsOf 56 = .ok (.iconst 0, 1) := by decide +kernel
theorem dX5_itemsOf_57 : decode cX5_itemsOf 57 = .ok (.ior, 1) := by decide +kernel
theorem dX5_itemsOf_58 : decode cX5_itemsOf 58 = .ok (.istore_n 2, 1) := by decide +kernel
theorem dX5_itemsOf_59 : decode cX5_itemsOf 59 = .ok (.iinc 4 1, 3) := by decide +kernel
theorem dX5_itemsOf_62 : decode cX5_itemsOf 62 = .ok (.goto (-45), 3) := by decide +kernel
theorem dX5_itemsOf_65 : decode cX5_itemsOf 65 = .ok (.iinc 3 1, 3) := by decide +kernel
theorem dX5_itemsOf_68 : decode cX5_itemsOf 68 = .ok (.goto (-64), 3) := by decide +kernel
theorem dX5_itemsOf_71 : decode cX5_itemsOf 71 = .ok (.iload_n 2, 1) := by decide +kernel
theorem dX5_itemsOf_72 : decode cX5_itemsOf 72 = .ok (.ireturn, 1) := by decide +kernel
theorem dX5_count1_0 : decode cX5_count1 0 = .ok (.iconst 0, 1) := by decide +kernel
theorem dX5_count1_1 : decode cX5_count1 1 = .ok (.istore_n 1, 1) := by decide +kernel
theorem dX5_count1_2 : decode cX5_count1 2 = .ok (.iload_n 0, 1) := by decide +kernel
theorem dX5_count1_3 : decode cX5_count1 3 = .ok (.istore_n 2, 1) := by decide +kernel
theorem dX5_count1_4 : decode cX5_count1 4 = .ok (.iload_n 2, 1) := by decide +kernel
theorem dX5_count1_5 : decode cX5_count1 5 = .ok (.ifCond .eq 15, 3) := by decide +kernel
theorem dX5_count1_8 : decode cX5_count1 8 = .ok (.iinc 1 1, 3) := by decide +kernel
theorem dX5_count1_11 : decode cX5_count1 11 = .ok (.iload_n 2, 1) := by decide +kernel
theorem dX5_count1_12 : decode cX5_count1 12 = .ok (.iload_n 2, 1) := by decide +kernel
theorem dX5_count1_13 : decode cX5_count1 13 = .ok (.iconst 1, 1) := by decide +kernel
theorem dX5_count1_14 : decode cX5_count1 14 = .ok (.isub, 1) := by decide +kernel
theorem dX5_count1_15 : decode cX5_count1 15 = .ok (.iand, 1) := by decide +kernel
theorem dX5_count1_16 : decode cX5_count1 16 = .ok (.istore_n 2, 1) := by decide +kernel
theorem dX5_count1_17 : decode cX5_count1 17 = .ok (.goto (-13), 3) := by decide +kernel
theorem dX5_count1_20 : decode cX5_count1 20 = .ok (.iload_n 1, 1) := by decide +kernel
theorem dX5_count1_21 : decode cX5_count1 21 = .ok (.ireturn, 1) := by decide +kernel
theorem dX5_waiting_0 : decode cX5_waiting 0 = .ok (.iconst 0, 1) := by decide +kernel
theorem dX5_waiting_1 : decode cX5_waiting 1 = .ok (.istore_n 1, 1) := by decide +kernel
theorem dX5_waiting_2 : decode cX5_waiting 2 = .ok (.iconst 0, 1) := by decide +kernel
theorem dX5_waiting_3 : decode cX5_waiting 3 = .ok (.istore_n 2, 1) := by decide +kernel
theorem dX5_waiting_4 : decode cX5_waiting 4 = .ok (.iload_n 2, 1) := by decide +kernel
theorem dX5_waiting_5 : decode cX5_waiting 5 = .ok (.aload_n 0, 1) := by decide +kernel
theorem dX5_waiting_6 : decode cX5_waiting 6 = .ok (.getfield 17, 3) := by decide +kernel
theorem dX5_waiting_9 : decode cX5_waiting 9 = .ok (.iconst 0, 1) := by decide +kernel
theorem dX5_waiting_10 : decode cX5_waiting 10 = .ok (.iaload, 1) := by decide +kernel
theorem dX5_waiting_11 : decode cX5_waiting 11 = .ok (.if_icmp .ge 32, 3) := by decide +kernel
theorem dX5_waiting_14 : decode cX5_waiting 14 = .ok (.iload_n 1, 1) := by decide +kernel
theorem dX5_waiting_15 : decode cX5_waiting 15 = .ok (.aload_n 0, 1) := by decide +kernel
theorem dX5_waiting_16 : decode cX5_waiting 16 = .ok (.getfield 48, 3) := by decide +kernel
theorem dX5_waiting_19 : decode cX5_waiting 19 = .ok (.sipush 330, 3) := by decide +kernel
theorem dX5_waiting_22 : decode cX5_waiting 22 = .ok (.iload_n 2, 1) := by decide +kernel
theorem dX5_waiting_23 : decode cX5_waiting 23 = .ok (.iadd, 1) := by decide +kernel
theorem dX5_waiting_24 : decode cX5_waiting 24 = .ok (.iaload, 1) := by decide +kernel
theorem dX5_waiting_25 : decode cX5_waiting 25 = .ok (.ifCond .ne 9, 3) := by decide +kernel
theorem dX5_waiting_28 : decode cX5_waiting 28 = .ok (.iconst 1, 1) := by decide +kernel
theorem dX5_waiting_29 : decode cX5_waiting 29 = .ok (.iload_n 2, 1) := by decide +kernel
theorem dX5_waiting_30 : decode cX5_waiting 30 = .ok (.ishl, 1) := by decide +kernel
theorem dX5_waiting_31 : decode cX5_waiting 31 = .ok (.goto 4, 3) := by decide +kernel
theorem dX5_waiting_34 : decode cX5_waiting 34 = .ok (.iconst 0, 1) := by decide +kernel
theorem dX5_waiting_35 : decode cX5_waiting 35 = .ok (.ior, 1) := by decide +kernel
theorem dX5_waiting_36 : decode cX5_waiting 36 = .ok (.istore_n 1, 1) := by decide +kernel
theorem dX5_waiting_37 : decode cX5_waiting 37 = .ok (.iinc 2 1, 3) := by decide +kernel
theorem dX5_waiting_40 : decode cX5_waiting 40 = .ok (.goto (-36), 3) := by decide +kernel
theorem dX5_waiting_43 : decode cX5_waiting 43 = .ok (.iload_n 1, 1) := by decide +kernel
theorem dX5_waiting_44 : decode cX5_waiting 44 = .ok (.ireturn, 1) := by decide +kernel
theorem dX5_firstOf_0 : decode cX5_firstOf 0 = .ok (.iconst (-1), 1) := by decide +kernel
theorem dX5_firstOf_1 : decode cX5_firstOf 1 = .ok (.istore_n 2, 1) := by decide +kernel
theorem dX5_firstOf_2 : decode cX5_firstOf 2 = .ok (.iconst 0, 1) := by decide +kernel
theorem dX5_firstOf_3 : decode cX5_firstOf 3 = .ok (.istore_n 3, 1) := by decide +kernel
theorem dX5_firstOf_4 : decode cX5_firstOf 4 = .ok (.iload_n 3, 1) := by decide +kernel
theorem dX5_firstOf_5 : decode cX5_firstOf 5 = .ok (.aload_n 0, 1) := by decide +kernel
theorem dX5_firstOf_6 : decode cX5_firstOf 6 = .ok (.getfield 17, 3) := by decide +kernel
theorem dX5_firstOf_9 : decode cX5_firstOf 9 = .ok (.iconst 0, 1) := by decide +kernel
theorem dX5_firstOf_10 : decode cX5_firstOf 10 = .ok (.iaload, 1) := by decide +kernel
theorem dX5_firstOf_11 : decode cX5_firstOf 11 = .ok (.if_icmp .ge 33, 3) := by decide +kernel
theorem dX5_firstOf_14 : decode cX5_firstOf 14 = .ok (.iload_n 1, 1) := by decide +kernel
theorem dX5_firstOf_15 : decode cX5_firstOf 15 = .ok (.iload_n 3, 1) := by decide +kernel
theorem dX5_firstOf_16 : decode cX5_firstOf 16 = .ok (.ishr, 1) := by decide +kernel
theorem dX5_firstOf_17 : decode cX5_firstOf 17 = .ok (.iconst 1, 1) := by decide +kernel
theorem dX5_firstOf_18 : decode cX5_firstOf 18 = .ok (.iand, 1) := by decide +kernel
theorem dX5_firstOf_19 : decode cX5_firstOf 19 = .ok (.iconst 1, 1) := by decide +kernel
theorem dX5_firstOf_20 : decode cX5_firstOf 20 = .ok (.if_icmp .ne 18, 3) := by decide +kernel
theorem dX5_firstOf_23 : decode cX5_firstOf 23 = .ok (.iload_n 2, 1) := by decide +kernel
theorem dX5_firstOf_24 : decode cX5_firstOf 24 = .ok (.ifCond .lt 12, 3) := by decide +kernel
theorem dX5_firstOf_27 : decode cX5_firstOf 27 = .ok (.aload_n 0, 1) := by decide +kernel
theorem dX5_firstOf_28 : decode cX5_firstOf 28 = .ok (.iload_n 3, 1) := by decide +kernel
theorem dX5_firstOf_29 : decode cX5_firstOf 29 = .ok (.iload_n 2, 1) := by decide +kernel
theorem dX5_firstOf_30 : decode cX5_firstOf 30 = .ok (.invokevirtual 247, 3) := by decide +kernel
theorem dX5_firstOf_33 : decode cX5_firstOf 33 = .ok (.ifCond .eq 5, 3) := by decide +kernel
theorem dX5_firstOf_36 : decode cX5_firstOf 36 = .ok (.iload_n 3, 1) := by decide +kernel
theorem dX5_firstOf_37 : decode cX5_firstOf 37 = .ok (.istore_n 2, 1) := by decide +kernel
theorem dX5_firstOf_38 : decode cX5_firstOf 38 = .ok (.iinc 3 1, 3) := by decide +kernel
theorem dX5_firstOf_41 : decode cX5_firstOf 41 = .ok (.goto (-37), 3) := by decide +kernel
theorem dX5_firstOf_44 : decode cX5_firstOf 44 = .ok (.iload_n 2, 1) := by decide +kernel
theorem dX5_firstOf_45 : decode cX5_firstOf 45 = .ok (.ireturn, 1) := by decide +kernel
theorem dX5_nextTo_0 : decode cX5_nextTo 0 = .ok (.aload_n 0, 1) := by decide +kernel
theorem dX5_nextTo_1 : decode cX5_nextTo 1 = .ok (.iload_n 1, 1) := by decide +kernel
theorem dX5_nextTo_2 : decode cX5_nextTo 2 = .ok (.invokevirtual 250, 3) := by decide +kernel
theorem dX5_nextTo_5 : decode cX5_nextTo 5 = .ok (.istore 4, 2) := by decide +kernel
theorem dX5_nextTo_7 : decode cX5_nextTo 7 = .ok (.iconst (-1), 1) := by decide +kernel
theorem dX5_nextTo_8 : decode cX5_nextTo 8 = .ok (.istore 5, 2) := by decide +kernel
theorem dX5_nextTo_10 : decode cX5_nextTo 10 = .ok (.iconst 0, 1) := by decide +kernel
theorem dX5_nextTo_11 : decode cX5_nextTo 11 = .ok (.istore 6, 2) := by decide +kernel
theorem dX5_nextTo_13 : decode cX5_nextTo 13 = .ok (.iconst 0, 1) := by decide +kernel
theorem dX5_nextTo_14 : decode cX5_nextTo 14 = .ok (.istore 7, 2) := by decide +kernel
theorem dX5_nextTo_16 : decode cX5_nextTo 16 = .ok (.iconst 0, 1) := by decide +kernel
theorem dX5_nextTo_17 : decode cX5_nextTo 17 = .ok (.istore 8, 2) := by decide +kernel
theorem dX5_nextTo_19 : decode cX5_nextTo 19 = .ok (.iload 8, 2) := by decide +kernel
theorem dX5_nextTo_21 : decode cX5_nextTo 21 = .ok (.aload_n 0, 1) := by decide +kernel
theorem dX5_nextTo_22 : decode cX5_nextTo 22 = .ok (.getfield 17, 3) := by decide +kernel
theorem dX5_nextTo_25 : decode cX5_nextTo 25 = .ok (.iconst 0, 1) := by decide +kernel
theorem dX5_nextTo_26 : decode cX5_nextTo 26 = .ok (.iaload, 1) := by decide +kernel
theorem dX5_nextTo_27 : decode cX5_nextTo 27 = .ok (.if_icmp .ge 151, 3) := by decide +kernel
theorem dX5_nextTo_30 : decode cX5_nextTo 30 = .ok (.iload_n 2, 1) := by decide +kernel
theorem dX5_nextTo_31 : decode cX5_nextTo 31 = .ok (.iload 8, 2) := by decide +kernel
theorem dX5_nextTo_33 : decode cX5_nextTo 33 = .ok (.ishr, 1) := by decide +kernel
theorem dX5_nextTo_34 : decode cX5_nextTo 34 = .ok (.iconst 1, 1) := by decide +kernel
theorem dX5_nextTo_35 : decode cX5_nextTo 35 = .ok (.iand, 1) := by decide +kernel
theorem dX5_nextTo_36 : decode cX5_nextTo 36 = .ok (.ifCond .eq 136, 3) := by decide +kernel
theorem dX5_nextTo_39 : decode cX5_nextTo 39 = .ok (.iload_n 1, 1) := by decide +kernel
theorem dX5_nextTo_40 : decode cX5_nextTo 40 = .ok (.iload 8, 2) := by decide +kernel
theorem dX5_nextTo_42 : decode cX5_nextTo 42 = .ok (.ishr, 1) := by decide +kernel
theorem dX5_nextTo_43 : decode cX5_nextTo 43 = .ok (.iconst 1, 1) := by decide +kernel
theorem dX5_nextTo_44 : decode cX5_nextTo 44 = .ok (.iand, 1) := by decide +kernel
theorem dX5_nextTo_45 : decode cX5_nextTo 45 = .ok (.iconst 1, 1) := by decide +kernel
theorem dX5_nextTo_46 : decode cX5_nextTo 46 = .ok (.if_icmp .eq 126, 3) := by decide +kernel
theorem dX5_nextTo_49 : decode cX5_nextTo 49 = .ok (.iload_n 3, 1) := by decide +kernel
theorem dX5_nextTo_50 : decode cX5_nextTo 50 = .ok (.aload_n 0, 1) := by decide +kernel
theorem dX5_nextTo_51 : decode cX5_nextTo 51 = .ok (.iload 8, 2) := by decide +kernel
theorem dX5_nextTo_53 : decode cX5_nextTo 53 = .ok (.invokevirtual 237, 3) := by decide +kernel
theorem dX5_nextTo_56 : decode cX5_nextTo 56 = .ok (.iadd, 1) := by decide +kernel
theorem dX5_nextTo_57 : decode cX5_nextTo 57 = .ok (.aload_n 0, 1) := by decide +kernel
theorem dX5_nextTo_58 : decode cX5_nextTo 58 = .ok (.getfield 26, 3) := by decide +kernel
theorem dX5_nextTo_61 : decode cX5_nextTo 61 = .ok (.iconst 0, 1) := by decide +kernel
theorem dX5_nextTo_62 : decode cX5_nextTo 62 = .ok (.iaload, 1) := by decide +kernel
theorem dX5_nextTo_63 : decode cX5_nextTo 63 = .ok (.if_icmp .le 6, 3) := by decide +kernel
theorem dX5_nextTo_66 : decode cX5_nextTo 66 = .ok (.goto 106, 3) := by decide +kernel
theorem dX5_nextTo_69 : decode cX5_nextTo 69 = .ok (.aload_n 0, 1) := by decide +kernel
theorem dX5_nextTo_70 : decode cX5_nextTo 70 = .ok (.iconst 1, 1) := by decide +kernel
theorem dX5_nextTo_71 : decode cX5_nextTo 71 = .ok (.iload 8, 2) := by decide +kernel
theorem dX5_nextTo_73 : decode cX5_nextTo 73 = .ok (.ishl, 1) := by decide +kernel
theorem dX5_nextTo_74 : decode cX5_nextTo 74 = .ok (.invokevirtual 250, 3) := by decide +kernel
theorem dX5_nextTo_77 : decode cX5_nextTo 77 = .ok (.istore 9, 2) := by decide +kernel
theorem dX5_nextTo_79 : decode cX5_nextTo 79 = .ok (.iload 9, 2) := by decide +kernel
theorem dX5_nextTo_81 : decode cX5_nextTo 81 = .ok (.iload 4, 2) := by decide +kernel
theorem dX5_nextTo_83 : decode cX5_nextTo 83 = .ok (.iand, 1) := by decide +kernel
theorem dX5_nextTo_84 : decode cX5_nextTo 84 = .ok (.invokestatic 253, 3) := by decide +kernel
theorem dX5_nextTo_87 : decode cX5_nextTo 87 = .ok (.istore 10, 2) := by decide +kernel
theorem dX5_nextTo_89 : decode cX5_nextTo 89 = .ok (.iload 9, 2) := by decide +kernel
theorem dX5_nextTo_91 : decode cX5_nextTo 91 = .ok (.iload 4, 2) := by decide +kernel
theorem dX5_nextTo_93 : decode cX5_nextTo 93 = .ok (.iconst (-1), 1) := by decide +kernel
theorem dX5_nextTo_94 : decode cX5_nextTo 94 = .ok (.ixor, 1) := by decide +kernel
theorem dX5_nextTo_95 : decode cX5_nextTo 95 = .ok (.iand, 1) := by decide +kernel
theorem dX5_nextTo_96 : decode cX5_nextTo 96 = .ok (.invokestatic 253, 3) := by decide +kernel
theorem dX5_nextTo_99 : decode cX5_nextTo 99 = .ok (.istore 11, 2) := by decide +kernel
theorem dX5_nextTo_101 : decode cX5_nextTo 101 = .ok (.iload 5, 2) := by decide +kernel
theorem dX5_nextTo_103 : decode cX5_nextTo 103 = .ok (.ifCond .lt 42, 3) := by decide +kernel
theorem dX5_nextTo_106 : decode cX5_nextTo 106 = .ok (.iload 10, 2) := by decide +kernel
theorem dX5_nextTo_108 : decode cX5_nextTo 108 = .ok (.iload 6, 2) := by decide +kernel
theorem dX5_nextTo_110 : decode cX5_nextTo 110 = .ok (.if_icmp .gt 35, 3) := by decide +kernel
theorem dX5_nextTo_113 : decode cX5_nextTo 113 = .ok (.iload 10, 2) := by decide +kernel
theorem dX5_nextTo_115 : decode cX5_nextTo 115 = .ok (.iload 6, 2) := by decide +kernel
theorem dX5_nextTo_117 : decode cX5_nextTo 117 = .ok (.if_icmp .ne 32, 3) := by decide +kernel
theorem dX5_nextTo_120 : decode cX5_nextTo 120 = .ok (.iload 11, 2) := by decide +kernel
theorem dX5_nextTo_122 : decode cX5_nextTo 122 = .ok (.iload 7, 2) := by decide +kernel
theorem dX5_nextTo_124 : decode cX5_nextTo 124 = .ok (.if_icmp .lt 21, 3) := by decide +kernel
theorem dX5_nextTo_127 : decode cX5_nextTo 127 = .ok (.iload 11, 2) := by decide +kernel
theorem dX5_nextTo_129 : decode cX5_nextTo 129 = .ok (.iload 7, 2) := by decide +kernel
theorem dX5_nextTo_131 : decode cX5_nextTo 131 = .ok (.if_icmp .ne 18, 3) := by decide +kernel
theorem dX5_nextTo_134 : decode cX5_nextTo 134 = .ok (.aload_n 0, 1) := by decide +kernel
theorem dX5_nextTo_135 : decode cX5_nextTo 135 = .ok (.iload 8, 2) := by decide +kernel
theorem dX5_nextTo_137 : decode cX5_nextTo 137 = .ok (.iload 5, 2) := by decide +kernel
theorem dX5_nextTo_139 : decode cX5_nextTo 139 = .ok (.invokevirtual 247, 3) := by decide +kernel
theorem dX5_nextTo_142 : decode cX5_nextTo 142 = .ok (.ifCond .eq 7, 3) := by decide +kernel
theorem dX5_nextTo_145 : decode cX5_nextTo 145 = .ok (.iconst 1, 1) := by decide +kernel
theorem dX5_nextTo_146 : decode cX5_nextTo 146 = .ok (.goto 4, 3) := by decide +kernel
theorem dX5_nextTo_149 : decode cX5_nextTo 149 = .ok (.iconst 0, 1) := by decide +kernel
theorem dX5_nextTo_150 : decode cX5_nextTo 150 = .ok (.istore 12, 2) := by decide +kernel
theorem dX5_nextTo_152 : decode cX5_nextTo 152 = .ok (.iload 12, 2) := by decide +kernel
theorem dX5_nextTo_154 : decode cX5_nextTo 154 = .ok (.ifCond .ne 6, 3) := by decide +kernel
theorem dX5_nextTo_157 : decode cX5_nextTo 157 = .ok (.goto 15, 3) := by decide +kernel
theorem dX5_nextTo_160 : decode cX5_nextTo 160 = .ok (.iload 8, 2) := by decide +kernel
theorem dX5_nextTo_162 : decode cX5_nextTo 162 = .ok (.istore 5, 2) := by decide +kernel
theorem dX5_nextTo_164 : decode cX5_nextTo 164 = .ok (.iload 10, 2) := by decide +kernel
theorem dX5_nextTo_166 : decode cX5_nextTo 166 = .ok (.istore 6, 2) := by decide +kernel
theorem dX5_nextTo_168 : decode cX5_nextTo 168 = .ok (.iload 11, 2) := by decide +kernel
theorem dX5_nextTo_170 : decode cX5_nextTo 170 = .ok (.istore 7, 2) := by decide +kernel
theorem dX5_nextTo_172 : decode cX5_nextTo 172 = .ok (.iinc 8 1, 3) := by decide +kernel
theorem dX5_nextTo_175 : decode cX5_nextTo 175 = .ok (.goto (-156), 3) := by decide +kernel
theorem dX5_nextTo_178 : decode cX5_nextTo 178 = .ok (.iload 5, 2) := by decide +kernel
theorem dX5_nextTo_180 : decode cX5_nextTo 180 = .ok (.ireturn, 1) := by decide +kernel
theorem dX5_waveOf_0 : decode cX5_waveOf 0 = .ok (.iload_n 1, 1) := by decide +kernel
theorem dX5_waveOf_1 : decode cX5_waveOf 1 = .ok (.ifCond .ne 5, 3) := by decide +kernel
theorem dX5_waveOf_4 : decode cX5_waveOf 4 = .ok (.iconst 0, 1) := by decide +kernel
theorem dX5_waveOf_5 : decode cX5_waveOf 5 = .ok (.ireturn, 1) := by decide +kernel
theorem dX5_waveOf_6 : decode cX5_waveOf 6 = .ok (.aload_n 0, 1) := by decide +kernel
theorem dX5_waveOf_7 : decode cX5_waveOf 7 = .ok (.iload_n 1, 1) := by decide +kernel
theorem dX5_waveOf_8 : decode cX5_waveOf 8 = .ok (.invokevirtual 256, 3) := by decide +kernel
theorem dX5_waveOf_11 : decode cX5_waveOf 11 = .ok (.istore_n 3, 1) := by decide +kernel
theorem dX5_waveOf_12 : decode cX5_waveOf 12 = .ok (.iconst 0, 1) := by decide +kernel
theorem dX5_waveOf_13 : decode cX5_waveOf 13 = .ok (.istore 4, 2) := by decide +kernel
theorem dX5_waveOf_15 : decode cX5_waveOf 15 = .ok (.iconst 0, 1) := by decide +kernel
theorem dX5_waveOf_16 : decode cX5_waveOf 16 = .ok (.istore 5, 2) := by decide +kernel
theorem dX5_waveOf_18 : decode cX5_waveOf 18 = .ok (.iload_n 3, 1) := by decide +kernel
theorem dX5_waveOf_19 : decode cX5_waveOf 19 = .ok (.ifCond .lt 47, 3) := by decide +kernel
theorem dX5_waveOf_22 : decode cX5_waveOf 22 = .ok (.iload 4, 2) := by decide +kernel
theorem dX5_waveOf_24 : decode cX5_waveOf 24 = .ok (.iconst 1, 1) := by decide +kernel
theorem dX5_waveOf_25 : decode cX5_waveOf 25 = .ok (.iload_n 3, 1) := by decide +kernel
theorem dX5_waveOf_26 : decode cX5_waveOf 26 = .ok (.ishl, 1) := by decide +kernel
theorem dX5_waveOf_27 : decode cX5_waveOf 27 = .ok (.ior, 1) := by decide +kernel
theorem dX5_waveOf_28 : decode cX5_waveOf 28 = .ok (.istore 4, 2) := by decide +kernel
theorem dX5_waveOf_30 : decode cX5_waveOf 30 = .ok (.iload 5, 2) := by decide +kernel
theorem dX5_waveOf_32 : decode cX5_waveOf 32 = .ok (.aload_n 0, 1) := by decide +kernel
theorem dX5_waveOf_33 : decode cX5_waveOf 33 = .ok (.iload_n 3, 1) := by decide +kernel
theorem dX5_waveOf_34 : decode cX5_waveOf 34 = .ok (.invokevirtual 237, 3) := by decide +kernel
theorem dX5_waveOf_37 : decode cX5_waveOf 37 = .ok (.iadd, 1) := by decide +kernel
theorem dX5_waveOf_38 : decode cX5_waveOf 38 = .ok (.istore 5, 2) := by decide +kernel
theorem dX5_waveOf_40 : decode cX5_waveOf 40 = .ok (.iload 4, 2) := by decide +kernel
theorem dX5_waveOf_42 : decode cX5_waveOf 42 = .ok (.invokestatic 253, 3) := by decide +kernel
theorem dX5_waveOf_45 : decode cX5_waveOf 45 = .ok (.iload_n 2, 1) := by decide +kernel
theorem dX5_waveOf_46 : decode cX5_waveOf 46 = .ok (.if_icmp .ge 15, 3) := by decide +kernel
theorem dX5_waveOf_49 : decode cX5_waveOf 49 = .ok (.aload_n 0, 1) := by decide +kernel
theorem dX5_waveOf_50 : decode cX5_waveOf 50 = .ok (.iload 4, 2) := by decide +kernel
theorem dX5_waveOf_52 : decode cX5_waveOf 52 = .ok (.iload_n 1, 1) := by decide +kernel
theorem dX5_waveOf_53 : decode cX5_waveOf 53 = .ok (.iload 5, 2) := by decide +kernel
theorem dX5_waveOf_55 : decode cX5_waveOf 55 = .ok (.invokevirtual 259, 3) := by decide +kernel
theorem dX5_waveOf_58 : decode cX5_waveOf 58 = .ok (.goto 4, 3) := by decide +kernel
theorem dX5_waveOf_61 : decode cX5_waveOf 61 = .ok (.iconst (-1), 1) := by decide +kernel
theorem dX5_waveOf_62 : decode cX5_waveOf 62 = .ok (.istore_n 3, 1) := by decide +kernel
theorem dX5_waveOf_63 : decode cX5_waveOf 63 = .ok (.goto (-45), 3) := by decide +kernel
theorem dX5_waveOf_66 : decode cX5_waveOf 66 = .ok (.iload 4, 2) := by decide +kernel
theorem dX5_waveOf_68 : decode cX5_waveOf 68 = .ok (.ireturn, 1) := by decide +kernel
theorem dX5_nextWave_0 : decode cX5_nextWave 0 = .ok (.aload_n 0, 1) := by decide +kernel
theorem dX5_nextWave_1 : decode cX5_nextWave 1 = .ok (.aload_n 0, 1) := by decide +kernel
theorem dX5_nextWave_2 : decode cX5_nextWave 2 = .ok (.invokevirtual 263, 3) := by decide +kernel
theorem dX5_nextWave_5 : decode cX5_nextWave 5 = .ok (.aload_n 0, 1) := by decide +kernel
theorem dX5_nextWave_6 : decode cX5_nextWave 6 = .ok (.getfield 23, 3) := by decide +kernel
theorem dX5_nextWave_9 : decode cX5_nextWave 9 = .ok (.iconst 0, 1) := by decide +kernel
theorem dX5_nextWave_10 : decode cX5_nextWave 10 = .ok (.iaload, 1) := by decide +kernel
theorem dX5_nextWave_11 : decode cX5_nextWave 11 = .ok (.invokevirtual 266, 3) := by decide +kernel
theorem dX5_nextWave_14 : decode cX5_nextWave 14 = .ok (.ireturn, 1) := by decide +kernel
theorem dX5_wave_0 : decode cX5_wave 0 = .ok (.aload_n 0, 1) := by decide +kernel
theorem dX5_wave_1 : decode cX5_wave 1 = .ok (.iconst 0, 1) := by decide +kernel
theorem dX5_wave_2 : decode cX5_wave 2 = .ok (.putfield 86, 3) := by decide +kernel
theorem dX5_wave_5 : decode cX5_wave 5 = .ok (.aload_n 0, 1) := by decide +kernel
theorem dX5_wave_6 : decode cX5_wave 6 = .ok (.invokevirtual 269, 3) := by decide +kernel
theorem dX5_wave_9 : decode cX5_wave 9 = .ok (.ireturn, 1) := by decide +kernel
theorem dX5_laysPicks_0 : decode cX5_laysPicks 0 = .ok (.aload_n 0, 1) := by decide +kernel
theorem dX5_laysPicks_1 : decode cX5_laysPicks 1 = .ok (.iconst 0, 1) := by decide +kernel
theorem dX5_laysPicks_2 : decode cX5_laysPicks 2 = .ok (.putfield 272, 3) := by decide +kernel
theorem dX5_laysPicks_5 : decode cX5_laysPicks 5 = .ok (.iconst 0, 1) := by decide +kernel
theorem dX5_laysPicks_6 : decode cX5_laysPicks 6 = .ok (.istore_n 2, 1) := by decide +kernel
theorem dX5_laysPicks_7 : decode cX5_laysPicks 7 = .ok (.iload_n 2, 1) := by decide +kernel
theorem dX5_laysPicks_8 : decode cX5_laysPicks 8 = .ok (.bipush 99, 2) := by decide +kernel
theorem dX5_laysPicks_10 : decode cX5_laysPicks 10 = .ok (.if_icmp .gt 157, 3) := by decide +kernel
theorem dX5_laysPicks_13 : decode cX5_laysPicks 13 = .ok (.iconst 0, 1) := by decide +kernel
theorem dX5_laysPicks_14 : decode cX5_laysPicks 14 = .ok (.istore_n 3, 1) := by decide +kernel
theorem dX5_laysPicks_15 : decode cX5_laysPicks 15 = .ok (.iload_n 3, 1) := by decide +kernel
theorem dX5_laysPicks_16 : decode cX5_laysPicks 16 = .ok (.aload_n 0, 1) := by decide +kernel
theorem dX5_laysPicks_17 : decode cX5_laysPicks 17 = .ok (.getfield 13, 3) := by decide +kernel
theorem dX5_laysPicks_20 : decode cX5_laysPicks 20 = .ok (.iconst 0, 1) := by decide +kernel
theorem dX5_laysPicks_21 : decode cX5_laysPicks 21 = .ok (.iaload, 1) := by decide +kernel
theorem dX5_laysPicks_22 : decode cX5_laysPicks 22 = .ok (.if_icmp .ge 139, 3) := by decide +kernel
theorem dX5_laysPicks_25 : decode cX5_laysPicks 25 = .ok (.aload_n 0, 1) := by decide +kernel
theorem dX5_laysPicks_26 : decode cX5_laysPicks 26 = .ok (.getfield 33, 3) := by decide +kernel
theorem dX5_laysPicks_29 : decode cX5_laysPicks 29 = .ok (.iload_n 3, 1) := by decide +kernel
theorem dX5_laysPicks_30 : decode cX5_laysPicks 30 = .ok (.iaload, 1) := by decide +kernel
theorem dX5_laysPicks_31 : decode cX5_laysPicks 31 = .ok (.iload_n 2, 1) := by decide +kernel
theorem dX5_laysPicks_32 : decode cX5_laysPicks 32 = .ok (.if_icmp .eq 6, 3) := by decide +kernel
theorem dX5_laysPicks_35 : decode cX5_laysPicks 35 = .ok (.goto 120, 3) := by decide +kernel
theorem dX5_laysPicks_38 : decode cX5_laysPicks 38 = .ok (.iconst 0, 1) := by decide +kernel
theorem dX5_laysPicks_39 : decode cX5_laysPicks 39 = .ok (.istore 4, 2) := by decide +kernel
theorem dX5_laysPicks_41 : decode cX5_laysPicks 41 = .ok (.iconst 0, 1) := by decide +kernel
theorem dX5_laysPicks_42 : decode cX5_laysPicks 42 = .ok (.istore 5, 2) := by decide +kernel
theorem dX5_laysPicks_44 : decode cX5_laysPicks 44 = .ok (.iload 5, 2) := by decide +kernel
theorem dX5_laysPicks_46 : decode cX5_laysPicks 46 = .ok (.aload_n 0, 1) := by decide +kernel
theorem dX5_laysPicks_47 : decode cX5_laysPicks 47 = .ok (.getfield 17, 3) := by decide +kernel
theorem dX5_laysPicks_50 : decode cX5_laysPicks 50 = .ok (.iconst 0, 1) := by decide +kernel
theorem dX5_laysPicks_51 : decode cX5_laysPicks 51 = .ok (.iaload, 1) := by decide +kernel
theorem dX5_laysPicks_52 : decode cX5_laysPicks 52 = .ok (.if_icmp .ge 40, 3) := by decide +kernel
theorem dX5_laysPicks_55 : decode cX5_laysPicks 55 = .ok (.iload 4, 2) := by decide +kernel
theorem dX5_laysPicks_57 : decode cX5_laysPicks 57 = .ok (.iload_n 1, 1) := by decide +kernel
theorem dX5_laysPicks_58 : decode cX5_laysPicks 58 = .ok (.iload 5, 2) := by decide +kernel
theorem dX5_laysPicks_60 : decode cX5_laysPicks 60 = .ok (.ishr, 1) := by decide +kernel
theorem dX5_laysPicks_61 : decode cX5_laysPicks 61 = .ok (.iconst 1, 1) := by decide +kernel
theorem dX5_laysPicks_62 : decode cX5_laysPicks 62 = .ok (.iand, 1) := by decide +kernel
theorem dX5_laysPicks_63 : decode cX5_laysPicks 63 = .ok (.iconst 1, 1) := by decide +kernel
theorem dX5_laysPicks_64 : decode cX5_laysPicks 64 = .ok (.if_icmp .ne 18, 3) := by decide +kernel
theorem dX5_laysPicks_67 : decode cX5_laysPicks 67 = .ok (.aload_n 0, 1) := by decide +kernel
theorem dX5_laysPicks_68 : decode cX5_laysPicks 68 = .ok (.getfield 45, 3) := by decide +kernel
theorem dX5_laysPicks_71 : decode cX5_laysPicks 71 = .ok (.bipush 10, 2) := by decide +kernel
theorem dX5_laysPicks_73 : decode cX5_laysPicks 73 = .ok (.iload 5, 2) := by decide +kernel
theorem dX5_laysPicks_75 : decode cX5_laysPicks 75 = .ok (.imul, 1) := by decide +kernel
theorem dX5_laysPicks_76 : decode cX5_laysPicks 76 = .ok (.iload_n 3, 1) := by decide +kernel
theorem dX5_laysPicks_77 : decode cX5_laysPicks 77 = .ok (.iadd, 1) := by decide +kernel
theorem dX5_laysPicks_78 : decode cX5_laysPicks 78 = .ok (.iaload, 1) := by decide +kernel
theorem dX5_laysPicks_79 : decode cX5_laysPicks 79 = .ok (.goto 4, 3) := by decide +kernel
theorem dX5_laysPicks_82 : decode cX5_laysPicks 82 = .ok (.iconst 0, 1) := by decide +kernel
theorem dX5_laysPicks_83 : decode cX5_laysPicks 83 = .ok (.iadd, 1) := by decide +kernel
theorem dX5_laysPicks_84 : decode cX5_laysPicks 84 = .ok (.istore 4, 2) := by decide +kernel
theorem dX5_laysPicks_86 : decode cX5_laysPicks 86 = .ok (.iinc 5 1, 3) := by decide +kernel
theorem dX5_laysPicks_89 : decode cX5_laysPicks 89 = .ok (.goto (-45), 3) := by decide +kernel
theorem dX5_laysPicks_92 : decode cX5_laysPicks 92 = .ok (.iload 4, 2) := by decide +kernel
theorem dX5_laysPicks_94 : decode cX5_laysPicks 94 = .ok (.aload_n 0, 1) := by decide +kernel
theorem dX5_laysPicks_95 : decode cX5_laysPicks 95 = .ok (.getfield 48, 3) := by decide +kernel
theorem dX5_laysPicks_98 : decode cX5_laysPicks 98 = .ok (.iload_n 3, 1) := by decide +kernel
theorem dX5_laysPicks_99 : decode cX5_laysPicks 99 = .ok (.iaload, 1) := by decide +kernel
theorem dX5_laysPicks_100 : decode cX5_laysPicks 100 = .ok (.if_icmp .ge 8, 3) := by decide +kernel
theorem dX5_laysPicks_103 : decode cX5_laysPicks 103 = .ok (.iload 4, 2) := by decide +kernel
theorem dX5_laysPicks_105 : decode cX5_laysPicks 105 = .ok (.goto 9, 3) := by decide +kernel
theorem dX5_laysPicks_108 : decode cX5_laysPicks 108 = .ok (.aload_n 0, 1) := by decide +kernel
theorem dX5_laysPicks_109 : decode cX5_laysPicks 109 = .ok (.getfield 48, 3) := by decide +kernel
theorem dX5_laysPicks_112 : decode cX5_laysPicks 112 = .ok (.iload_n 3, 1) := by decide +kernel
theorem dX5_laysPicks_113 : decode cX5_laysPicks 113 = .ok (.iaload, 1) := by decide +kernel
theorem dX5_laysPicks_114 : decode cX5_laysPicks 114 = .ok (.istore 4, 2) := by decide +kernel
theorem dX5_laysPicks_116 : decode cX5_laysPicks 116 = .ok (.iload 4, 2) := by decide +kernel
theorem dX5_laysPicks_118 : decode cX5_laysPicks 118 = .ok (.ifCond .ne 6, 3) := by decide +kernel
theorem dX5_laysPicks_121 : decode cX5_laysPicks 121 = .ok (.goto 34, 3) := by decide +kernel
theorem dX5_laysPicks_124 : decode cX5_laysPicks 124 = .ok (.aload_n 0, 1) := by decide +kernel
theorem dX5_laysPicks_125 : decode cX5_laysPicks 125 = .ok (.getfield 64, 3) := by decide +kernel
theorem dX5_laysPicks_128 : decode cX5_laysPicks 128 = .ok (.aload_n 0, 1) := by decide +kernel
theorem dX5_laysPicks_129 : decode cX5_laysPicks 129 = .ok (.getfield 272, 3) := by decide +kernel
theorem dX5_laysPicks_132 : decode cX5_laysPicks 132 = .ok (.iload_n 3, 1) := by decide +kernel
theorem dX5_laysPicks_133 : decode cX5_laysPicks 133 = .ok (.iastore, 1) := by decide +kernel
theorem dX5_laysPicks_134 : decode cX5_laysPicks 134 = .ok (.aload_n 0, 1) := by decide +kernel
theorem dX5_laysPicks_135 : decode cX5_laysPicks 135 = .ok (.getfield 67, 3) := by decide +kernel
theorem dX5_laysPicks_138 : decode cX5_laysPicks 138 = .ok (.aload_n 0, 1) := by decide +kernel
theorem dX5_laysPicks_139 : decode cX5_laysPicks 139 = .ok (.getfield 272, 3) := by decide +kernel
theorem dX5_laysPicks_142 : decode cX5_laysPicks 142 = .ok (.iload 4, 2) := by decide +kernel
theorem dX5_laysPicks_144 : decode cX5_laysPicks 144 = .ok (.iastore, 1) := by decide +kernel
theorem dX5_laysPicks_145 : decode cX5_laysPicks 145 = .ok (.aload_n 0, 1) := by decide +kernel
theorem dX5_laysPicks_146 : decode cX5_laysPicks 146 = .ok (.dup, 1) := by decide +kernel
theorem dX5_laysPicks_147 : decode cX5_laysPicks 147 = .ok (.getfield 272, 3) := by decide +kernel
theorem dX5_laysPicks_150 : decode cX5_laysPicks 150 = .ok (.iconst 1, 1) := by decide +kernel
theorem dX5_laysPicks_151 : decode cX5_laysPicks 151 = .ok (.iadd, 1) := by decide +kernel
theorem dX5_laysPicks_152 : decode cX5_laysPicks 152 = .ok (.putfield 272, 3) := by decide +kernel
theorem dX5_laysPicks_155 : decode cX5_laysPicks 155 = .ok (.iinc 3 1, 3) := by decide +kernel
theorem dX5_laysPicks_158 : decode cX5_laysPicks 158 = .ok (.goto (-143), 3) := by decide +kernel
theorem dX5_laysPicks_161 : decode cX5_laysPicks 161 = .ok (.iinc 2 1, 3) := by decide +kernel
theorem dX5_laysPicks_164 : decode cX5_laysPicks 164 = .ok (.goto (-157), 3) := by decide +kernel
theorem dX5_laysPicks_167 : decode cX5_laysPicks 167 = .ok (.return_, 1) := by decide +kernel
theorem dX5_pick_0 : decode cX5_pick 0 = .ok (.aload_n 0, 1) := by decide +kernel
theorem dX5_pick_1 : decode cX5_pick 1 = .ok (.iconst 0, 1) := by decide +kernel
theorem dX5_pick_2 : decode cX5_pick 2 = .ok (.putfield 86, 3) := by decide +kernel
theorem dX5_pick_5 : decode cX5_pick 5 = .ok (.aload_n 0, 1) := by decide +kernel
theorem dX5_pick_6 : decode cX5_pick 6 = .ok (.aload_n 0, 1) := by decide +kernel
theorem dX5_pick_7 : decode cX5_pick 7 = .ok (.invokevirtual 269, 3) := by decide +kernel
theorem dX5_pick_10 : decode cX5_pick 10 = .ok (.invokevirtual 275, 3) := by decide +kernel
theorem dX5_pick_13 : decode cX5_pick 13 = .ok (.iload_n 1, 1) := by decide +kernel
theorem dX5_pick_14 : decode cX5_pick 14 = .ok (.iconst (-1), 1) := by decide +kernel
theorem dX5_pick_15 : decode cX5_pick 15 = .ok (.if_icmp .ne 8, 3) := by decide +kernel
theorem dX5_pick_18 : decode cX5_pick 18 = .ok (.aload_n 0, 1) := by decide +kernel
theorem dX5_pick_19 : decode cX5_pick 19 = .ok (.getfield 272, 3) := by decide +kernel
theorem dX5_pick_22 : decode cX5_pick 22 = .ok (.ireturn, 1) := by decide +kernel
theorem dX5_pick_23 : decode cX5_pick 23 = .ok (.iload_n 1, 1) := by decide +kernel
theorem dX5_pick_24 : decode cX5_pick 24 = .ok (.i2l, 1) := by decide +kernel
theorem dX5_pick_25 : decode cX5_pick 25 = .ok (.lconst 0, 1) := by decide +kernel
theorem dX5_pick_26 : decode cX5_pick 26 = .ok (.aload_n 0, 1) := by decide +kernel
theorem dX5_pick_27 : decode cX5_pick 27 = .ok (.getfield 272, 3) := by decide +kernel
theorem dX5_pick_30 : decode cX5_pick 30 = .ok (.iconst 1, 1) := by decide +kernel
theorem dX5_pick_31 : decode cX5_pick 31 = .ok (.isub, 1) := by decide +kernel
theorem dX5_pick_32 : decode cX5_pick 32 = .ok (.i2l, 1) := by decide +kernel
theorem dX5_pick_33 : decode cX5_pick 33 = .ok (.invokestatic 123, 3) := by decide +kernel
theorem dX5_pick_36 : decode cX5_pick 36 = .ok (.ifCond .eq 13, 3) := by decide +kernel
theorem dX5_pick_39 : decode cX5_pick 39 = .ok (.iload_n 2, 1) := by decide +kernel
theorem dX5_pick_40 : decode cX5_pick 40 = .ok (.i2l, 1) := by decide +kernel
theorem dX5_pick_41 : decode cX5_pick 41 = .ok (.lconst 0, 1) := by decide +kernel
theorem dX5_pick_42 : decode cX5_pick 42 = .ok (.lconst 1, 1) := by decide +kernel
theorem dX5_pick_43 : decode cX5_pick 43 = .ok (.invokestatic 123, 3) := by decide +kernel
theorem dX5_pick_46 : decode cX5_pick 46 = .ok (.ifCond .ne 6, 3) := by decide +kernel
theorem dX5_pick_49 : decode cX5_pick 49 = .ok (.bipush (-2), 2) := by decide +kernel
theorem dX5_pick_51 : decode cX5_pick 51 = .ok (.ireturn, 1) := by decide +kernel
theorem dX5_pick_52 : decode cX5_pick 52 = .ok (.iload_n 2, 1) := by decide +kernel
theorem dX5_pick_53 : decode cX5_pick 53 = .ok (.ifCond .ne 12, 3) := by decide +kernel
theorem dX5_pick_56 : decode cX5_pick 56 = .ok (.aload_n 0, 1) := by decide +kernel
theorem dX5_pick_57 : decode cX5_pick 57 = .ok (.getfield 64, 3) := by decide +kernel
theorem dX5_pick_60 : decode cX5_pick 60 = .ok (.iload_n 1, 1) := by decide +kernel
theorem dX5_pick_61 : decode cX5_pick 61 = .ok (.iaload, 1) := by decide +kernel
theorem dX5_pick_62 : decode cX5_pick 62 = .ok (.goto 9, 3) := by decide +kernel
theorem dX5_pick_65 : decode cX5_pick 65 = .ok (.aload_n 0, 1) := by decide +kernel
theorem dX5_pick_66 : decode cX5_pick 66 = .ok (.getfield 67, 3) := by decide +kernel
theorem dX5_pick_69 : decode cX5_pick 69 = .ok (.iload_n 1, 1) := by decide +kernel
theorem dX5_pick_70 : decode cX5_pick 70 = .ok (.iaload, 1) := by decide +kernel
theorem dX5_pick_71 : decode cX5_pick 71 = .ok (.ireturn, 1) := by decide +kernel
theorem dX5_walkOf_0 : decode cX5_walkOf 0 = .ok (.iconst 0, 1) := by decide +kernel
theorem dX5_walkOf_1 : decode cX5_walkOf 1 = .ok (.istore_n 1, 1) := by decide +kernel
theorem dX5_walkOf_2 : decode cX5_walkOf 2 = .ok (.iconst 0, 1) := by decide +kernel
theorem dX5_walkOf_3 : decode cX5_walkOf 3 = .ok (.istore_n 2, 1) := by decide +kernel
theorem dX5_walkOf_4 : decode cX5_walkOf 4 = .ok (.iconst 0, 1) := by decide +kernel
theorem dX5_walkOf_5 : decode cX5_walkOf 5 = .ok (.istore_n 3, 1) := by decide +kernel
theorem dX5_walkOf_6 : decode cX5_walkOf 6 = .ok (.iload_n 3, 1) := by decide +kernel
theorem dX5_walkOf_7 : decode cX5_walkOf 7 = .ok (.aload_n 0, 1) := by decide +kernel
theorem dX5_walkOf_8 : decode cX5_walkOf 8 = .ok (.getfield 272, 3) := by decide +kernel
theorem dX5_walkOf_11 : decode cX5_walkOf 11 = .ok (.if_icmp .gt 57, 3) := by decide +kernel
theorem dX5_walkOf_14 : decode cX5_walkOf 14 = .ok (.iload_n 3, 1) := by decide +kernel
theorem dX5_walkOf_15 : decode cX5_walkOf 15 = .ok (.aload_n 0, 1) := by decide +kernel
theorem dX5_walkOf_16 : decode cX5_walkOf 16 = .ok (.getfield 272, 3) := by decide +kernel
theorem dX5_walkOf_19 : decode cX5_walkOf 19 = .ok (.if_icmp .ge 17, 3) := by decide +kernel
theorem dX5_walkOf_22 : decode cX5_walkOf 22 = .ok (.aload_n 0, 1) := by decide +kernel
theorem dX5_walkOf_23 : decode cX5_walkOf 23 = .ok (.getfield 33, 3) := by decide +kernel
theorem dX5_walkOf_26 : decode cX5_walkOf 26 = .ok (.aload_n 0, 1) := by decide +kernel
theorem dX5_walkOf_27 : decode cX5_walkOf 27 = .ok (.getfield 64, 3) := by decide +kernel
theorem dX5_walkOf_30 : decode cX5_walkOf 30 = .ok (.iload_n 3, 1) := by decide +kernel
theorem dX5_walkOf_31 : decode cX5_walkOf 31 = .ok (.iaload, 1) := by decide +kernel
theorem dX5_walkOf_32 : decode cX5_walkOf 32 = .ok (.iaload, 1) := by decide +kernel
theorem dX5_walkOf_33 : decode cX5_walkOf 33 = .ok (.goto 4, 3) := by decide +kernel
theorem dX5_walkOf_36 : decode cX5_walkOf 36 = .ok (.iconst 0, 1) := by decide +kernel
theorem dX5_walkOf_37 : decode cX5_walkOf 37 = .ok (.istore 4, 2) := by decide +kernel
theorem dX5_walkOf_39 : decode cX5_walkOf 39 = .ok (.iload_n 1, 1) := by decide +kernel
theorem dX5_walkOf_40 : decode cX5_walkOf 40 = .ok (.iload 4, 2) := by decide +kernel
theorem dX5_walkOf_42 : decode cX5_walkOf 42 = .ok (.iload_n 2, 1) := by decide +kernel
theorem dX5_walkOf_43 : decode cX5_walkOf 43 = .ok (.if_icmp .le 10, 3) := by decide +kernel
theorem dX5_walkOf_46 : decode cX5_walkOf 46 = .ok (.iload 4, 2) := by decide +kernel
theorem dX5_walkOf_48 : decode cX5_walkOf 48 = .ok (.iload_n 2, 1) := by decide +kernel
theorem dX5_walkOf_49 : decode cX5_walkOf 49 = .ok (.isub, 1) := by decide +kernel
theorem dX5_walkOf_50 : decode cX5_walkOf 50 = .ok (.goto 7, 3) := by decide +kernel
theorem dX5_walkOf_53 : decode cX5_walkOf 53 = .ok (.iload_n 2, 1) := by decide +kernel
theorem dX5_walkOf_54 : decode cX5_walkOf 54 = .ok (.iload 4, 2) := by decide +kernel
theorem dX5_walkOf_56 : decode cX5_walkOf 56 = .ok (.isub, 1) := by decide +kernel
theorem dX5_walkOf_57 : decode cX5_walkOf 57 = .ok (.iadd, 1) := by decide +kernel
theorem dX5_walkOf_58 : decode cX5_walkOf 58 = .ok (.istore_n 1, 1) := by decide +kernel
theorem dX5_walkOf_59 : decode cX5_walkOf 59 = .ok (.iload 4, 2) := by decide +kernel
theorem dX5_walkOf_61 : decode cX5_walkOf 61 = .ok (.istore_n 2, 1) := by decide +kernel
theorem dX5_walkOf_62 : decode cX5_walkOf 62 = .ok (.iinc 3 1, 3) := by decide +kernel
theorem dX5_walkOf_65 : decode cX5_walkOf 65 = .ok (.goto (-59), 3) := by decide +kernel
theorem dX5_walkOf_68 : decode cX5_walkOf 68 = .ok (.iload_n 1, 1) := by decide +kernel
theorem dX5_walkOf_69 : decode cX5_walkOf 69 = .ok (.ireturn, 1) := by decide +kernel
theorem dX5_walk_0 : decode cX5_walk 0 = .ok (.aload_n 0, 1) := by decide +kernel
theorem dX5_walk_1 : decode cX5_walk 1 = .ok (.iconst 0, 1) := by decide +kernel
theorem dX5_walk_2 : decode cX5_walk 2 = .ok (.putfield 86, 3) := by decide +kernel
theorem dX5_walk_5 : decode cX5_walk 5 = .ok (.aload_n 0, 1) := by decide +kernel
theorem dX5_walk_6 : decode cX5_walk 6 = .ok (.aload_n 0, 1) := by decide +kernel
theorem dX5_walk_7 : decode cX5_walk 7 = .ok (.invokevirtual 269, 3) := by decide +kernel
theorem dX5_walk_10 : decode cX5_walk 10 = .ok (.invokevirtual 275, 3) := by decide +kernel
theorem dX5_walk_13 : decode cX5_walk 13 = .ok (.aload_n 0, 1) := by decide +kernel
theorem dX5_walk_14 : decode cX5_walk 14 = .ok (.invokevirtual 278, 3) := by decide +kernel
theorem dX5_walk_17 : decode cX5_walk 17 = .ok (.ireturn, 1) := by decide +kernel
theorem dX5_cost_0 : decode cX5_cost 0 = .ok (.aload_n 0, 1) := by decide +kernel
theorem dX5_cost_1 : decode cX5_cost 1 = .ok (.iconst 0, 1) := by decide +kernel
theorem dX5_cost_2 : decode cX5_cost 2 = .ok (.putfield 86, 3) := by decide +kernel
theorem dX5_cost_5 : decode cX5_cost 5 = .ok (.aload_n 0, 1) := by decide +kernel
theorem dX5_cost_6 : decode cX5_cost 6 = .ok (.aload_n 0, 1) := by decide +kernel
theorem dX5_cost_7 : decode cX5_cost 7 = .ok (.invokevirtual 269, 3) := by decide +kernel
theorem dX5_cost_10 : decode cX5_cost 10 = .ok (.invokevirtual 275, 3) := by decide +kernel
theorem dX5_cost_13 : decode cX5_cost 13 = .ok (.iload_n 1, 1) := by decide +kernel
theorem dX5_cost_14 : decode cX5_cost 14 = .ok (.i2l, 1) := by decide +kernel
theorem dX5_cost_15 : decode cX5_cost 15 = .ok (.aload_n 0, 1) := by decide +kernel
theorem dX5_cost_16 : decode cX5_cost 16 = .ok (.getfield 272, 3) := by decide +kernel
theorem dX5_cost_19 : decode cX5_cost 19 = .ok (.i2l, 1) := by decide +kernel
theorem dX5_cost_20 : decode cX5_cost 20 = .ok (.lmul, 1) := by decide +kernel
theorem dX5_cost_21 : decode cX5_cost 21 = .ok (.lstore_n 3, 1) := by decide +kernel
theorem dX5_cost_22 : decode cX5_cost 22 = .ok (.iload_n 2, 1) := by decide +kernel
theorem dX5_cost_23 : decode cX5_cost 23 = .ok (.i2l, 1) := by decide +kernel
theorem dX5_cost_24 : decode cX5_cost 24 = .ok (.aload_n 0, 1) := by decide +kernel
theorem dX5_cost_25 : decode cX5_cost 25 = .ok (.invokevirtual 278, 3) := by decide +kernel
theorem dX5_cost_28 : decode cX5_cost 28 = .ok (.i2l, 1) := by decide +kernel
theorem dX5_cost_29 : decode cX5_cost 29 = .ok (.lmul, 1) := by decide +kernel
theorem dX5_cost_30 : decode cX5_cost 30 = .ok (.lstore 5, 2) := by decide +kernel
theorem dX5_cost_32 : decode cX5_cost 32 = .ok (.lload_n 3, 1) := by decide +kernel
theorem dX5_cost_33 : decode cX5_cost 33 = .ok (.lload_n 3, 1) := by decide +kernel
theorem dX5_cost_34 : decode cX5_cost 34 = .ok (.l2i, 1) := by decide +kernel
theorem dX5_cost_35 : decode cX5_cost 35 = .ok (.i2l, 1) := by decide +kernel
theorem dX5_cost_36 : decode cX5_cost 36 = .ok (.lcmp, 1) := by decide +kernel
theorem dX5_cost_37 : decode cX5_cost 37 = .ok (.ifCond .ne 31, 3) := by decide +kernel
theorem dX5_cost_40 : decode cX5_cost 40 = .ok (.lload 5, 2) := by decide +kernel
theorem dX5_cost_42 : decode cX5_cost 42 = .ok (.lload 5, 2) := by decide +kernel
theorem dX5_cost_44 : decode cX5_cost 44 = .ok (.l2i, 1) := by decide +kernel
theorem dX5_cost_45 : decode cX5_cost 45 = .ok (.i2l, 1) := by decide +kernel
theorem dX5_cost_46 : decode cX5_cost 46 = .ok (.lcmp, 1) := by decide +kernel
theorem dX5_cost_47 : decode cX5_cost 47 = .ok (.ifCond .ne 21, 3) := by decide +kernel
theorem dX5_cost_50 : decode cX5_cost 50 = .ok (.lload_n 3, 1) := by decide +kernel
theorem dX5_cost_51 : decode cX5_cost 51 = .ok (.lload 5, 2) := by decide +kernel
theorem dX5_cost_53 : decode cX5_cost 53 = .ok (.ladd, 1) := by decide +kernel
theorem dX5_cost_54 : decode cX5_cost 54 = .ok (.lload_n 3, 1) := by decide +kernel
theorem dX5_cost_55 : decode cX5_cost 55 = .ok (.lload 5, 2) := by decide +kernel
theorem dX5_cost_57 : decode cX5_cost 57 = .ok (.ladd, 1) := by decide +kernel
theorem dX5_cost_58 : decode cX5_cost 58 = .ok (.l2i, 1) := by decide +kernel
theorem dX5_cost_59 : decode cX5_cost 59 = .ok (.i2l, 1) := by decide +kernel
theorem dX5_cost_60 : decode cX5_cost 60 = .ok (.lcmp, 1) := by decide +kernel
theorem dX5_cost_61 : decode cX5_cost 61 = .ok (.ifCond .ne 7, 3) := by decide +kernel
theorem dX5_cost_64 : decode cX5_cost 64 = .ok (.iconst 1, 1) := by decide +kernel
theorem dX5_cost_65 : decode cX5_cost 65 = .ok (.goto 4, 3) := by decide +kernel
theorem dX5_cost_68 : decode cX5_cost 68 = .ok (.iconst 0, 1) := by decide +kernel
theorem dX5_cost_69 : decode cX5_cost 69 = .ok (.istore 7, 2) := by decide +kernel
theorem dX5_cost_71 : decode cX5_cost 71 = .ok (.iload 7, 2) := by decide +kernel
theorem dX5_cost_73 : decode cX5_cost 73 = .ok (.ifCond .eq 11, 3) := by decide +kernel
theorem dX5_cost_76 : decode cX5_cost 76 = .ok (.lload_n 3, 1) := by decide +kernel
theorem dX5_cost_77 : decode cX5_cost 77 = .ok (.lload 5, 2) := by decide +kernel
theorem dX5_cost_79 : decode cX5_cost 79 = .ok (.ladd, 1) := by decide +kernel
theorem dX5_cost_80 : decode cX5_cost 80 = .ok (.l2i, 1) := by decide +kernel
theorem dX5_cost_81 : decode cX5_cost 81 = .ok (.goto 6, 3) := by decide +kernel
theorem dX5_cost_84 : decode cX5_cost 84 = .ok (.ldc_w 283, 3) := by decide +kernel
theorem dX5_cost_87 : decode cX5_cost 87 = .ok (.ireturn, 1) := by decide +kernel
theorem dX5_keeps_0 : decode cX5_keeps 0 = .ok (.aload_n 0, 1) := by decide +kernel
theorem dX5_keeps_1 : decode cX5_keeps 1 = .ok (.getfield 222, 3) := by decide +kernel
theorem dX5_keeps_4 : decode cX5_keeps 4 = .ok (.bipush 12, 2) := by decide +kernel
theorem dX5_keeps_6 : decode cX5_keeps 6 = .ok (.if_icmp .ne 44, 3) := by decide +kernel
theorem dX5_keeps_9 : decode cX5_keeps 9 = .ok (.iconst 0, 1) := by decide +kernel
theorem dX5_keeps_10 : decode cX5_keeps 10 = .ok (.istore_n 1, 1) := by decide +kernel
theorem dX5_keeps_11 : decode cX5_keeps 11 = .ok (.iload_n 1, 1) := by decide +kernel
theorem dX5_keeps_12 : decode cX5_keeps 12 = .ok (.sipush 23287, 3) := by decide +kernel
theorem dX5_keeps_15 : decode cX5_keeps 15 = .ok (.if_icmp .ge 25, 3) := by decide +kernel
theorem dX5_keeps_18 : decode cX5_keeps 18 = .ok (.aload_n 0, 1) := by decide +kernel
theorem dX5_keeps_19 : decode cX5_keeps 19 = .ok (.getfield 51, 3) := by decide +kernel
theorem dX5_keeps_22 : decode cX5_keeps 22 = .ok (.iload_n 1, 1) := by decide +kernel
theorem dX5_keeps_23 : decode cX5_keeps 23 = .ok (.aload_n 0, 1) := by decide +kernel
theorem dX5_keeps_24 : decode cX5_keeps 24 = .ok (.getfield 51, 3) := by decide +kernel
theorem dX5_keeps_27 : decode cX5_keeps 27 = .ok (.iload_n 1, 1) := by decide +kernel
theorem dX5_keeps_28 : decode cX5_keeps 28 = .ok (.sipush 2117, 3) := by decide +kernel
theorem dX5_keeps_31 : decode cX5_keeps 31 = .ok (.iadd, 1) := by decide +kernel
theorem dX5_keeps_32 : decode cX5_keeps 32 = .ok (.iaload, 1) := by decide +kernel
theorem dX5_keeps_33 : decode cX5_keeps 33 = .ok (.iastore, 1) := by decide +kernel
theorem dX5_keeps_34 : decode cX5_keeps 34 = .ok (.iinc 1 1, 3) := by decide +kernel
theorem dX5_keeps_37 : decode cX5_keeps 37 = .ok (.goto (-26), 3) := by decide +kernel
theorem dX5_keeps_40 : decode cX5_keeps 40 = .ok (.aload_n 0, 1) := by decide +kernel
theorem dX5_keeps_41 : decode cX5_keeps 41 = .ok (.dup, 1) := by decide +kernel
theorem dX5_keeps_42 : decode cX5_keeps 42 = .ok (.getfield 222, 3) := by decide +kernel
theorem dX5_keeps_45 : decode cX5_keeps 45 = .ok (.iconst 1, 1) := by decide +kernel
theorem dX5_keeps_46 : decode cX5_keeps 46 = .ok (.isub, 1) := by decide +kernel
theorem dX5_keeps_47 : decode cX5_keeps 47 = .ok (.putfield 222, 3) := by decide +kernel
theorem dX5_keeps_50 : decode cX5_keeps 50 = .ok (.iconst 0, 1) := by decide +kernel
theorem dX5_keeps_51 : decode cX5_keeps 51 = .ok (.istore_n 1, 1) := by decide +kernel
theorem dX5_keeps_52 : decode cX5_keeps 52 = .ok (.iload_n 1, 1) := by decide +kernel
theorem dX5_keeps_53 : decode cX5_keeps 53 = .ok (.sipush 2117, 3) := by decide +kernel
theorem dX5_keeps_56 : decode cX5_keeps 56 = .ok (.if_icmp .ge 30, 3) := by decide +kernel
theorem dX5_keeps_59 : decode cX5_keeps 59 = .ok (.aload_n 0, 1) := by decide +kernel
theorem dX5_keeps_60 : decode cX5_keeps 60 = .ok (.getfield 51, 3) := by decide +kernel
theorem dX5_keeps_63 : decode cX5_keeps 63 = .ok (.sipush 2117, 3) := by decide +kernel
theorem dX5_keeps_66 : decode cX5_keeps 66 = .ok (.aload_n 0, 1) := by decide +kernel
theorem dX5_keeps_67 : decode cX5_keeps 67 = .ok (.getfield 222, 3) := by decide +kernel
theorem dX5_keeps_70 : decode cX5_keeps 70 = .ok (.imul, 1) := by decide +kernel
theorem dX5_keeps_71 : decode cX5_keeps 71 = .ok (.iload_n 1, 1) := by decide +kernel
theorem dX5_keeps_72 : decode cX5_keeps 72 = .ok (.iadd, 1) := by decide +kernel
theorem dX5_keeps_73 : decode cX5_keeps 73 = .ok (.aload_n 0, 1) := by decide +kernel
theorem dX5_keeps_74 : decode cX5_keeps 74 = .ok (.getfield 48, 3) := by decide +kernel
theorem dX5_keeps_77 : decode cX5_keeps 77 = .ok (.iload_n 1, 1) := by decide +kernel
theorem dX5_keeps_78 : decode cX5_keeps 78 = .ok (.iaload, 1) := by decide +kernel
theorem dX5_keeps_79 : decode cX5_keeps 79 = .ok (.iastore, 1) := by decide +kernel
theorem dX5_keeps_80 : decode cX5_keeps 80 = .ok (.iinc 1 1, 3) := by decide +kernel
theorem dX5_keeps_83 : decode cX5_keeps 83 = .ok (.goto (-31), 3) := by decide +kernel
theorem dX5_keeps_86 : decode cX5_keeps 86 = .ok (.aload_n 0, 1) := by decide +kernel
theorem dX5_keeps_87 : decode cX5_keeps 87 = .ok (.dup, 1) := by decide +kernel
theorem dX5_keeps_88 : decode cX5_keeps 88 = .ok (.getfield 222, 3) := by decide +kernel
theorem dX5_keeps_91 : decode cX5_keeps 91 = .ok (.iconst 1, 1) := by decide +kernel
theorem dX5_keeps_92 : decode cX5_keeps 92 = .ok (.iadd, 1) := by decide +kernel
theorem dX5_keeps_93 : decode cX5_keeps 93 = .ok (.putfield 222, 3) := by decide +kernel
theorem dX5_keeps_96 : decode cX5_keeps 96 = .ok (.return_, 1) := by decide +kernel
theorem dX5_toBelt_0 : decode cX5_toBelt 0 = .ok (.aload_n 0, 1) := by decide +kernel
theorem dX5_toBelt_1 : decode cX5_toBelt 1 = .ok (.getfield 48, 3) := by decide +kernel
theorem dX5_toBelt_4 : decode cX5_toBelt 4 = .ok (.sipush 371, 3) := by decide +kernel
theorem dX5_toBelt_7 : decode cX5_toBelt 7 = .ok (.aload_n 0, 1) := by decide +kernel
theorem dX5_toBelt_8 : decode cX5_toBelt 8 = .ok (.getfield 48, 3) := by decide +kernel
theorem dX5_toBelt_11 : decode cX5_toBelt 11 = .ok (.sipush 370, 3) := by decide +kernel
theorem dX5_toBelt_14 : decode cX5_toBelt 14 = .ok (.iaload, 1) := by decide +kernel
theorem dX5_toBelt_15 : decode cX5_toBelt 15 = .ok (.iadd, 1) := by decide +kernel
theorem dX5_toBelt_16 : decode cX5_toBelt 16 = .ok (.bipush 10, 2) := by decide +kernel
theorem dX5_toBelt_18 : decode cX5_toBelt 18 = .ok (.iload_n 1, 1) := by decide +kernel
theorem dX5_toBelt_19 : decode cX5_toBelt 19 = .ok (.imul, 1) := by decide +kernel
theorem dX5_toBelt_20 : decode cX5_toBelt 20 = .ok (.iload_n 2, 1) := by decide +kernel
theorem dX5_toBelt_21 : decode cX5_toBelt 21 = .ok (.iadd, 1) := by decide +kernel
theorem dX5_toBelt_22 : decode cX5_toBelt 22 = .ok (.iastore, 1) := by decide +kernel
theorem dX5_toBelt_23 : decode cX5_toBelt 23 = .ok (.aload_n 0, 1) := by decide +kernel
theorem dX5_toBelt_24 : decode cX5_toBelt 24 = .ok (.getfield 48, 3) := by decide +kernel
theorem dX5_toBelt_27 : decode cX5_toBelt 27 = .ok (.sipush 370, 3) := by decide +kernel
theorem dX5_toBelt_30 : decode cX5_toBelt 30 = .ok (.dup2, 1) := by decide +kernel
theorem dX5_toBelt_31 : decode cX5_toBelt 31 = .ok (.iaload, 1) := by decide +kernel
theorem dX5_toBelt_32 : decode cX5_toBelt 32 = .ok (.iconst 1, 1) := by decide +kernel
theorem dX5_toBelt_33 : decode cX5_toBelt 33 = .ok (.iadd, 1) := by decide +kernel
theorem dX5_toBelt_34 : decode cX5_toBelt 34 = .ok (.iastore, 1) := by decide +kernel
theorem dX5_toBelt_35 : decode cX5_toBelt 35 = .ok (.return_, 1) := by decide +kernel
theorem dX5_earliestBehind_0 : decode cX5_earliestBehind 0 = .ok (.iconst (-1), 1) := by decide +kernel
theorem dX5_earliestBehind_1 : decode cX5_earliestBehind 1 = .ok (.istore_n 3, 1) := by decide +kernel
theorem dX5_earliestBehind_2 : decode cX5_earliestBehind 2 = .ok (.iconst 0, 1) := by decide +kernel
theorem dX5_earliestBehind_3 : decode cX5_earliestBehind 3 = .ok (.istore 4, 2) := by decide +kernel
theorem dX5_earliestBehind_5 : decode cX5_earliestBehind 5 = .ok (.iload 4, 2) := by decide +kernel
theorem dX5_earliestBehind_7 : decode cX5_earliestBehind 7 = .ok (.aload_n 0, 1) := by decide +kernel
theorem dX5_earliestBehind_8 : decode cX5_earliestBehind 8 = .ok (.getfield 17, 3) := by decide +kernel
theorem dX5_earliestBehind_11 : decode cX5_earliestBehind 11 = .ok (.iconst 0, 1) := by decide +kernel
theorem dX5_earliestBehind_12 : decode cX5_earliestBehind 12 = .ok (.iaload, 1) := by decide +kernel
theorem dX5_earliestBehind_13 : decode cX5_earliestBehind 13 = .ok (.if_icmp .ge 52, 3) := by decide +kernel
theorem dX5_earliestBehind_16 : decode cX5_earliestBehind 16 = .ok (.iload_n 1, 1) := by decide +kernel
theorem dX5_earliestBehind_17 : decode cX5_earliestBehind 17 = .ok (.iload 4, 2) := by decide +kernel
theorem dX5_earliestBehind_19 : decode cX5_earliestBehind 19 = .ok (.ishr, 1) := by decide +kernel
theorem dX5_earliestBehind_20 : decode cX5_earliestBehind 20 = .ok (.iconst 1, 1) := by decide +kernel
theorem dX5_earliestBehind_21 : decode cX5_earliestBehind 21 = .ok (.iand, 1) := by decide +kernel
theorem dX5_earliestBehind_22 : decode cX5_earliestBehind 22 = .ok (.ifCond .eq 37, 3) := by decide +kernel
theorem dX5_earliestBehind_25 : decode cX5_earliestBehind 25 = .ok (.iload_n 2, 1) := by decide +kernel
theorem dX5_earliestBehind_26 : decode cX5_earliestBehind 26 = .ok (.ifCond .lt 16, 3) := by decide +kernel
theorem dX5_earliestBehind_29 : decode cX5_earliestBehind 29 = .ok (.aload_n 0, 1) := by decide +kernel
theorem dX5_earliestBehind_30 : decode cX5_earliestBehind 30 = .ok (.iload_n 2, 1) := by decide +kernel
theorem dX5_earliestBehind_31 : decode cX5_earliestBehind 31 = .ok (.iload 4, 2) := by decide +kernel
theorem dX5_earliestBehind_33 : decode cX5_earliestBehind 33 = .ok (.invokevirtual 247, 3) := by decide +kernel
theorem dX5_earliestBehind_36 : decode cX5_earliestBehind 36 = .ok (.ifCond .ne 6, 3) := by decide +kernel
theorem dX5_earliestBehind_39 : decode cX5_earliestBehind 39 = .ok (.goto 20, 3) := by decide +kernel
theorem dX5_earliestBehind_42 : decode cX5_earliestBehind 42 = .ok (.iload_n 3, 1) := by decide +kernel
theorem dX5_earliestBehind_43 : decode cX5_earliestBehind 43 = .ok (.ifCond .lt 13, 3) := by decide +kernel
theorem dX5_earliestBehind_46 : decode cX5_earliestBehind 46 = .ok (.aload_n 0, 1) := by decide +kernel
theorem dX5_earliestBehind_47 : decode cX5_earliestBehind 47 = .ok (.iload 4, 2) := by decide +kernel
theorem dX5_earliestBehind_49 : decode cX5_earliestBehind 49 = .ok (.iload_n 3, 1) := by decide +kernel
theorem dX5_earliestBehind_50 : decode cX5_earliestBehind 50 = .ok (.invokevirtual 247, 3) := by decide +kernel
theorem dX5_earliestBehind_53 : decode cX5_earliestBehind 53 = .ok (.ifCond .eq 6, 3) := by decide +kernel
theorem dX5_earliestBehind_56 : decode cX5_earliestBehind 56 = .ok (.iload 4, 2) := by decide +kernel
theorem dX5_earliestBehind_58 : decode cX5_earliestBehind 58 = .ok (.istore_n 3, 1) := by decide +kernel
theorem dX5_earliestBehind_59 : decode cX5_earliestBehind 59 = .ok (.iinc 4 1, 3) := by decide +kernel
theorem dX5_earliestBehind_62 : decode cX5_earliestBehind 62 = .ok (.goto (-57), 3) := by decide +kernel
theorem dX5_earliestBehind_65 : decode cX5_earliestBehind 65 = .ok (.iload_n 3, 1) := by decide +kernel
theorem dX5_earliestBehind_66 : decode cX5_earliestBehind 66 = .ok (.ireturn, 1) := by decide +kernel
theorem dX5_release_0 : decode cX5_release 0 = .ok (.aload_n 0, 1) := by decide +kernel
theorem dX5_release_1 : decode cX5_release 1 = .ok (.iconst 0, 1) := by decide +kernel
theorem dX5_release_2 : decode cX5_release 2 = .ok (.putfield 86, 3) := by decide +kernel
theorem dX5_release_5 : decode cX5_release 5 = .ok (.aload_n 0, 1) := by decide +kernel
theorem dX5_release_6 : decode cX5_release 6 = .ok (.invokevirtual 269, 3) := by decide +kernel
theorem dX5_release_9 : decode cX5_release 9 = .ok (.istore_n 1, 1) := by decide +kernel
theorem dX5_release_10 : decode cX5_release 10 = .ok (.iload_n 1, 1) := by decide +kernel
theorem dX5_release_11 : decode cX5_release 11 = .ok (.ifCond .ne 5, 3) := by decide +kernel
theorem dX5_release_14 : decode cX5_release 14 = .ok (.iconst (-1), 1) := by decide +kernel
theorem dX5_release_15 : decode cX5_release 15 = .ok (.ireturn, 1) := by decide +kernel
theorem dX5_release_16 : decode cX5_release 16 = .ok (.aload_n 0, 1) := by decide +kernel
theorem dX5_release_17 : decode cX5_release 17 = .ok (.invokevirtual 284, 3) := by decide +kernel
theorem dX5_release_20 : decode cX5_release 20 = .ok (.aload_n 0, 1) := by decide +kernel
theorem dX5_release_21 : decode cX5_release 21 = .ok (.iload_n 1, 1) := by decide +kernel
theorem dX5_release_22 : decode cX5_release 22 = .ok (.invokevirtual 275, 3) := by decide +kernel
theorem dX5_release_25 : decode cX5_release 25 = .ok (.iconst 0, 1) := by decide +kernel
theorem dX5_release_26 : decode cX5_release 26 = .ok (.istore_n 2, 1) := by decide +kernel
theorem dX5_release_27 : decode cX5_release 27 = .ok (.iload_n 2, 1) := by decide +kernel
theorem dX5_release_28 : decode cX5_release 28 = .ok (.aload_n 0, 1) := by decide +kernel
theorem dX5_release_29 : decode cX5_release 29 = .ok (.getfield 17, 3) := by decide +kernel
theorem dX5_release_32 : decode cX5_release 32 = .ok (.iconst 0, 1) := by decide +kernel
theorem dX5_release_33 : decode cX5_release 33 = .ok (.iaload, 1) := by decide +kernel
theorem dX5_release_34 : decode cX5_release 34 = .ok (.if_icmp .ge 71, 3) := by decide +kernel
theorem dX5_release_37 : decode cX5_release 37 = .ok (.iload_n 1, 1) := by decide +kernel
theorem dX5_release_38 : decode cX5_release 38 = .ok (.iload_n 2, 1) := by decide +kernel
theorem dX5_release_39 : decode cX5_release 39 = .ok (.ishr, 1) := by decide +kernel
theorem dX5_release_40 : decode cX5_release 40 = .ok (.iconst 1, 1) := by decide +kernel
theorem dX5_release_41 : decode cX5_release 41 = .ok (.iand, 1) := by decide +kernel
theorem dX5_release_42 : decode cX5_release 42 = .ok (.ifCond .ne 6, 3) := by decide +kernel
theorem dX5_release_45 : decode cX5_release 45 = .ok (.goto 54, 3) := by decide +kernel
theorem dX5_release_48 : decode cX5_release 48 = .ok (.aload_n 0, 1) := by decide +kernel
theorem dX5_release_49 : decode cX5_release 49 = .ok (.getfield 48, 3) := by decide +kernel
theorem dX5_release_52 : decode cX5_release 52 = .ok (.sipush 330, 3) := by decide +kernel
theorem dX5_release_55 : decode cX5_release 55 = .ok (.iload_n 2, 1) := by decide +kernel
theorem dX5_release_56 : decode cX5_release 56 = .ok (.iadd, 1) := by decide +kernel
theorem dX5_release_57 : decode cX5_release 57 = .ok (.iconst 1, 1) := by decide +kernel
theorem dX5_release_58 : decode cX5_release 58 = .ok (.iastore, 1) := by decide +kernel
theorem dX5_release_59 : decode cX5_release 59 = .ok (.iconst 0, 1) := by decide +kernel
theorem dX5_release_60 : decode cX5_release 60 = .ok (.istore_n 3, 1) := by decide +kernel
theorem dX5_release_61 : decode cX5_release 61 = .ok (.iload_n 3, 1) := by decide +kernel
theorem dX5_release_62 : decode cX5_release 62 = .ok (.bipush 10, 2) := by decide +kernel
theorem dX5_release_64 : decode cX5_release 64 = .ok (.if_icmp .ge 35, 3) := by decide +kernel
theorem dX5_release_67 : decode cX5_release 67 = .ok (.aload_n 0, 1) := by decide +kernel
theorem dX5_release_68 : decode cX5_release 68 = .ok (.getfield 48, 3) := by decide +kernel
theorem dX5_release_71 : decode cX5_release 71 = .ok (.sipush 170, 3) := by decide +kernel
theorem dX5_release_74 : decode cX5_release 74 = .ok (.bipush 10, 2) := by decide +kernel
theorem dX5_release_76 : decode cX5_release 76 = .ok (.iload_n 2, 1) := by decide +kernel
theorem dX5_release_77 : decode cX5_release 77 = .ok (.imul, 1) := by decide +kernel
theorem dX5_release_78 : decode cX5_release 78 = .ok (.iadd, 1) := by decide +kernel
theorem dX5_release_79 : decode cX5_release 79 = .ok (.iload_n 3, 1) := by decide +kernel
theorem dX5_release_80 : decode cX5_release 80 = .ok (.iadd, 1) := by decide +kernel
theorem dX5_release_81 : decode cX5_release 81 = .ok (.aload_n 0, 1) := by decide +kernel
theorem dX5_release_82 : decode cX5_release 82 = .ok (.getfield 45, 3) := by decide +kernel
theorem dX5_release_85 : decode cX5_release 85 = .ok (.bipush 10, 2) := by decide +kernel
theorem dX5_release_87 : decode cX5_release 87 = .ok (.iload_n 2, 1) := by decide +kernel
theorem dX5_release_88 : decode cX5_release 88 = .ok (.imul, 1) := by decide +kernel
theorem dX5_release_89 : decode cX5_release 89 = .ok (.iload_n 3, 1) := by decide +kernel
theorem dX5_release_90 : decode cX5_release 90 = .ok (.iadd, 1) := by decide +kernel
theorem dX5_release_91 : decode cX5_release 91 = .ok (.iaload, 1) := by decide +kernel
theorem dX5_release_92 : decode cX5_release 92 = .ok (.iastore, 1) := by decide +kernel
theorem dX5_release_93 : decode cX5_release 93 = .ok (.iinc 3 1, 3) := by decide +kernel
theorem dX5_release_96 : decode cX5_release 96 = .ok (.goto (-35), 3) := by decide +kernel
theorem dX5_release_99 : decode cX5_release 99 = .ok (.iinc 2 1, 3) := by decide +kernel
theorem dX5_release_102 : decode cX5_release 102 = .ok (.goto (-75), 3) := by decide +kernel
theorem dX5_release_105 : decode cX5_release 105 = .ok (.iconst 0, 1) := by decide +kernel
theorem dX5_release_106 : decode cX5_release 106 = .ok (.istore_n 2, 1) := by decide +kernel
theorem dX5_release_107 : decode cX5_release 107 = .ok (.iload_n 2, 1) := by decide +kernel
theorem dX5_release_108 : decode cX5_release 108 = .ok (.aload_n 0, 1) := by decide +kernel
theorem dX5_release_109 : decode cX5_release 109 = .ok (.getfield 272, 3) := by decide +kernel
theorem dX5_release_112 : decode cX5_release 112 = .ok (.if_icmp .ge 117, 3) := by decide +kernel
theorem dX5_release_115 : decode cX5_release 115 = .ok (.aload_n 0, 1) := by decide +kernel
theorem dX5_release_116 : decode cX5_release 116 = .ok (.getfield 64, 3) := by decide +kernel
theorem dX5_release_119 : decode cX5_release 119 = .ok (.iload_n 2, 1) := by decide +kernel
theorem dX5_release_120 : decode cX5_release 120 = .ok (.iaload, 1) := by decide +kernel
theorem dX5_release_121 : decode cX5_release 121 = .ok (.istore_n 3, 1) := by decide +kernel
theorem dX5_release_122 : decode cX5_release 122 = .ok (.aload_n 0, 1) := by decide +kernel
theorem dX5_release_123 : decode cX5_release 123 = .ok (.getfield 67, 3) := by decide +kernel
theorem dX5_release_126 : decode cX5_release 126 = .ok (.iload_n 2, 1) := by decide +kernel
theorem dX5_release_127 : decode cX5_release 127 = .ok (.iaload, 1) := by decide +kernel
theorem dX5_release_128 : decode cX5_release 128 = .ok (.istore 4, 2) := by decide +kernel
theorem dX5_release_130 : decode cX5_release 130 = .ok (.aload_n 0, 1) := by decide +kernel
theorem dX5_release_131 : decode cX5_release 131 = .ok (.getfield 48, 3) := by decide +kernel
theorem dX5_release_134 : decode cX5_release 134 = .ok (.iload_n 3, 1) := by decide +kernel
theorem dX5_release_135 : decode cX5_release 135 = .ok (.dup2, 1) := by decide +kernel
theorem dX5_release_136 : decode cX5_release 136 = .ok (.iaload, 1) := by decide +kernel
theorem dX5_release_137 : decode cX5_release 137 = .ok (.iload 4, 2) := by decide +kernel
theorem dX5_release_139 : decode cX5_release 139 = .ok (.isub, 1) := by decide +kernel
theorem dX5_release_140 : decode cX5_release 140 = .ok (.iastore, 1) := by decide +kernel
theorem dX5_release_141 : decode cX5_release 141 = .ok (.aload_n 0, 1) := by decide +kernel
theorem dX5_release_142 : decode cX5_release 142 = .ok (.iload_n 1, 1) := by decide +kernel
theorem dX5_release_143 : decode cX5_release 143 = .ok (.iconst (-1), 1) := by decide +kernel
theorem dX5_release_144 : decode cX5_release 144 = .ok (.invokevirtual 287, 3) := by decide +kernel
theorem dX5_release_147 : decode cX5_release 147 = .ok (.istore 5, 2) := by decide +kernel
theorem dX5_release_149 : decode cX5_release 149 = .ok (.iload 5, 2) := by decide +kernel
theorem dX5_release_151 : decode cX5_release 151 = .ok (.ifCond .lt 72, 3) := by decide +kernel
theorem dX5_release_154 : decode cX5_release 154 = .ok (.iload 4, 2) := by decide +kernel
theorem dX5_release_156 : decode cX5_release 156 = .ok (.ifCond .le 55, 3) := by decide +kernel
theorem dX5_release_159 : decode cX5_release 159 = .ok (.aload_n 0, 1) := by decide +kernel
theorem dX5_release_160 : decode cX5_release 160 = .ok (.getfield 48, 3) := by decide +kernel
theorem dX5_release_163 : decode cX5_release 163 = .ok (.sipush 170, 3) := by decide +kernel
theorem dX5_release_166 : decode cX5_release 166 = .ok (.bipush 10, 2) := by decide +kernel
theorem dX5_release_168 : decode cX5_release 168 = .ok (.iload 5, 2) := by decide +kernel
theorem dX5_release_170 : decode cX5_release 170 = .ok (.imul, 1) := by decide +kernel
theorem dX5_release_171 : decode cX5_release 171 = .ok (.iadd, 1) := by decide +kernel
theorem dX5_release_172 : decode cX5_release 172 = .ok (.iload_n 3, 1) := by decide +kernel
theorem dX5_release_173 : decode cX5_release 173 = .ok (.iadd, 1) := by decide +kernel
theorem dX5_release_174 : decode cX5_release 174 = .ok (.iaload, 1) := by decide +kernel
theorem dX5_release_175 : decode cX5_release 175 = .ok (.ifCond .le 36, 3) := by decide +kernel
theorem dX5_release_178 : decode cX5_release 178 = .ok (.aload_n 0, 1) := by decide +kernel
theorem dX5_release_179 : decode cX5_release 179 = .ok (.getfield 48, 3) := by decide +kernel
theorem dX5_release_182 : decode cX5_release 182 = .ok (.sipush 170, 3) := by decide +kernel
theorem dX5_release_185 : decode cX5_release 185 = .ok (.bipush 10, 2) := by decide +kernel
theorem dX5_release_187 : decode cX5_release 187 = .ok (.iload 5, 2) := by decide +kernel
theorem dX5_release_189 : decode cX5_release 189 = .ok (.imul, 1) := by decide +kernel
theorem dX5_release_190 : decode cX5_release 190 = .ok (.iadd, 1) := by decide +kernel
theorem dX5_release_191 : decode cX5_release 191 = .ok (.iload_n 3, 1) := by decide +kernel
theorem dX5_release_192 : decode cX5_release 192 = .ok (.iadd, 1) := by decide +kernel
theorem dX5_release_193 : decode cX5_release 193 = .ok (.dup2, 1) := by decide +kernel
theorem dX5_release_194 : decode cX5_release 194 = .ok (.iaload, 1) := by decide +kernel
theorem dX5_release_195 : decode cX5_release 195 = .ok (.iconst 1, 1) := by decide +kernel
theorem dX5_release_196 : decode cX5_release 196 = .ok (.isub, 1) := by decide +kernel
theorem dX5_release_197 : decode cX5_release 197 = .ok (.iastore, 1) := by decide +kernel
theorem dX5_release_198 : decode cX5_release 198 = .ok (.iinc 4 (-1), 3) := by decide +kernel
theorem dX5_release_201 : decode cX5_release 201 = .ok (.aload_n 0, 1) := by decide +kernel
theorem dX5_release_202 : decode cX5_release 202 = .ok (.iload 5, 2) := by decide +kernel
theorem dX5_release_204 : decode cX5_release 204 = .ok (.iload_n 3, 1) := by decide +kernel
theorem dX5_release_205 : decode cX5_release 205 = .ok (.invokevirtual 290, 3) := by decide +kernel
theorem dX5_release_208 : decode cX5_release 208 = .ok (.goto (-54), 3) := by decide +kernel
theorem dX5_release_211 : decode cX5_release 211 = .ok (.aload_n 0, 1) := by decide +kernel
theorem dX5_release_212 : decode cX5_release 212 = .ok (.iload_n 1, 1) := by decide +kernel
theorem dX5_release_213 : decode cX5_release 213 = .ok (.iload 5, 2) := by decide +kernel
theorem dX5_release_215 : decode cX5_release 215 = .ok (.invokevirtual 287, 3) := by decide +kernel
theorem dX5_release_218 : decode cX5_release 218 = .ok (.istore 5, 2) := by decide +kernel
theorem dX5_release_220 : decode cX5_release 220 = .ok (.goto (-71), 3) := by decide +kernel
theorem dX5_release_223 : decode cX5_release 223 = .ok (.iinc 2 1, 3) := by decide +kernel
theorem dX5_release_226 : decode cX5_release 226 = .ok (.goto (-119), 3) := by decide +kernel
theorem dX5_release_229 : decode cX5_release 229 = .ok (.iload_n 1, 1) := by decide +kernel
theorem dX5_release_230 : decode cX5_release 230 = .ok (.invokestatic 253, 3) := by decide +kernel
theorem dX5_release_233 : decode cX5_release 233 = .ok (.ireturn, 1) := by decide +kernel
theorem dX5_freeHole_0 : decode cX5_freeHole 0 = .ok (.iconst 0, 1) := by decide +kernel
theorem dX5_freeHole_1 : decode cX5_freeHole 1 = .ok (.istore_n 1, 1) := by decide +kernel
theorem dX5_freeHole_2 : decode cX5_freeHole 2 = .ok (.iload_n 1, 1) := by decide +kernel
theorem dX5_freeHole_3 : decode cX5_freeHole 3 = .ok (.aload_n 0, 1) := by decide +kernel
theorem dX5_freeHole_4 : decode cX5_freeHole 4 = .ok (.getfield 20, 3) := by decide +kernel
theorem dX5_freeHole_7 : decode cX5_freeHole 7 = .ok (.iconst 0, 1) := by decide +kernel
theorem dX5_freeHole_8 : decode cX5_freeHole 8 = .ok (.iaload, 1) := by decide +kernel
theorem dX5_freeHole_9 : decode cX5_freeHole 9 = .ok (.if_icmp .ge 24, 3) := by decide +kernel
theorem dX5_freeHole_12 : decode cX5_freeHole 12 = .ok (.aload_n 0, 1) := by decide +kernel
theorem dX5_freeHole_13 : decode cX5_freeHole 13 = .ok (.getfield 48, 3) := by decide +kernel
theorem dX5_freeHole_16 : decode cX5_freeHole 16 = .ok (.sipush 362, 3) := by decide +kernel
theorem dX5_freeHole_19 : decode cX5_freeHole 19 = .ok (.iload_n 1, 1) := by decide +kernel
theorem dX5_freeHole_20 : decode cX5_freeHole 20 = .ok (.iadd, 1) := by decide +kernel
theorem dX5_freeHole_21 : decode cX5_freeHole 21 = .ok (.iaload, 1) := by decide +kernel
theorem dX5_freeHole_22 : decode cX5_freeHole 22 = .ok (.ifCond .ge 5, 3) := by decide +kernel
theorem dX5_freeHole_25 : decode cX5_freeHole 25 = .ok (.iload_n 1, 1) := by decide +kernel
theorem dX5_freeHole_26 : decode cX5_freeHole 26 = .ok (.ireturn, 1) := by decide +kernel
theorem dX5_freeHole_27 : decode cX5_freeHole 27 = .ok (.iinc 1 1, 3) := by decide +kernel
theorem dX5_freeHole_30 : decode cX5_freeHole 30 = .ok (.goto (-28), 3) := by decide +kernel
theorem dX5_freeHole_33 : decode cX5_freeHole 33 = .ok (.iconst (-1), 1) := by decide +kernel
theorem dX5_freeHole_34 : decode cX5_freeHole 34 = .ok (.ireturn, 1) := by decide +kernel
theorem dX5_canCome_0 : decode cX5_canCome 0 = .ok (.aload_n 0, 1) := by decide +kernel
theorem dX5_canCome_1 : decode cX5_canCome 1 = .ok (.getfield 48, 3) := by decide +kernel
theorem dX5_canCome_4 : decode cX5_canCome 4 = .ok (.sipush 330, 3) := by decide +kernel
theorem dX5_canCome_7 : decode cX5_canCome 7 = .ok (.iload_n 1, 1) := by decide +kernel
theorem dX5_canCome_8 : decode cX5_canCome 8 = .ok (.iadd, 1) := by decide +kernel
theorem dX5_canCome_9 : decode cX5_canCome 9 = .ok (.iaload, 1) := by decide +kernel
theorem dX5_canCome_10 : decode cX5_canCome 10 = .ok (.iconst 2, 1) := by decide +kernel
theorem dX5_canCome_11 : decode cX5_canCome 11 = .ok (.if_icmp .eq 24, 3) := by decide +kernel
theorem dX5_canCome_14 : decode cX5_canCome 14 = .ok (.aload_n 0, 1) := by decide +kernel
theorem dX5_canCome_15 : decode cX5_canCome 15 = .ok (.getfield 48, 3) := by decide +kernel
theorem dX5_canCome_18 : decode cX5_canCome 18 = .ok (.sipush 330, 3) := by decide +kernel
theorem dX5_canCome_21 : decode cX5_canCome 21 = .ok (.iload_n 1, 1) := by decide +kernel
theorem dX5_canCome_22 : decode cX5_canCome 22 = .ok (.iadd, 1) := by decide +kernel
theorem dX5_canCome_23 : decode cX5_canCome 23 = .ok (.iaload, 1) := by decide +kernel
theorem dX5_canCome_24 : decode cX5_canCome 24 = .ok (.iconst 3, 1) := by decide +kernel
theorem dX5_canCome_25 : decode cX5_canCome 25 = .ok (.if_icmp .eq 10, 3) := by decide +kernel
theorem dX5_canCome_28 : decode cX5_canCome 28 = .ok (.aload_n 0, 1) := by decide +kernel
theorem dX5_canCome_29 : decode cX5_canCome 29 = .ok (.invokevirtual 294, 3) := by decide +kernel
theorem dX5_canCome_32 : decode cX5_canCome 32 = .ok (.ifCond .lt 7, 3) := by decide +kernel
theorem dX5_canCome_35 : decode cX5_canCome 35 = .ok (.iconst 1, 1) := by decide +kernel
theorem dX5_canCome_36 : decode cX5_canCome 36 = .ok (.goto 4, 3) := by decide +kernel
theorem dX5_canCome_39 : decode cX5_canCome 39 = .ok (.iconst 0, 1) := by decide +kernel
theorem dX5_canCome_40 : decode cX5_canCome 40 = .ok (.ireturn, 1) := by decide +kernel
theorem dX5_freesHole_0 : decode cX5_freesHole 0 = .ok (.aload_n 0, 1) := by decide +kernel
theorem dX5_freesHole_1 : decode cX5_freesHole 1 = .ok (.getfield 48, 3) := by decide +kernel
theorem dX5_freesHole_4 : decode cX5_freesHole 4 = .ok (.sipush 346, 3) := by decide +kernel
theorem dX5_freesHole_7 : decode cX5_freesHole 7 = .ok (.iload_n 1, 1) := by decide +kernel
theorem dX5_freesHole_8 : decode cX5_freesHole 8 = .ok (.iadd, 1) := by decide +kernel
theorem dX5_freesHole_9 : decode cX5_freesHole 9 = .ok (.iaload, 1) := by decide +kernel
theorem dX5_freesHole_10 : decode cX5_freesHole 10 = .ok (.ifCond .ge 4, 3) := by decide +kernel
theorem dX5_freesHole_13 : decode cX5_freesHole 13 = .ok (.return_, 1) := by decide +kernel
theorem dX5_freesHole_14 : decode cX5_freesHole 14 = .ok (.aload_n 0, 1) := by decide +kernel
theorem dX5_freesHole_15 : decode cX5_freesHole 15 = .ok (.getfield 48, 3) := by decide +kernel
theorem dX5_freesHole_18 : decode cX5_freesHole 18 = .ok (.sipush 362, 3) := by decide +kernel
theorem dX5_freesHole_21 : decode cX5_freesHole 21 = .ok (.aload_n 0, 1) := by decide +kernel
theorem dX5_freesHole_22 : decode cX5_freesHole 22 = .ok (.getfield 48, 3) := by decide +kernel
theorem dX5_freesHole_25 : decode cX5_freesHole 25 = .ok (.sipush 346, 3) := by decide +kernel
theorem dX5_freesHole_28 : decode cX5_freesHole 28 = .ok (.iload_n 1, 1) := by decide +kernel
theorem dX5_freesHole_29 : decode cX5_freesHole 29 = .ok (.iadd, 1) := by decide +kernel
theorem dX5_freesHole_30 : decode cX5_freesHole 30 = .ok (.iaload, 1) := by decide +kernel
theorem dX5_freesHole_31 : decode cX5_freesHole 31 = .ok (.iadd, 1) := by decide +kernel
theorem dX5_freesHole_32 : decode cX5_freesHole 32 = .ok (.iconst (-1), 1) := by decide +kernel
theorem dX5_freesHole_33 : decode cX5_freesHole 33 = .ok (.iastore, 1) := by decide +kernel
theorem dX5_freesHole_34 : decode cX5_freesHole 34 = .ok (.aload_n 0, 1) := by decide +kernel
theorem dX5_freesHole_35 : decode cX5_freesHole 35 = .ok (.getfield 48, 3) := by decide +kernel
theorem dX5_freesHole_38 : decode cX5_freesHole 38 = .ok (.sipush 346, 3) := by decide +kernel
theorem dX5_freesHole_41 : decode cX5_freesHole 41 = .ok (.iload_n 1, 1) := by decide +kernel
theorem dX5_freesHole_42 : decode cX5_freesHole 42 = .ok (.iadd, 1) := by decide +kernel
theorem dX5_freesHole_43 : decode cX5_freesHole 43 = .ok (.iconst (-1), 1) := by decide +kernel
theorem dX5_freesHole_44 : decode cX5_freesHole 44 = .ok (.iastore, 1) := by decide +kernel
theorem dX5_freesHole_45 : decode cX5_freesHole 45 = .ok (.return_, 1) := by decide +kernel
theorem dX5_comes_0 : decode cX5_comes 0 = .ok (.aload_n 0, 1) := by decide +kernel
theorem dX5_comes_1 : decode cX5_comes 1 = .ok (.getfield 48, 3) := by decide +kernel
theorem dX5_comes_4 : decode cX5_comes 4 = .ok (.sipush 330, 3) := by decide +kernel
theorem dX5_comes_7 : decode cX5_comes 7 = .ok (.iload_n 1, 1) := by decide +kernel
theorem dX5_comes_8 : decode cX5_comes 8 = .ok (.iadd, 1) := by decide +kernel
theorem dX5_comes_9 : decode cX5_comes 9 = .ok (.iaload, 1) := by decide +kernel
theorem dX5_comes_10 : decode cX5_comes 10 = .ok (.iconst 1, 1) := by decide +kernel
theorem dX5_comes_11 : decode cX5_comes 11 = .ok (.if_icmp .ne 41, 3) := by decide +kernel
theorem dX5_comes_14 : decode cX5_comes 14 = .ok (.aload_n 0, 1) := by decide +kernel
theorem dX5_comes_15 : decode cX5_comes 15 = .ok (.invokevirtual 294, 3) := by decide +kernel
theorem dX5_comes_18 : decode cX5_comes 18 = .ok (.istore_n 3, 1) := by decide +kernel
theorem dX5_comes_19 : decode cX5_comes 19 = .ok (.aload_n 0, 1) := by decide +kernel
theorem dX5_comes_20 : decode cX5_comes 20 = .ok (.getfield 48, 3) := by decide +kernel
theorem dX5_comes_23 : decode cX5_comes 23 = .ok (.sipush 362, 3) := by decide +kernel
theorem dX5_comes_26 : decode cX5_comes 26 = .ok (.iload_n 3, 1) := by decide +kernel
theorem dX5_comes_27 : decode cX5_comes 27 = .ok (.iadd, 1) := by decide +kernel
theorem dX5_comes_28 : decode cX5_comes 28 = .ok (.iload_n 1, 1) := by decide +kernel
theorem dX5_comes_29 : decode cX5_comes 29 = .ok (.iastore, 1) := by decide +kernel
theorem dX5_comes_30 : decode cX5_comes 30 = .ok (.aload_n 0, 1) := by decide +kernel
theorem dX5_comes_31 : decode cX5_comes 31 = .ok (.getfield 48, 3) := by decide +kernel
theorem dX5_comes_34 : decode cX5_comes 34 = .ok (.sipush 346, 3) := by decide +kernel
theorem dX5_comes_37 : decode cX5_comes 37 = .ok (.iload_n 1, 1) := by decide +kernel
theorem dX5_comes_38 : decode cX5_comes 38 = .ok (.iadd, 1) := by decide +kernel
theorem dX5_comes_39 : decode cX5_comes 39 = .ok (.iload_n 3, 1) := by decide +kernel
theorem dX5_comes_40 : decode cX5_comes 40 = .ok (.iastore, 1) := by decide +kernel
theorem dX5_comes_41 : decode cX5_comes 41 = .ok (.aload_n 0, 1) := by decide +kernel
theorem dX5_comes_42 : decode cX5_comes 42 = .ok (.getfield 48, 3) := by decide +kernel
theorem dX5_comes_45 : decode cX5_comes 45 = .ok (.sipush 330, 3) := by decide +kernel
theorem dX5_comes_48 : decode cX5_comes 48 = .ok (.iload_n 1, 1) := by decide +kernel
theorem dX5_comes_49 : decode cX5_comes 49 = .ok (.iadd, 1) := by decide +kernel
theorem dX5_comes_50 : decode cX5_comes 50 = .ok (.iconst 2, 1) := by decide +kernel
theorem dX5_comes_51 : decode cX5_comes 51 = .ok (.iastore, 1) := by decide +kernel
theorem dX5_comes_52 : decode cX5_comes 52 = .ok (.aload_n 0, 1) := by decide +kernel
theorem dX5_comes_53 : decode cX5_comes 53 = .ok (.getfield 48, 3) := by decide +kernel
theorem dX5_comes_56 : decode cX5_comes 56 = .ok (.bipush 10, 2) := by decide +kernel
theorem dX5_comes_58 : decode cX5_comes 58 = .ok (.bipush 10, 2) := by decide +kernel
theorem dX5_comes_60 : decode cX5_comes 60 = .ok (.iload_n 1, 1) := by decide +kernel
theorem dX5_comes_61 : decode cX5_comes 61 = .ok (.imul, 1) := by decide +kernel
theorem dX5_comes_62 : decode cX5_comes 62 = .ok (.iadd, 1) := by decide +kernel
theorem dX5_comes_63 : decode cX5_comes 63 = .ok (.iload_n 2, 1) := by decide +kernel
theorem dX5_comes_64 : decode cX5_comes 64 = .ok (.iadd, 1) := by decide +kernel
theorem dX5_comes_65 : decode cX5_comes 65 = .ok (.dup2, 1) := by decide +kernel
theorem dX5_comes_66 : decode cX5_comes 66 = .ok (.iaload, 1) := by decide +kernel
theorem dX5_comes_67 : decode cX5_comes 67 = .ok (.iconst 1, 1) := by decide +kernel
theorem dX5_comes_68 : decode cX5_comes 68 = .ok (.iadd, 1) := by decide +kernel
theorem dX5_comes_69 : decode cX5_comes 69 = .ok (.iastore, 1) := by decide +kernel
theorem dX5_comes_70 : decode cX5_comes 70 = .ok (.aload_n 0, 1) := by decide +kernel
theorem dX5_comes_71 : decode cX5_comes 71 = .ok (.bipush 10, 2) := by decide +kernel
theorem dX5_comes_73 : decode cX5_comes 73 = .ok (.iload_n 1, 1) := by decide +kernel
theorem dX5_comes_74 : decode cX5_comes 74 = .ok (.invokevirtual 240, 3) := by decide +kernel
theorem dX5_comes_77 : decode cX5_comes 77 = .ok (.aload_n 0, 1) := by decide +kernel
theorem dX5_comes_78 : decode cX5_comes 78 = .ok (.iload_n 1, 1) := by decide +kernel
theorem dX5_comes_79 : decode cX5_comes 79 = .ok (.invokevirtual 237, 3) := by decide +kernel
theorem dX5_comes_82 : decode cX5_comes 82 = .ok (.if_icmp .ge 4, 3) := by decide +kernel
theorem dX5_comes_85 : decode cX5_comes 85 = .ok (.return_, 1) := by decide +kernel
theorem dX5_comes_86 : decode cX5_comes 86 = .ok (.aload_n 0, 1) := by decide +kernel
theorem dX5_comes_87 : decode cX5_comes 87 = .ok (.iload_n 1, 1) := by decide +kernel
theorem dX5_comes_88 : decode cX5_comes 88 = .ok (.invokevirtual 297, 3) := by decide +kernel
theorem dX5_comes_91 : decode cX5_comes 91 = .ok (.aload_n 0, 1) := by decide +kernel
theorem dX5_comes_92 : decode cX5_comes 92 = .ok (.getfield 48, 3) := by decide +kernel
theorem dX5_comes_95 : decode cX5_comes 95 = .ok (.sipush 330, 3) := by decide +kernel
theorem dX5_comes_98 : decode cX5_comes 98 = .ok (.iload_n 1, 1) := by decide +kernel
theorem dX5_comes_99 : decode cX5_comes 99 = .ok (.iadd, 1) := by decide +kernel
theorem dX5_comes_100 : decode cX5_comes 100 = .ok (.iconst 4, 1) := by decide +kernel
theorem dX5_comes_101 : decode cX5_comes 101 = .ok (.iastore, 1) := by decide +kernel
theorem dX5_comes_102 : decode cX5_comes 102 = .ok (.aload_n 0, 1) := by decide +kernel
theorem dX5_comes_103 : decode cX5_comes 103 = .ok (.getfield 48, 3) := by decide +kernel
theorem dX5_comes_106 : decode cX5_comes 106 = .ok (.sipush 2101, 3) := by decide +kernel
theorem dX5_comes_109 : decode cX5_comes 109 = .ok (.aload_n 0, 1) := by decide +kernel
theorem dX5_comes_110 : decode cX5_comes 110 = .ok (.getfield 48, 3) := by decide +kernel
theorem dX5_comes_113 : decode cX5_comes 113 = .ok (.sipush 2100, 3) := by decide +kernel
theorem dX5_comes_116 : decode cX5_comes 116 = .ok (.iaload, 1) := by decide +kernel
theorem dX5_comes_117 : decode cX5_comes 117 = .ok (.iadd, 1) := by decide +kernel
theorem dX5_comes_118 : decode cX5_comes 118 = .ok (.iload_n 1, 1) := by decide +kernel
theorem dX5_comes_119 : decode cX5_comes 119 = .ok (.iastore, 1) := by decide +kernel
theorem dX5_comes_120 : decode cX5_comes 120 = .ok (.aload_n 0, 1) := by decide +kernel
theorem dX5_comes_121 : decode cX5_comes 121 = .ok (.getfield 48, 3) := by decide +kernel
theorem dX5_comes_124 : decode cX5_comes 124 = .ok (.sipush 2100, 3) := by decide +kernel
theorem dX5_comes_127 : decode cX5_comes 127 = .ok (.dup2, 1) := by decide +kernel
theorem dX5_comes_128 : decode cX5_comes 128 = .ok (.iaload, 1) := by decide +kernel
theorem dX5_comes_129 : decode cX5_comes 129 = .ok (.iconst 1, 1) := by decide +kernel
theorem dX5_comes_130 : decode cX5_comes 130 = .ok (.iadd, 1) := by decide +kernel
theorem dX5_comes_131 : decode cX5_comes 131 = .ok (.iastore, 1) := by decide +kernel
theorem dX5_comes_132 : decode cX5_comes 132 = .ok (.return_, 1) := by decide +kernel
theorem dX5_drops_0 : decode cX5_drops 0 = .ok (.iload_n 3, 1) := by decide +kernel
theorem dX5_drops_1 : decode cX5_drops 1 = .ok (.istore 4, 2) := by decide +kernel
theorem dX5_drops_3 : decode cX5_drops 3 = .ok (.iload 4, 2) := by decide +kernel
theorem dX5_drops_5 : decode cX5_drops 5 = .ok (.iconst 1, 1) := by decide +kernel
theorem dX5_drops_6 : decode cX5_drops 6 = .ok (.iadd, 1) := by decide +kernel
theorem dX5_drops_7 : decode cX5_drops 7 = .ok (.aload_n 0, 1) := by decide +kernel
theorem dX5_drops_8 : decode cX5_drops 8 = .ok (.getfield 48, 3) := by decide +kernel
theorem dX5_drops_11 : decode cX5_drops 11 = .ok (.iload_n 2, 1) := by decide +kernel
theorem dX5_drops_12 : decode cX5_drops 12 = .ok (.iaload, 1) := by decide +kernel
theorem dX5_drops_13 : decode cX5_drops 13 = .ok (.if_icmp .ge 29, 3) := by decide +kernel
theorem dX5_drops_16 : decode cX5_drops 16 = .ok (.aload_n 0, 1) := by decide +kernel
theorem dX5_drops_17 : decode cX5_drops 17 = .ok (.getfield 48, 3) := by decide +kernel
theorem dX5_drops_20 : decode cX5_drops 20 = .ok (.iload_n 1, 1) := by decide +kernel
theorem dX5_drops_21 : decode cX5_drops 21 = .ok (.iload 4, 2) := by decide +kernel
theorem dX5_drops_23 : decode cX5_drops 23 = .ok (.iadd, 1) := by decide +kernel
theorem dX5_drops_24 : decode cX5_drops 24 = .ok (.aload_n 0, 1) := by decide +kernel
theorem dX5_drops_25 : decode cX5_drops 25 = .ok (.getfield 48, 3) := by decide +kernel
theorem dX5_drops_28 : decode cX5_drops 28 = .ok (.iload_n 1, 1) := by decide +kernel
theorem dX5_drops_29 : decode cX5_drops 29 = .ok (.iload 4, 2) := by decide +kernel
theorem dX5_drops_31 : decode cX5_drops 31 = .ok (.iadd, 1) := by decide +kernel
theorem dX5_drops_32 : decode cX5_drops 32 = .ok (.iconst 1, 1) := by decide +kernel
theorem dX5_drops_33 : decode cX5_drops 33 = .ok (.iadd, 1) := by decide +kernel
theorem dX5_drops_34 : decode cX5_drops 34 = .ok (.iaload, 1) := by decide +kernel
theorem dX5_drops_35 : decode cX5_drops 35 = .ok (.iastore, 1) := by decide +kernel
theorem dX5_drops_36 : decode cX5_drops 36 = .ok (.iinc 4 1, 3) := by decide +kernel
theorem dX5_drops_39 : decode cX5_drops 39 = .ok (.goto (-36), 3) := by decide +kernel
theorem dX5_drops_42 : decode cX5_drops 42 = .ok (.aload_n 0, 1) := by decide +kernel
theorem dX5_drops_43 : decode cX5_drops 43 = .ok (.getfield 48, 3) := by decide +kernel
theorem dX5_drops_46 : decode cX5_drops 46 = .ok (.iload_n 2, 1) := by decide +kernel
theorem dX5_drops_47 : decode cX5_drops 47 = .ok (.dup2, 1) := by decide +kernel
theorem dX5_drops_48 : decode cX5_drops 48 = .ok (.iaload, 1) := by decide +kernel
theorem dX5_drops_49 : decode cX5_drops 49 = .ok (.iconst 1, 1) := by decide +kernel
theorem dX5_drops_50 : decode cX5_drops 50 = .ok (.isub, 1) := by decide +kernel
theorem dX5_drops_51 : decode cX5_drops 51 = .ok (.iastore, 1) := by decide +kernel
theorem dX5_drops_52 : decode cX5_drops 52 = .ok (.return_, 1) := by decide +kernel
theorem dX5_settles_0 : decode cX5_settles 0 = .ok (.iconst 0, 1) := by decide +kernel
theorem dX5_settles_1 : decode cX5_settles 1 = .ok (.istore_n 1, 1) := by decide +kernel
theorem dX5_settles_2 : decode cX5_settles 2 = .ok (.iload_n 1, 1) := by decide +kernel
theorem dX5_settles_3 : decode cX5_settles 3 = .ok (.aload_n 0, 1) := by decide +kernel
theorem dX5_settles_4 : decode cX5_settles 4 = .ok (.getfield 48, 3) := by decide +kernel
theorem dX5_settles_7 : decode cX5_settles 7 = .ok (.sipush 1235, 3) := by decide +kernel
theorem dX5_settles_10 : decode cX5_settles 10 = .ok (.iaload, 1) := by decide +kernel
theorem dX5_settles_11 : decode cX5_settles 11 = .ok (.if_icmp .ge 59, 3) := by decide +kernel
theorem dX5_settles_14 : decode cX5_settles 14 = .ok (.aload_n 0, 1) := by decide +kernel
theorem dX5_settles_15 : decode cX5_settles 15 = .ok (.getfield 48, 3) := by decide +kernel
theorem dX5_settles_18 : decode cX5_settles 18 = .ok (.sipush 1236, 3) := by decide +kernel
theorem dX5_settles_21 : decode cX5_settles 21 = .ok (.iload_n 1, 1) := by decide +kernel
theorem dX5_settles_22 : decode cX5_settles 22 = .ok (.iadd, 1) := by decide +kernel
theorem dX5_settles_23 : decode cX5_settles 23 = .ok (.iaload, 1) := by decide +kernel
theorem dX5_settles_24 : decode cX5_settles 24 = .ok (.istore_n 2, 1) := by decide +kernel
theorem dX5_settles_25 : decode cX5_settles 25 = .ok (.aload_n 0, 1) := by decide +kernel
theorem dX5_settles_26 : decode cX5_settles 26 = .ok (.iload_n 2, 1) := by decide +kernel
theorem dX5_settles_27 : decode cX5_settles 27 = .ok (.bipush 10, 2) := by decide +kernel
theorem dX5_settles_29 : decode cX5_settles 29 = .ok (.idiv, 1) := by decide +kernel
theorem dX5_settles_30 : decode cX5_settles 30 = .ok (.invokevirtual 300, 3) := by decide +kernel
theorem dX5_settles_33 : decode cX5_settles 33 = .ok (.ifCond .ne 9, 3) := by decide +kernel
theorem dX5_settles_36 : decode cX5_settles 36 = .ok (.iinc 1 1, 3) := by decide +kernel
theorem dX5_settles_39 : decode cX5_settles 39 = .ok (.goto (-37), 3) := by decide +kernel
theorem dX5_settles_42 : decode cX5_settles 42 = .ok (.aload_n 0, 1) := by decide +kernel
theorem dX5_settles_43 : decode cX5_settles 43 = .ok (.sipush 1236, 3) := by decide +kernel
theorem dX5_settles_46 : decode cX5_settles 46 = .ok (.sipush 1235, 3) := by decide +kernel
theorem dX5_settles_49 : decode cX5_settles 49 = .ok (.iload_n 1, 1) := by decide +kernel
theorem dX5_settles_50 : decode cX5_settles 50 = .ok (.invokevirtual 303, 3) := by decide +kernel
theorem dX5_settles_53 : decode cX5_settles 53 = .ok (.aload_n 0, 1) := by decide +kernel
theorem dX5_settles_54 : decode cX5_settles 54 = .ok (.iload_n 2, 1) := by decide +kernel
theorem dX5_settles_55 : decode cX5_settles 55 = .ok (.bipush 10, 2) := by decide +kernel
theorem dX5_settles_57 : decode cX5_settles 57 = .ok (.idiv, 1) := by decide +kernel
theorem dX5_settles_58 : decode cX5_settles 58 = .ok (.iload_n 2, 1) := by decide +kernel
theorem dX5_settles_59 : decode cX5_settles 59 = .ok (.bipush 10, 2) := by decide +kernel
theorem dX5_settles_61 : decode cX5_settles 61 = .ok (.irem, 1) := by decide +kernel
theorem dX5_settles_62 : decode cX5_settles 62 = .ok (.invokevirtual 307, 3) := by decide +kernel
theorem dX5_settles_65 : decode cX5_settles 65 = .ok (.iconst 0, 1) := by decide +kernel
theorem dX5_settles_66 : decode cX5_settles 66 = .ok (.istore_n 1, 1) := by decide +kernel
theorem dX5_settles_67 : decode cX5_settles 67 = .ok (.goto (-65), 3) := by decide +kernel
theorem dX5_settles_70 : decode cX5_settles 70 = .ok (.return_, 1) := by decide +kernel
theorem dX5_goes_0 : decode cX5_goes 0 = .ok (.iconst 0, 1) := by decide +kernel
theorem dX5_goes_1 : decode cX5_goes 1 = .ok (.istore_n 2, 1) := by decide +kernel
theorem dX5_goes_2 : decode cX5_goes 2 = .ok (.iload_n 2, 1) := by decide +kernel
theorem dX5_goes_3 : decode cX5_goes 3 = .ok (.iload_n 1, 1) := by decide +kernel
theorem dX5_goes_4 : decode cX5_goes 4 = .ok (.if_icmp .ge 100, 3) := by decide +kernel
theorem dX5_goes_7 : decode cX5_goes 7 = .ok (.aload_n 0, 1) := by decide +kernel
theorem dX5_goes_8 : decode cX5_goes 8 = .ok (.getfield 48, 3) := by decide +kernel
theorem dX5_goes_11 : decode cX5_goes 11 = .ok (.sipush 370, 3) := by decide +kernel
theorem dX5_goes_14 : decode cX5_goes 14 = .ok (.iaload, 1) := by decide +kernel
theorem dX5_goes_15 : decode cX5_goes 15 = .ok (.ifCond .le 89, 3) := by decide +kernel
theorem dX5_goes_18 : decode cX5_goes 18 = .ok (.aload_n 0, 1) := by decide +kernel
theorem dX5_goes_19 : decode cX5_goes 19 = .ok (.getfield 48, 3) := by decide +kernel
theorem dX5_goes_22 : decode cX5_goes 22 = .ok (.sipush 371, 3) := by decide +kernel
theorem dX5_goes_25 : decode cX5_goes 25 = .ok (.iaload, 1) := by decide +kernel
theorem dX5_goes_26 : decode cX5_goes 26 = .ok (.istore_n 3, 1) := by decide +kernel
theorem dX5_goes_27 : decode cX5_goes 27 = .ok (.aload_n 0, 1) := by decide +kernel
theorem dX5_goes_28 : decode cX5_goes 28 = .ok (.sipush 371, 3) := by decide +kernel
theorem dX5_goes_31 : decode cX5_goes 31 = .ok (.sipush 370, 3) := by decide +kernel
theorem dX5_goes_34 : decode cX5_goes 34 = .ok (.iconst 0, 1) := by decide +kernel
theorem dX5_goes_35 : decode cX5_goes 35 = .ok (.invokevirtual 303, 3) := by decide +kernel
theorem dX5_goes_38 : decode cX5_goes 38 = .ok (.iinc 2 1, 3) := by decide +kernel
theorem dX5_goes_41 : decode cX5_goes 41 = .ok (.aload_n 0, 1) := by decide +kernel
theorem dX5_goes_42 : decode cX5_goes 42 = .ok (.iload_n 3, 1) := by decide +kernel
theorem dX5_goes_43 : decode cX5_goes 43 = .ok (.bipush 10, 2) := by decide +kernel
theorem dX5_goes_45 : decode cX5_goes 45 = .ok (.idiv, 1) := by decide +kernel
theorem dX5_goes_46 : decode cX5_goes 46 = .ok (.invokevirtual 300, 3) := by decide +kernel
theorem dX5_goes_49 : decode cX5_goes 49 = .ok (.ifCond .eq 22, 3) := by decide +kernel
theorem dX5_goes_52 : decode cX5_goes 52 = .ok (.aload_n 0, 1) := by decide +kernel
theorem dX5_goes_53 : decode cX5_goes 53 = .ok (.iload_n 3, 1) := by decide +kernel
theorem dX5_goes_54 : decode cX5_goes 54 = .ok (.bipush 10, 2) := by decide +kernel
theorem dX5_goes_56 : decode cX5_goes 56 = .ok (.idiv, 1) := by decide +kernel
theorem dX5_goes_57 : decode cX5_goes 57 = .ok (.iload_n 3, 1) := by decide +kernel
theorem dX5_goes_58 : decode cX5_goes 58 = .ok (.bipush 10, 2) := by decide +kernel
theorem dX5_goes_60 : decode cX5_goes 60 = .ok (.irem, 1) := by decide +kernel
theorem dX5_goes_61 : decode cX5_goes 61 = .ok (.invokevirtual 307, 3) := by decide +kernel
theorem dX5_goes_64 : decode cX5_goes 64 = .ok (.aload_n 0, 1) := by decide +kernel
theorem dX5_goes_65 : decode cX5_goes 65 = .ok (.invokevirtual 310, 3) := by decide +kernel
theorem dX5_goes_68 : decode cX5_goes 68 = .ok (.goto 33, 3) := by decide +kernel
theorem dX5_goes_71 : decode cX5_goes 71 = .ok (.aload_n 0, 1) := by decide +kernel
theorem dX5_goes_72 : decode cX5_goes 72 = .ok (.getfield 48, 3) := by decide +kernel
theorem dX5_goes_75 : decode cX5_goes 75 = .ok (.sipush 1236, 3) := by decide +kernel
theorem dX5_goes_78 : decode cX5_goes 78 = .ok (.aload_n 0, 1) := by decide +kernel
theorem dX5_goes_79 : decode cX5_goes 79 = .ok (.getfield 48, 3) := by decide +kernel
theorem dX5_goes_82 : decode cX5_goes 82 = .ok (.sipush 1235, 3) := by decide +kernel
theorem dX5_goes_85 : decode cX5_goes 85 = .ok (.iaload, 1) := by decide +kernel
theorem dX5_goes_86 : decode cX5_goes 86 = .ok (.iadd, 1) := by decide +kernel
theorem dX5_goes_87 : decode cX5_goes 87 = .ok (.iload_n 3, 1) := by decide +kernel
theorem dX5_goes_88 : decode cX5_goes 88 = .ok (.iastore, 1) := by decide +kernel
theorem dX5_goes_89 : decode cX5_goes 89 = .ok (.aload_n 0, 1) := by decide +kernel
theorem dX5_goes_90 : decode cX5_goes 90 = .ok (.getfield 48, 3) := by decide +kernel
theorem dX5_goes_93 : decode cX5_goes 93 = .ok (.sipush 1235, 3) := by decide +kernel
theorem dX5_goes_96 : decode cX5_goes 96 = .ok (.dup2, 1) := by decide +kernel
theorem dX5_goes_97 : decode cX5_goes 97 = .ok (.iaload, 1) := by decide +kernel
theorem dX5_goes_98 : decode cX5_goes 98 = .ok (.iconst 1, 1) := by decide +kernel
theorem dX5_goes_99 : decode cX5_goes 99 = .ok (.iadd, 1) := by decide +kernel
theorem dX5_goes_100 : decode cX5_goes 100 = .ok (.iastore, 1) := by decide +kernel
theorem dX5_goes_101 : decode cX5_goes 101 = .ok (.goto (-99), 3) := by decide +kernel
theorem dX5_goes_104 : decode cX5_goes 104 = .ok (.iload_n 2, 1) := by decide +kernel
theorem dX5_goes_105 : decode cX5_goes 105 = .ok (.ireturn, 1) := by decide +kernel
theorem dX5_step_0 : decode cX5_step 0 = .ok (.aload_n 0, 1) := by decide +kernel
theorem dX5_step_1 : decode cX5_step 1 = .ok (.iconst 0, 1) := by decide +kernel
theorem dX5_step_2 : decode cX5_step 2 = .ok (.putfield 86, 3) := by decide +kernel
theorem dX5_step_5 : decode cX5_step 5 = .ok (.iload_n 1, 1) := by decide +kernel
theorem dX5_step_6 : decode cX5_step 6 = .ok (.i2l, 1) := by decide +kernel
theorem dX5_step_7 : decode cX5_step 7 = .ok (.lconst 1, 1) := by decide +kernel
theorem dX5_step_8 : decode cX5_step 8 = .ok (.ldc2_w 313, 3) := by decide +kernel
theorem dX5_step_11 : decode cX5_step 11 = .ok (.invokestatic 123, 3) := by decide +kernel
theorem dX5_step_14 : decode cX5_step 14 = .ok (.ifCond .eq 14, 3) := by decide +kernel
theorem dX5_step_17 : decode cX5_step 17 = .ok (.aload_n 0, 1) := by decide +kernel
theorem dX5_step_18 : decode cX5_step 18 = .ok (.getfield 48, 3) := by decide +kernel
theorem dX5_step_21 : decode cX5_step 21 = .ok (.sipush 370, 3) := by decide +kernel
theorem dX5_step_24 : decode cX5_step 24 = .ok (.iaload, 1) := by decide +kernel
theorem dX5_step_25 : decode cX5_step 25 = .ok (.ifCond .ne 5, 3) := by decide +kernel
theorem dX5_step_28 : decode cX5_step 28 = .ok (.iconst (-1), 1) := by decide +kernel
theorem dX5_step_29 : decode cX5_step 29 = .ok (.ireturn, 1) := by decide +kernel
theorem dX5_step_30 : decode cX5_step 30 = .ok (.aload_n 0, 1) := by decide +kernel
theorem dX5_step_31 : decode cX5_step 31 = .ok (.invokevirtual 284, 3) := by decide +kernel
theorem dX5_step_34 : decode cX5_step 34 = .ok (.aload_n 0, 1) := by decide +kernel
theorem dX5_step_35 : decode cX5_step 35 = .ok (.iload_n 1, 1) := by decide +kernel
theorem dX5_step_36 : decode cX5_step 36 = .ok (.invokevirtual 315, 3) := by decide +kernel
theorem dX5_step_39 : decode cX5_step 39 = .ok (.ireturn, 1) := by decide +kernel
theorem dX5_stock_0 : decode cX5_stock 0 = .ok (.aload_n 0, 1) := by decide +kernel
theorem dX5_stock_1 : decode cX5_stock 1 = .ok (.iconst 0, 1) := by decide +kernel
theorem dX5_stock_2 : decode cX5_stock 2 = .ok (.putfield 86, 3) := by decide +kernel
theorem dX5_stock_5 : decode cX5_stock 5 = .ok (.aload_n 0, 1) := by decide +kernel
theorem dX5_stock_6 : decode cX5_stock 6 = .ok (.iload_n 1, 1) := by decide +kernel
theorem dX5_stock_7 : decode cX5_stock 7 = .ok (.invokevirtual 225, 3) := by decide +kernel
theorem dX5_stock_10 : decode cX5_stock 10 = .ok (.ifCond .eq 15, 3) := by decide +kernel
theorem dX5_stock_13 : decode cX5_stock 13 = .ok (.iload_n 2, 1) := by decide +kernel
theorem dX5_stock_14 : decode cX5_stock 14 = .ok (.i2l, 1) := by decide +kernel
theorem dX5_stock_15 : decode cX5_stock 15 = .ok (.lconst 1, 1) := by decide +kernel
theorem dX5_stock_16 : decode cX5_stock 16 = .ok (.ldc2_w 318, 3) := by decide +kernel
theorem dX5_stock_19 : decode cX5_stock 19 = .ok (.invokestatic 123, 3) := by decide +kernel
theorem dX5_stock_22 : decode cX5_stock 22 = .ok (.ifCond .ne 5, 3) := by decide +kernel
theorem dX5_stock_25 : decode cX5_stock 25 = .ok (.iconst (-1), 1) := by decide +kernel
theorem dX5_stock_26 : decode cX5_stock 26 = .ok (.ireturn, 1) := by decide +kernel
theorem dX5_stock_27 : decode cX5_stock 27 = .ok (.aload_n 0, 1) := by decide +kernel
theorem dX5_stock_28 : decode cX5_stock 28 = .ok (.invokevirtual 284, 3) := by decide +kernel
theorem dX5_stock_31 : decode cX5_stock 31 = .ok (.aload_n 0, 1) := by decide +kernel
theorem dX5_stock_32 : decode cX5_stock 32 = .ok (.getfield 48, 3) := by decide +kernel
theorem dX5_stock_35 : decode cX5_stock 35 = .ok (.iload_n 1, 1) := by decide +kernel
theorem dX5_stock_36 : decode cX5_stock 36 = .ok (.aload_n 0, 1) := by decide +kernel
theorem dX5_stock_37 : decode cX5_stock 37 = .ok (.getfield 48, 3) := by decide +kernel
theorem dX5_stock_40 : decode cX5_stock 40 = .ok (.iload_n 1, 1) := by decide +kernel
theorem dX5_stock_41 : decode cX5_stock 41 = .ok (.iaload, 1) := by decide +kernel
theorem dX5_stock_42 : decode cX5_stock 42 = .ok (.iload_n 2, 1) := by decide +kernel
theorem dX5_stock_43 : decode cX5_stock 43 = .ok (.iadd, 1) := by decide +kernel
theorem dX5_stock_44 : decode cX5_stock 44 = .ok (.bipush 99, 2) := by decide +kernel
theorem dX5_stock_46 : decode cX5_stock 46 = .ok (.if_icmp .le 8, 3) := by decide +kernel
theorem dX5_stock_49 : decode cX5_stock 49 = .ok (.bipush 99, 2) := by decide +kernel
theorem dX5_stock_51 : decode cX5_stock 51 = .ok (.goto 11, 3) := by decide +kernel
theorem dX5_stock_54 : decode cX5_stock 54 = .ok (.aload_n 0, 1) := by decide +kernel
theorem dX5_stock_55 : decode cX5_stock 55 = .ok (.getfield 48, 3) := by decide +kernel
theorem dX5_stock_58 : decode cX5_stock 58 = .ok (.iload_n 1, 1) := by decide +kernel
theorem dX5_stock_59 : decode cX5_stock 59 = .ok (.iaload, 1) := by decide +kernel
theorem dX5_stock_60 : decode cX5_stock 60 = .ok (.iload_n 2, 1) := by decide +kernel
theorem dX5_stock_61 : decode cX5_stock 61 = .ok (.iadd, 1) := by decide +kernel
theorem dX5_stock_62 : decode cX5_stock 62 = .ok (.iastore, 1) := by decide +kernel
theorem dX5_stock_63 : decode cX5_stock 63 = .ok (.iconst 0, 1) := by decide +kernel
theorem dX5_stock_64 : decode cX5_stock 64 = .ok (.istore_n 3, 1) := by decide +kernel
theorem dX5_stock_65 : decode cX5_stock 65 = .ok (.iconst 1, 1) := by decide +kernel
theorem dX5_stock_66 : decode cX5_stock 66 = .ok (.aload_n 0, 1) := by decide +kernel
theorem dX5_stock_67 : decode cX5_stock 67 = .ok (.getfield 17, 3) := by decide +kernel
theorem dX5_stock_70 : decode cX5_stock 70 = .ok (.iconst 0, 1) := by decide +kernel
theorem dX5_stock_71 : decode cX5_stock 71 = .ok (.iaload, 1) := by decide +kernel
theorem dX5_stock_72 : decode cX5_stock 72 = .ok (.ishl, 1) := by decide +kernel
theorem dX5_stock_73 : decode cX5_stock 73 = .ok (.iconst 1, 1) := by decide +kernel
theorem dX5_stock_74 : decode cX5_stock 74 = .ok (.isub, 1) := by decide +kernel
theorem dX5_stock_75 : decode cX5_stock 75 = .ok (.istore 4, 2) := by decide +kernel
theorem dX5_stock_77 : decode cX5_stock 77 = .ok (.aload_n 0, 1) := by decide +kernel
theorem dX5_stock_78 : decode cX5_stock 78 = .ok (.iload 4, 2) := by decide +kernel
theorem dX5_stock_80 : decode cX5_stock 80 = .ok (.iconst (-1), 1) := by decide +kernel
theorem dX5_stock_81 : decode cX5_stock 81 = .ok (.invokevirtual 287, 3) := by decide +kernel
theorem dX5_stock_84 : decode cX5_stock 84 = .ok (.istore 5, 2) := by decide +kernel
theorem dX5_stock_86 : decode cX5_stock 86 = .ok (.iload 5, 2) := by decide +kernel
theorem dX5_stock_88 : decode cX5_stock 88 = .ok (.ifCond .lt 87, 3) := by decide +kernel
theorem dX5_stock_91 : decode cX5_stock 91 = .ok (.aload_n 0, 1) := by decide +kernel
theorem dX5_stock_92 : decode cX5_stock 92 = .ok (.getfield 48, 3) := by decide +kernel
theorem dX5_stock_95 : decode cX5_stock 95 = .ok (.iload_n 1, 1) := by decide +kernel
theorem dX5_stock_96 : decode cX5_stock 96 = .ok (.iaload, 1) := by decide +kernel
theorem dX5_stock_97 : decode cX5_stock 97 = .ok (.ifCond .le 65, 3) := by decide +kernel
theorem dX5_stock_100 : decode cX5_stock 100 = .ok (.aload_n 0, 1) := by decide +kernel
theorem dX5_stock_101 : decode cX5_stock 101 = .ok (.getfield 48, 3) := by decide +kernel
theorem dX5_stock_104 : decode cX5_stock 104 = .ok (.sipush 170, 3) := by decide +kernel
theorem dX5_stock_107 : decode cX5_stock 107 = .ok (.bipush 10, 2) := by decide +kernel
theorem dX5_stock_109 : decode cX5_stock 109 = .ok (.iload 5, 2) := by decide +kernel
theorem dX5_stock_111 : decode cX5_stock 111 = .ok (.imul, 1) := by decide +kernel
theorem dX5_stock_112 : decode cX5_stock 112 = .ok (.iadd, 1) := by decide +kernel
theorem dX5_stock_113 : decode cX5_stock 113 = .ok (.iload_n 1, 1) := by decide +kernel
theorem dX5_stock_114 : decode cX5_stock 114 = .ok (.iadd, 1) := by decide +kernel
theorem dX5_stock_115 : decode cX5_stock 115 = .ok (.iaload, 1) := by decide +kernel
theorem dX5_stock_116 : decode cX5_stock 116 = .ok (.ifCond .le 46, 3) := by decide +kernel
theorem dX5_stock_119 : decode cX5_stock 119 = .ok (.aload_n 0, 1) := by decide +kernel
theorem dX5_stock_120 : decode cX5_stock 120 = .ok (.getfield 48, 3) := by decide +kernel
theorem dX5_stock_123 : decode cX5_stock 123 = .ok (.iload_n 1, 1) := by decide +kernel
theorem dX5_stock_124 : decode cX5_stock 124 = .ok (.dup2, 1) := by decide +kernel
theorem dX5_stock_125 : decode cX5_stock 125 = .ok (.iaload, 1) := by decide +kernel
theorem dX5_stock_126 : decode cX5_stock 126 = .ok (.iconst 1, 1) := by decide +kernel
theorem dX5_stock_127 : decode cX5_stock 127 = .ok (.isub, 1) := by decide +kernel
theorem dX5_stock_128 : decode cX5_stock 128 = .ok (.iastore, 1) := by decide +kernel
theorem dX5_stock_129 : decode cX5_stock 129 = .ok (.aload_n 0, 1) := by decide +kernel
theorem dX5_stock_130 : decode cX5_stock 130 = .ok (.getfield 48, 3) := by decide +kernel
theorem dX5_stock_133 : decode cX5_stock 133 = .ok (.sipush 170, 3) := by decide +kernel
theorem dX5_stock_136 : decode cX5_stock 136 = .ok (.bipush 10, 2) := by decide +kernel
theorem dX5_stock_138 : decode cX5_stock 138 = .ok (.iload 5, 2) := by decide +kernel
theorem dX5_stock_140 : decode cX5_stock 140 = .ok (.imul, 1) := by decide +kernel
theorem dX5_stock_141 : decode cX5_stock 141 = .ok (.iadd, 1) := by decide +kernel
theorem dX5_stock_142 : decode cX5_stock 142 = .ok (.iload_n 1, 1) := by decide +kernel
theorem dX5_stock_143 : decode cX5_stock 143 = .ok (.iadd, 1) := by decide +kernel
theorem dX5_stock_144 : decode cX5_stock 144 = .ok (.dup2, 1) := by decide +kernel
theorem dX5_stock_145 : decode cX5_stock 145 = .ok (.iaload, 1) := by decide +kernel
theorem dX5_stock_146 : decode cX5_stock 146 = .ok (.iconst 1, 1) := by decide +kernel
theorem dX5_stock_147 : decode cX5_stock 147 = .ok (.isub, 1) := by decide +kernel
theorem dX5_stock_148 : decode cX5_stock 148 = .ok (.iastore, 1) := by decide +kernel
theorem dX5_stock_149 : decode cX5_stock 149 = .ok (.aload_n 0, 1) := by decide +kernel
theorem dX5_stock_150 : decode cX5_stock 150 = .ok (.iload 5, 2) := by decide +kernel
theorem dX5_stock_152 : decode cX5_stock 152 = .ok (.iload_n 1, 1) := by decide +kernel
theorem dX5_stock_153 : decode cX5_stock 153 = .ok (.invokevirtual 290, 3) := by decide +kernel
theorem dX5_stock_156 : decode cX5_stock 156 = .ok (.iinc 3 1, 3) := by decide +kernel
theorem dX5_stock_159 : decode cX5_stock 159 = .ok (.goto (-68), 3) := by decide +kernel
theorem dX5_stock_162 : decode cX5_stock 162 = .ok (.aload_n 0, 1) := by decide +kernel
theorem dX5_stock_163 : decode cX5_stock 163 = .ok (.iload 4, 2) := by decide +kernel
theorem dX5_stock_165 : decode cX5_stock 165 = .ok (.iload 5, 2) := by decide +kernel
theorem dX5_stock_167 : decode cX5_stock 167 = .ok (.invokevirtual 287, 3) := by decide +kernel
theorem dX5_stock_170 : decode cX5_stock 170 = .ok (.istore 5, 2) := by decide +kernel
theorem dX5_stock_172 : decode cX5_stock 172 = .ok (.goto (-86), 3) := by decide +kernel
theorem dX5_stock_175 : decode cX5_stock 175 = .ok (.iload_n 3, 1) := by decide +kernel
theorem dX5_stock_176 : decode cX5_stock 176 = .ok (.ireturn, 1) := by decide +kernel
theorem dX5_by_0 : decode cX5_by 0 = .ok (.aload_n 0, 1) := by decide +kernel
theorem dX5_by_1 : decode cX5_by 1 = .ok (.iconst 0, 1) := by decide +kernel
theorem dX5_by_2 : decode cX5_by 2 = .ok (.putfield 86, 3) := by decide +kernel
theorem dX5_by_5 : decode cX5_by 5 = .ok (.aload_n 0, 1) := by decide +kernel
theorem dX5_by_6 : decode cX5_by 6 = .ok (.iload_n 1, 1) := by decide +kernel
theorem dX5_by_7 : decode cX5_by 7 = .ok (.invokevirtual 232, 3) := by decide +kernel
theorem dX5_by_10 : decode cX5_by 10 = .ok (.ifCond .eq 16, 3) := by decide +kernel
theorem dX5_by_13 : decode cX5_by 13 = .ok (.aload_n 0, 1) := by decide +kernel
theorem dX5_by_14 : decode cX5_by 14 = .ok (.getfield 48, 3) := by decide +kernel
theorem dX5_by_17 : decode cX5_by 17 = .ok (.sipush 346, 3) := by decide +kernel
theorem dX5_by_20 : decode cX5_by 20 = .ok (.iload_n 1, 1) := by decide +kernel
theorem dX5_by_21 : decode cX5_by 21 = .ok (.iadd, 1) := by decide +kernel
theorem dX5_by_22 : decode cX5_by 22 = .ok (.iaload, 1) := by decide +kernel
theorem dX5_by_23 : decode cX5_by 23 = .ok (.ifCond .ge 5, 3) := by decide +kernel
theorem dX5_by_26 : decode cX5_by 26 = .ok (.iconst (-1), 1) := by decide +kernel
theorem dX5_by_27 : decode cX5_by 27 = .ok (.ireturn, 1) := by decide +kernel
theorem dX5_by_28 : decode cX5_by 28 = .ok (.aload_n 0, 1) := by decide +kernel
theorem dX5_by_29 : decode cX5_by 29 = .ok (.invokevirtual 284, 3) := by decide +kernel
theorem dX5_by_32 : decode cX5_by 32 = .ok (.aload_n 0, 1) := by decide +kernel
theorem dX5_by_33 : decode cX5_by 33 = .ok (.getfield 48, 3) := by decide +kernel
theorem dX5_by_36 : decode cX5_by 36 = .ok (.sipush 346, 3) := by decide +kernel
theorem dX5_by_39 : decode cX5_by 39 = .ok (.iload_n 1, 1) := by decide +kernel
theorem dX5_by_40 : decode cX5_by 40 = .ok (.iadd, 1) := by decide +kernel
theorem dX5_by_41 : decode cX5_by 41 = .ok (.iaload, 1) := by decide +kernel
theorem dX5_by_42 : decode cX5_by 42 = .ok (.istore_n 2, 1) := by decide +kernel
theorem dX5_by_43 : decode cX5_by 43 = .ok (.aload_n 0, 1) := by decide +kernel
theorem dX5_by_44 : decode cX5_by 44 = .ok (.iload_n 1, 1) := by decide +kernel
theorem dX5_by_45 : decode cX5_by 45 = .ok (.invokevirtual 297, 3) := by decide +kernel
theorem dX5_by_48 : decode cX5_by 48 = .ok (.aload_n 0, 1) := by decide +kernel
theorem dX5_by_49 : decode cX5_by 49 = .ok (.getfield 48, 3) := by decide +kernel
theorem dX5_by_52 : decode cX5_by 52 = .ok (.sipush 330, 3) := by decide +kernel
theorem dX5_by_55 : decode cX5_by 55 = .ok (.iload_n 1, 1) := by decide +kernel
theorem dX5_by_56 : decode cX5_by 56 = .ok (.iadd, 1) := by decide +kernel
theorem dX5_by_57 : decode cX5_by 57 = .ok (.iconst 3, 1) := by decide +kernel
theorem dX5_by_58 : decode cX5_by 58 = .ok (.iastore, 1) := by decide +kernel
theorem dX5_by_59 : decode cX5_by 59 = .ok (.aload_n 0, 1) := by decide +kernel
theorem dX5_by_60 : decode cX5_by 60 = .ok (.invokevirtual 310, 3) := by decide +kernel
theorem dX5_by_63 : decode cX5_by 63 = .ok (.iload_n 2, 1) := by decide +kernel
theorem dX5_by_64 : decode cX5_by 64 = .ok (.ireturn, 1) := by decide +kernel
theorem dX5_unitAt_0 : decode cX5_unitAt 0 = .ok (.iload_n 3, 1) := by decide +kernel
theorem dX5_unitAt_1 : decode cX5_unitAt 1 = .ok (.iconst (-1), 1) := by decide +kernel
theorem dX5_unitAt_2 : decode cX5_unitAt 2 = .ok (.if_icmp .ne 10, 3) := by decide +kernel
theorem dX5_unitAt_5 : decode cX5_unitAt 5 = .ok (.aload_n 0, 1) := by decide +kernel
theorem dX5_unitAt_6 : decode cX5_unitAt 6 = .ok (.getfield 48, 3) := by decide +kernel
theorem dX5_unitAt_9 : decode cX5_unitAt 9 = .ok (.iload_n 2, 1) := by decide +kernel
theorem dX5_unitAt_10 : decode cX5_unitAt 10 = .ok (.iaload, 1) := by decide +kernel
theorem dX5_unitAt_11 : decode cX5_unitAt 11 = .ok (.ireturn, 1) := by decide +kernel
theorem dX5_unitAt_12 : decode cX5_unitAt 12 = .ok (.iload_n 3, 1) := by decide +kernel
theorem dX5_unitAt_13 : decode cX5_unitAt 13 = .ok (.i2l, 1) := by decide +kernel
theorem dX5_unitAt_14 : decode cX5_unitAt 14 = .ok (.lconst 0, 1) := by decide +kernel
theorem dX5_unitAt_15 : decode cX5_unitAt 15 = .ok (.aload_n 0, 1) := by decide +kernel
theorem dX5_unitAt_16 : decode cX5_unitAt 16 = .ok (.getfield 48, 3) := by decide +kernel
theorem dX5_unitAt_19 : decode cX5_unitAt 19 = .ok (.iload_n 2, 1) := by decide +kernel
theorem dX5_unitAt_20 : decode cX5_unitAt 20 = .ok (.iaload, 1) := by decide +kernel
theorem dX5_unitAt_21 : decode cX5_unitAt 21 = .ok (.iconst 1, 1) := by decide +kernel
theorem dX5_unitAt_22 : decode cX5_unitAt 22 = .ok (.isub, 1) := by decide +kernel
theorem dX5_unitAt_23 : decode cX5_unitAt 23 = .ok (.i2l, 1) := by decide +kernel
theorem dX5_unitAt_24 : decode cX5_unitAt 24 = .ok (.invokestatic 123, 3) := by decide +kernel
theorem dX5_unitAt_27 : decode cX5_unitAt 27 = .ok (.ifCond .eq 14, 3) := by decide +kernel
theorem dX5_unitAt_30 : decode cX5_unitAt 30 = .ok (.iload 4, 2) := by decide +kernel
theorem dX5_unitAt_32 : decode cX5_unitAt 32 = .ok (.i2l, 1) := by decide +kernel
theorem dX5_unitAt_33 : decode cX5_unitAt 33 = .ok (.lconst 0, 1) := by decide +kernel
theorem dX5_unitAt_34 : decode cX5_unitAt 34 = .ok (.lconst 1, 1) := by decide +kernel
theorem dX5_unitAt_35 : decode cX5_unitAt 35 = .ok (.invokestatic 123, 3) := by decide +kernel
theorem dX5_unitAt_38 : decode cX5_unitAt 38 = .ok (.ifCond .ne 6, 3) := by decide +kernel
theorem dX5_unitAt_41 : decode cX5_unitAt 41 = .ok (.bipush (-2), 2) := by decide +kernel
theorem dX5_unitAt_43 : decode cX5_unitAt 43 = .ok (.ireturn, 1) := by decide +kernel
theorem dX5_unitAt_44 : decode cX5_unitAt 44 = .ok (.iload 4, 2) := by decide +kernel
theorem dX5_unitAt_46 : decode cX5_unitAt 46 = .ok (.ifCond .ne 17, 3) := by decide +kernel
theorem dX5_unitAt_49 : decode cX5_unitAt 49 = .ok (.aload_n 0, 1) := by decide +kernel
theorem dX5_unitAt_50 : decode cX5_unitAt 50 = .ok (.getfield 48, 3) := by decide +kernel
theorem dX5_unitAt_53 : decode cX5_unitAt 53 = .ok (.iload_n 1, 1) := by decide +kernel
theorem dX5_unitAt_54 : decode cX5_unitAt 54 = .ok (.iload_n 3, 1) := by decide +kernel
theorem dX5_unitAt_55 : decode cX5_unitAt 55 = .ok (.iadd, 1) := by decide +kernel
theorem dX5_unitAt_56 : decode cX5_unitAt 56 = .ok (.iaload, 1) := by decide +kernel
theorem dX5_unitAt_57 : decode cX5_unitAt 57 = .ok (.bipush 10, 2) := by decide +kernel
theorem dX5_unitAt_59 : decode cX5_unitAt 59 = .ok (.idiv, 1) := by decide +kernel
theorem dX5_unitAt_60 : decode cX5_unitAt 60 = .ok (.goto 14, 3) := by decide +kernel
theorem dX5_unitAt_63 : decode cX5_unitAt 63 = .ok (.aload_n 0, 1) := by decide +kernel
theorem dX5_unitAt_64 : decode cX5_unitAt 64 = .ok (.getfield 48, 3) := by decide +kernel
theorem dX5_unitAt_67 : decode cX5_unitAt 67 = .ok (.iload_n 1, 1) := by decide +kernel
theorem dX5_unitAt_68 : decode cX5_unitAt 68 = .ok (.iload_n 3, 1) := by decide +kernel
theorem dX5_unitAt_69 : decode cX5_unitAt 69 = .ok (.iadd, 1) := by decide +kernel
theorem dX5_unitAt_70 : decode cX5_unitAt 70 = .ok (.iaload, 1) := by decide +kernel
theorem dX5_unitAt_71 : decode cX5_unitAt 71 = .ok (.bipush 10, 2) := by decide +kernel
theorem dX5_unitAt_73 : decode cX5_unitAt 73 = .ok (.irem, 1) := by decide +kernel
theorem dX5_unitAt_74 : decode cX5_unitAt 74 = .ok (.ireturn, 1) := by decide +kernel
theorem dX5_belt_0 : decode cX5_belt 0 = .ok (.aload_n 0, 1) := by decide +kernel
theorem dX5_belt_1 : decode cX5_belt 1 = .ok (.iconst 0, 1) := by decide +kernel
theorem dX5_belt_2 : decode cX5_belt 2 = .ok (.putfield 86, 3) := by decide +kernel
theorem dX5_belt_5 : decode cX5_belt 5 = .ok (.aload_n 0, 1) := by decide +kernel
theorem dX5_belt_6 : decode cX5_belt 6 = .ok (.sipush 371, 3) := by decide +kernel
theorem dX5_belt_9 : decode cX5_belt 9 = .ok (.sipush 370, 3) := by decide +kernel
theorem dX5_belt_12 : decode cX5_belt 12 = .ok (.iload_n 1, 1) := by decide +kernel
theorem dX5_belt_13 : decode cX5_belt 13 = .ok (.iload_n 2, 1) := by decide +kernel
theorem dX5_belt_14 : decode cX5_belt 14 = .ok (.invokevirtual 320, 3) := by decide +kernel
theorem dX5_belt_17 : decode cX5_belt 17 = .ok (.ireturn, 1) := by decide +kernel
theorem dX5_aside_0 : decode cX5_aside 0 = .ok (.aload_n 0, 1) := by decide +kernel
theorem dX5_aside_1 : decode cX5_aside 1 = .ok (.iconst 0, 1) := by decide +kernel
theorem dX5_aside_2 : decode cX5_aside 2 = .ok (.putfield 86, 3) := by decide +kernel
theorem dX5_aside_5 : decode cX5_aside 5 = .ok (.aload_n 0, 1) := by decide +kernel
theorem dX5_aside_6 : decode cX5_aside 6 = .ok (.sipush 1236, 3) := by decide +kernel
theorem dX5_aside_9 : decode cX5_aside 9 = .ok (.sipush 1235, 3) := by decide +kernel
theorem dX5_aside_12 : decode cX5_aside 12 = .ok (.iload_n 1, 1) := by decide +kernel
theorem dX5_aside_13 : decode cX5_aside 13 = .ok (.iload_n 2, 1) := by decide +kernel
theorem dX5_aside_14 : decode cX5_aside 14 = .ok (.invokevirtual 320, 3) := by decide +kernel
theorem dX5_aside_17 : decode cX5_aside 17 = .ok (.ireturn, 1) := by decide +kernel
theorem dX5_hole_0 : decode cX5_hole 0 = .ok (.aload_n 0, 1) := by decide +kernel
theorem dX5_hole_1 : decode cX5_hole 1 = .ok (.iconst 0, 1) := by decide +kernel
theorem dX5_hole_2 : decode cX5_hole 2 = .ok (.putfield 86, 3) := by decide +kernel
theorem dX5_hole_5 : decode cX5_hole 5 = .ok (.iload_n 1, 1) := by decide +kernel
theorem dX5_hole_6 : decode cX5_hole 6 = .ok (.i2l, 1) := by decide +kernel
theorem dX5_hole_7 : decode cX5_hole 7 = .ok (.lconst 0, 1) := by decide +kernel
theorem dX5_hole_8 : decode cX5_hole 8 = .ok (.aload_n 0, 1) := by decide +kernel
theorem dX5_hole_9 : decode cX5_hole 9 = .ok (.getfield 20, 3) := by decide +kernel
theorem dX5_hole_12 : decode cX5_hole 12 = .ok (.iconst 0, 1) := by decide +kernel
theorem dX5_hole_13 : decode cX5_hole 13 = .ok (.iaload, 1) := by decide +kernel
theorem dX5_hole_14 : decode cX5_hole 14 = .ok (.iconst 1, 1) := by decide +kernel
theorem dX5_hole_15 : decode cX5_hole 15 = .ok (.isub, 1) := by decide +kernel
theorem dX5_hole_16 : decode cX5_hole 16 = .ok (.i2l, 1) := by decide +kernel
theorem dX5_hole_17 : decode cX5_hole 17 = .ok (.invokestatic 123, 3) := by decide +kernel
theorem dX5_hole_20 : decode cX5_hole 20 = .ok (.ifCond .eq 16, 3) := by decide +kernel
theorem dX5_hole_23 : decode cX5_hole 23 = .ok (.aload_n 0, 1) := by decide +kernel
theorem dX5_hole_24 : decode cX5_hole 24 = .ok (.getfield 48, 3) := by decide +kernel
theorem dX5_hole_27 : decode cX5_hole 27 = .ok (.sipush 362, 3) := by decide +kernel
theorem dX5_hole_30 : decode cX5_hole 30 = .ok (.iload_n 1, 1) := by decide +kernel
theorem dX5_hole_31 : decode cX5_hole 31 = .ok (.iadd, 1) := by decide +kernel
theorem dX5_hole_32 : decode cX5_hole 32 = .ok (.iaload, 1) := by decide +kernel
theorem dX5_hole_33 : decode cX5_hole 33 = .ok (.goto 5, 3) := by decide +kernel
theorem dX5_hole_36 : decode cX5_hole 36 = .ok (.bipush (-2), 2) := by decide +kernel
theorem dX5_hole_38 : decode cX5_hole 38 = .ok (.ireturn, 1) := by decide +kernel
theorem dX5_whole_0 : decode cX5_whole 0 = .ok (.aload_n 0, 1) := by decide +kernel
theorem dX5_whole_1 : decode cX5_whole 1 = .ok (.iconst 0, 1) := by decide +kernel
theorem dX5_whole_2 : decode cX5_whole 2 = .ok (.putfield 86, 3) := by decide +kernel
theorem dX5_whole_5 : decode cX5_whole 5 = .ok (.iload_n 1, 1) := by decide +kernel
theorem dX5_whole_6 : decode cX5_whole 6 = .ok (.iconst (-1), 1) := by decide +kernel
theorem dX5_whole_7 : decode cX5_whole 7 = .ok (.if_icmp .ne 14, 3) := by decide +kernel
theorem dX5_whole_10 : decode cX5_whole 10 = .ok (.aload_n 0, 1) := by decide +kernel
theorem dX5_whole_11 : decode cX5_whole 11 = .ok (.getfield 48, 3) := by decide +kernel
theorem dX5_whole_14 : decode cX5_whole 14 = .ok (.sipush 2100, 3) := by decide +kernel
theorem dX5_whole_17 : decode cX5_whole 17 = .ok (.iaload, 1) := by decide +kernel
theorem dX5_whole_18 : decode cX5_whole 18 = .ok (.goto 38, 3) := by decide +kernel
theorem dX5_whole_21 : decode cX5_whole 21 = .ok (.iload_n 1, 1) := by decide +kernel
theorem dX5_whole_22 : decode cX5_whole 22 = .ok (.i2l, 1) := by decide +kernel
theorem dX5_whole_23 : decode cX5_whole 23 = .ok (.lconst 0, 1) := by decide +kernel
theorem dX5_whole_24 : decode cX5_whole 24 = .ok (.aload_n 0, 1) := by decide +kernel
theorem dX5_whole_25 : decode cX5_whole 25 = .ok (.getfield 48, 3) := by decide +kernel
theorem dX5_whole_28 : decode cX5_whole 28 = .ok (.sipush 2100, 3) := by decide +kernel
theorem dX5_whole_31 : decode cX5_whole 31 = .ok (.iaload, 1) := by decide +kernel
theorem dX5_whole_32 : decode cX5_whole 32 = .ok (.iconst 1, 1) := by decide +kernel
theorem dX5_whole_33 : decode cX5_whole 33 = .ok (.isub, 1) := by decide +kernel
theorem dX5_whole_34 : decode cX5_whole 34 = .ok (.i2l, 1) := by decide +kernel
theorem dX5_whole_35 : decode cX5_whole 35 = .ok (.invokestatic 123, 3) := by decide +kernel
theorem dX5_whole_38 : decode cX5_whole 38 = .ok (.ifCond .eq 16, 3) := by decide +kernel
theorem dX5_whole_41 : decode cX5_whole 41 = .ok (.aload_n 0, 1) := by decide +kernel
theorem dX5_whole_42 : decode cX5_whole 42 = .ok (.getfield 48, 3) := by decide +kernel
theorem dX5_whole_45 : decode cX5_whole 45 = .ok (.sipush 2101, 3) := by decide +kernel
theorem dX5_whole_48 : decode cX5_whole 48 = .ok (.iload_n 1, 1) := by decide +kernel
theorem dX5_whole_49 : decode cX5_whole 49 = .ok (.iadd, 1) := by decide +kernel
theorem dX5_whole_50 : decode cX5_whole 50 = .ok (.iaload, 1) := by decide +kernel
theorem dX5_whole_51 : decode cX5_whole 51 = .ok (.goto 5, 3) := by decide +kernel
theorem dX5_whole_54 : decode cX5_whole 54 = .ok (.bipush (-2), 2) := by decide +kernel
theorem dX5_whole_56 : decode cX5_whole 56 = .ok (.ireturn, 1) := by decide +kernel
theorem dX5_stuck_0 : decode cX5_stuck 0 = .ok (.aload_n 0, 1) := by decide +kernel
theorem dX5_stuck_1 : decode cX5_stuck 1 = .ok (.iconst 0, 1) := by decide +kernel
theorem dX5_stuck_2 : decode cX5_stuck 2 = .ok (.putfield 86, 3) := by decide +kernel
theorem dX5_stuck_5 : decode cX5_stuck 5 = .ok (.iconst 0, 1) := by decide +kernel
theorem dX5_stuck_6 : decode cX5_stuck 6 = .ok (.istore_n 1, 1) := by decide +kernel
theorem dX5_stuck_7 : decode cX5_stuck 7 = .ok (.iconst 0, 1) := by decide +kernel
theorem dX5_stuck_8 : decode cX5_stuck 8 = .ok (.istore_n 2, 1) := by decide +kernel
theorem dX5_stuck_9 : decode cX5_stuck 9 = .ok (.iload_n 2, 1) := by decide +kernel
theorem dX5_stuck_10 : decode cX5_stuck 10 = .ok (.aload_n 0, 1) := by decide +kernel
theorem dX5_stuck_11 : decode cX5_stuck 11 = .ok (.getfield 17, 3) := by decide +kernel
theorem dX5_stuck_14 : decode cX5_stuck 14 = .ok (.iconst 0, 1) := by decide +kernel
theorem dX5_stuck_15 : decode cX5_stuck 15 = .ok (.iaload, 1) := by decide +kernel
theorem dX5_stuck_16 : decode cX5_stuck 16 = .ok (.if_icmp .ge 57, 3) := by decide +kernel
theorem dX5_stuck_19 : decode cX5_stuck 19 = .ok (.iload_n 1, 1) := by decide +kernel
theorem dX5_stuck_20 : decode cX5_stuck 20 = .ok (.aload_n 0, 1) := by decide +kernel
theorem dX5_stuck_21 : decode cX5_stuck 21 = .ok (.getfield 48, 3) := by decide +kernel
theorem dX5_stuck_24 : decode cX5_stuck 24 = .ok (.sipush 330, 3) := by decide +kernel
theorem dX5_stuck_27 : decode cX5_stuck 27 = .ok (.iload_n 2, 1) := by decide +kernel
theorem dX5_stuck_28 : decode cX5_stuck 28 = .ok (.iadd, 1) := by decide +kernel
theorem dX5_stuck_29 : decode cX5_stuck 29 = .ok (.iaload, 1) := by decide +kernel
theorem dX5_stuck_30 : decode cX5_stuck 30 = .ok (.iconst 2, 1) := by decide +kernel
theorem dX5_stuck_31 : decode cX5_stuck 31 = .ok (.if_icmp .ne 33, 3) := by decide +kernel
theorem dX5_stuck_34 : decode cX5_stuck 34 = .ok (.aload_n 0, 1) := by decide +kernel
theorem dX5_stuck_35 : decode cX5_stuck 35 = .ok (.sipush 170, 3) := by decide +kernel
theorem dX5_stuck_38 : decode cX5_stuck 38 = .ok (.iload_n 2, 1) := by decide +kernel
theorem dX5_stuck_39 : decode cX5_stuck 39 = .ok (.invokevirtual 240, 3) := by decide +kernel
theorem dX5_stuck_42 : decode cX5_stuck 42 = .ok (.aload_n 0, 1) := by decide +kernel
theorem dX5_stuck_43 : decode cX5_stuck 43 = .ok (.iload_n 2, 1) := by decide +kernel
theorem dX5_stuck_44 : decode cX5_stuck 44 = .ok (.invokevirtual 237, 3) := by decide +kernel
theorem dX5_stuck_47 : decode cX5_stuck 47 = .ok (.aload_n 0, 1) := by decide +kernel
theorem dX5_stuck_48 : decode cX5_stuck 48 = .ok (.bipush 10, 2) := by decide +kernel
theorem dX5_stuck_50 : decode cX5_stuck 50 = .ok (.iload_n 2, 1) := by decide +kernel
theorem dX5_stuck_51 : decode cX5_stuck 51 = .ok (.invokevirtual 240, 3) := by decide +kernel
theorem dX5_stuck_54 : decode cX5_stuck 54 = .ok (.isub, 1) := by decide +kernel
theorem dX5_stuck_55 : decode cX5_stuck 55 = .ok (.if_icmp .ne 9, 3) := by decide +kernel
theorem dX5_stuck_58 : decode cX5_stuck 58 = .ok (.iconst 1, 1) := by decide +kernel
theorem dX5_stuck_59 : decode cX5_stuck 59 = .ok (.iload_n 2, 1) := by decide +kernel
theorem dX5_stuck_60 : decode cX5_stuck 60 = .ok (.ishl, 1) := by decide +kernel
theorem dX5_stuck_61 : decode cX5_stuck 61 = .ok (.goto 4, 3) := by decide +kernel
theorem dX5_stuck_64 : decode cX5_stuck 64 = .ok (.iconst 0, 1) := by decide +kernel
theorem dX5_stuck_65 : decode cX5_stuck 65 = .ok (.ior, 1) := by decide +kernel
theorem dX5_stuck_66 : decode cX5_stuck 66 = .ok (.istore_n 1, 1) := by decide +kernel
theorem dX5_stuck_67 : decode cX5_stuck 67 = .ok (.iinc 2 1, 3) := by decide +kernel
theorem dX5_stuck_70 : decode cX5_stuck 70 = .ok (.goto (-61), 3) := by decide +kernel
theorem dX5_stuck_73 : decode cX5_stuck 73 = .ok (.iload_n 1, 1) := by decide +kernel
theorem dX5_stuck_74 : decode cX5_stuck 74 = .ok (.ireturn, 1) := by decide +kernel
theorem dX5_needsBy_0 : decode cX5_needsBy 0 = .ok (.iconst 0, 1) := by decide +kernel
theorem dX5_needsBy_1 : decode cX5_needsBy 1 = .ok (.istore_n 3, 1) := by decide +kernel
theorem dX5_needsBy_2 : decode cX5_needsBy 2 = .ok (.iconst 0, 1) := by decide +kernel
theorem dX5_needsBy_3 : decode cX5_needsBy 3 = .ok (.istore 4, 2) := by decide +kernel
theorem dX5_needsBy_5 : decode cX5_needsBy 5 = .ok (.iconst 0, 1) := by decide +kernel
theorem dX5_needsBy_6 : decode cX5_needsBy 6 = .ok (.istore 5, 2) := by decide +kernel
theorem dX5_needsBy_8 : decode cX5_needsBy 8 = .ok (.iload 5, 2) := by decide +kernel
theorem dX5_needsBy_10 : decode cX5_needsBy 10 = .ok (.bipush 16, 2) := by decide +kernel
theorem dX5_needsBy_12 : decode cX5_needsBy 12 = .ok (.if_icmp .ge 17, 3) := by decide +kernel
theorem dX5_needsBy_15 : decode cX5_needsBy 15 = .ok (.aload_n 0, 1) := by decide +kernel
theorem dX5_needsBy_16 : decode cX5_needsBy 16 = .ok (.getfield 70, 3) := by decide +kernel
theorem dX5_needsBy_19 : decode cX5_needsBy 19 = .ok (.iload 5, 2) := by decide +kernel
theorem dX5_needsBy_21 : decode cX5_needsBy 21 = .ok (.iconst 0, 1) := by decide +kernel
theorem dX5_needsBy_22 : decode cX5_needsBy 22 = .ok (.iastore, 1) := by decide +kernel
theorem dX5_needsBy_23 : decode cX5_needsBy 23 = .ok (.iinc 5 1, 3) := by decide +kernel
theorem dX5_needsBy_26 : decode cX5_needsBy 26 = .ok (.goto (-18), 3) := by decide +kernel
theorem dX5_needsBy_29 : decode cX5_needsBy 29 = .ok (.iconst 0, 1) := by decide +kernel
theorem dX5_needsBy_30 : decode cX5_needsBy 30 = .ok (.istore 5, 2) := by decide +kernel
theorem dX5_needsBy_32 : decode cX5_needsBy 32 = .ok (.iload 5, 2) := by decide +kernel
theorem dX5_needsBy_34 : decode cX5_needsBy 34 = .ok (.aload_n 0, 1) := by decide +kernel
theorem dX5_needsBy_35 : decode cX5_needsBy 35 = .ok (.getfield 272, 3) := by decide +kernel
theorem dX5_needsBy_38 : decode cX5_needsBy 38 = .ok (.if_icmp .ge 154, 3) := by decide +kernel
theorem dX5_needsBy_41 : decode cX5_needsBy 41 = .ok (.aload_n 0, 1) := by decide +kernel
theorem dX5_needsBy_42 : decode cX5_needsBy 42 = .ok (.getfield 64, 3) := by decide +kernel
theorem dX5_needsBy_45 : decode cX5_needsBy 45 = .ok (.aload_n 2, 1) := by decide +kernel
theorem dX5_needsBy_46 : decode cX5_needsBy 46 = .ok (.iload 5, 2) := by decide +kernel
theorem dX5_needsBy_48 : decode cX5_needsBy 48 = .ok (.iaload, 1) := by decide +kernel
theorem dX5_needsBy_49 : decode cX5_needsBy 49 = .ok (.iaload, 1) := by decide +kernel
theorem dX5_needsBy_50 : decode cX5_needsBy 50 = .ok (.istore 6, 2) := by decide +kernel
theorem dX5_needsBy_52 : decode cX5_needsBy 52 = .ok (.aload_n 0, 1) := by decide +kernel
theorem dX5_needsBy_53 : decode cX5_needsBy 53 = .ok (.getfield 67, 3) := by decide +kernel
theorem dX5_needsBy_56 : decode cX5_needsBy 56 = .ok (.aload_n 2, 1) := by decide +kernel
theorem dX5_needsBy_57 : decode cX5_needsBy 57 = .ok (.iload 5, 2) := by decide +kernel
theorem dX5_needsBy_59 : decode cX5_needsBy 59 = .ok (.iaload, 1) := by decide +kernel
theorem dX5_needsBy_60 : decode cX5_needsBy 60 = .ok (.iaload, 1) := by decide +kernel
theorem dX5_needsBy_61 : decode cX5_needsBy 61 = .ok (.istore 7, 2) := by decide +kernel
theorem dX5_needsBy_63 : decode cX5_needsBy 63 = .ok (.aload_n 0, 1) := by decide +kernel
theorem dX5_needsBy_64 : decode cX5_needsBy 64 = .ok (.iload_n 1, 1) := by decide +kernel
theorem dX5_needsBy_65 : decode cX5_needsBy 65 = .ok (.iconst (-1), 1) := by decide +kernel
theorem dX5_needsBy_66 : decode cX5_needsBy 66 = .ok (.invokevirtual 287, 3) := by decide +kernel
theorem dX5_needsBy_69 : decode cX5_needsBy 69 = .ok (.istore 8, 2) := by decide +kernel
theorem dX5_needsBy_71 : decode cX5_needsBy 71 = .ok (.iload 8, 2) := by decide +kernel
theorem dX5_needsBy_73 : decode cX5_needsBy 73 = .ok (.ifCond .lt 113, 3) := by decide +kernel
theorem dX5_needsBy_76 : decode cX5_needsBy 76 = .ok (.iconst 0, 1) := by decide +kernel
theorem dX5_needsBy_77 : decode cX5_needsBy 77 = .ok (.istore 9, 2) := by decide +kernel
theorem dX5_needsBy_79 : decode cX5_needsBy 79 = .ok (.iload 9, 2) := by decide +kernel
theorem dX5_needsBy_81 : decode cX5_needsBy 81 = .ok (.aload_n 0, 1) := by decide +kernel
theorem dX5_needsBy_82 : decode cX5_needsBy 82 = .ok (.getfield 45, 3) := by decide +kernel
theorem dX5_needsBy_85 : decode cX5_needsBy 85 = .ok (.bipush 10, 2) := by decide +kernel
theorem dX5_needsBy_87 : decode cX5_needsBy 87 = .ok (.iload 8, 2) := by decide +kernel
theorem dX5_needsBy_89 : decode cX5_needsBy 89 = .ok (.imul, 1) := by decide +kernel
theorem dX5_needsBy_90 : decode cX5_needsBy 90 = .ok (.iload 6, 2) := by decide +kernel
theorem dX5_needsBy_92 : decode cX5_needsBy 92 = .ok (.iadd, 1) := by decide +kernel
theorem dX5_needsBy_93 : decode cX5_needsBy 93 = .ok (.iaload, 1) := by decide +kernel
theorem dX5_needsBy_94 : decode cX5_needsBy 94 = .ok (.if_icmp .ge 80, 3) := by decide +kernel
theorem dX5_needsBy_97 : decode cX5_needsBy 97 = .ok (.iload 7, 2) := by decide +kernel
theorem dX5_needsBy_99 : decode cX5_needsBy 99 = .ok (.ifCond .le 75, 3) := by decide +kernel
theorem dX5_needsBy_102 : decode cX5_needsBy 102 = .ok (.iinc 7 (-1), 3) := by decide +kernel
theorem dX5_needsBy_105 : decode cX5_needsBy 105 = .ok (.iload_n 3, 1) := by decide +kernel
theorem dX5_needsBy_106 : decode cX5_needsBy 106 = .ok (.iconst 1, 1) := by decide +kernel
theorem dX5_needsBy_107 : decode cX5_needsBy 107 = .ok (.iload 8, 2) := by decide +kernel
theorem dX5_needsBy_109 : decode cX5_needsBy 109 = .ok (.ishl, 1) := by decide +kernel
theorem dX5_needsBy_110 : decode cX5_needsBy 110 = .ok (.ior, 1) := by decide +kernel
theorem dX5_needsBy_111 : decode cX5_needsBy 111 = .ok (.istore_n 3, 1) := by decide +kernel
theorem dX5_needsBy_112 : decode cX5_needsBy 112 = .ok (.iload 4, 2) := by decide +kernel
theorem dX5_needsBy_114 : decode cX5_needsBy 114 = .ok (.iload_n 3, 1) := by decide +kernel
theorem dX5_needsBy_115 : decode cX5_needsBy 115 = .ok (.invokestatic 253, 3) := by decide +kernel
theorem dX5_needsBy_118 : decode cX5_needsBy 118 = .ok (.if_icmp .le 8, 3) := by decide +kernel
theorem dX5_needsBy_121 : decode cX5_needsBy 121 = .ok (.iload 4, 2) := by decide +kernel
theorem dX5_needsBy_123 : decode cX5_needsBy 123 = .ok (.goto 7, 3) := by decide +kernel
theorem dX5_needsBy_126 : decode cX5_needsBy 126 = .ok (.iload_n 3, 1) := by decide +kernel
theorem dX5_needsBy_127 : decode cX5_needsBy 127 = .ok (.invokestatic 253, 3) := by decide +kernel
theorem dX5_needsBy_130 : decode cX5_needsBy 130 = .ok (.istore 4, 2) := by decide +kernel
theorem dX5_needsBy_132 : decode cX5_needsBy 132 = .ok (.aload_n 0, 1) := by decide +kernel
theorem dX5_needsBy_133 : decode cX5_needsBy 133 = .ok (.getfield 70, 3) := by decide +kernel
theorem dX5_needsBy_136 : decode cX5_needsBy 136 = .ok (.iload 8, 2) := by decide +kernel
theorem dX5_needsBy_138 : decode cX5_needsBy 138 = .ok (.dup2, 1) := by decide +kernel
theorem dX5_needsBy_139 : decode cX5_needsBy 139 = .ok (.iaload, 1) := by decide +kernel
theorem dX5_needsBy_140 : decode cX5_needsBy 140 = .ok (.iconst 1, 1) := by decide +kernel
theorem dX5_needsBy_141 : decode cX5_needsBy 141 = .ok (.iadd, 1) := by decide +kernel
theorem dX5_needsBy_142 : decode cX5_needsBy 142 = .ok (.iastore, 1) := by decide +kernel
theorem dX5_needsBy_143 : decode cX5_needsBy 143 = .ok (.aload_n 0, 1) := by decide +kernel
theorem dX5_needsBy_144 : decode cX5_needsBy 144 = .ok (.getfield 70, 3) := by decide +kernel
theorem dX5_needsBy_147 : decode cX5_needsBy 147 = .ok (.iload 8, 2) := by decide +kernel
theorem dX5_needsBy_149 : decode cX5_needsBy 149 = .ok (.iaload, 1) := by decide +kernel
theorem dX5_needsBy_150 : decode cX5_needsBy 150 = .ok (.aload_n 0, 1) := by decide +kernel
theorem dX5_needsBy_151 : decode cX5_needsBy 151 = .ok (.iload 8, 2) := by decide +kernel
theorem dX5_needsBy_153 : decode cX5_needsBy 153 = .ok (.invokevirtual 237, 3) := by decide +kernel
theorem dX5_needsBy_156 : decode cX5_needsBy 156 = .ok (.if_icmp .ne 12, 3) := by decide +kernel
theorem dX5_needsBy_159 : decode cX5_needsBy 159 = .ok (.iload_n 3, 1) := by decide +kernel
theorem dX5_needsBy_160 : decode cX5_needsBy 160 = .ok (.iconst 1, 1) := by decide +kernel
theorem dX5_needsBy_161 : decode cX5_needsBy 161 = .ok (.iload 8, 2) := by decide +kernel
theorem dX5_needsBy_163 : decode cX5_needsBy 163 = .ok (.ishl, 1) := by decide +kernel
theorem dX5_needsBy_164 : decode cX5_needsBy 164 = .ok (.iconst (-1), 1) := by decide +kernel
theorem dX5_needsBy_165 : decode cX5_needsBy 165 = .ok (.ixor, 1) := by decide +kernel
theorem dX5_needsBy_166 : decode cX5_needsBy 166 = .ok (.iand, 1) := by decide +kernel
theorem dX5_needsBy_167 : decode cX5_needsBy 167 = .ok (.istore_n 3, 1) := by decide +kernel
theorem dX5_needsBy_168 : decode cX5_needsBy 168 = .ok (.iinc 9 1, 3) := by decide +kernel
theorem dX5_needsBy_171 : decode cX5_needsBy 171 = .ok (.goto (-92), 3) := by decide +kernel
theorem dX5_needsBy_174 : decode cX5_needsBy 174 = .ok (.aload_n 0, 1) := by decide +kernel
theorem dX5_needsBy_175 : decode cX5_needsBy 175 = .ok (.iload_n 1, 1) := by decide +kernel
theorem dX5_needsBy_176 : decode cX5_needsBy 176 = .ok (.iload 8, 2) := by decide +kernel
theorem dX5_needsBy_178 : decode cX5_needsBy 178 = .ok (.invokevirtual 287, 3) := by decide +kernel
theorem dX5_needsBy_181 : decode cX5_needsBy 181 = .ok (.istore 8, 2) := by decide +kernel
theorem dX5_needsBy_183 : decode cX5_needsBy 183 = .ok (.goto (-112), 3) := by decide +kernel
theorem dX5_needsBy_186 : decode cX5_needsBy 186 = .ok (.iinc 5 1, 3) := by decide +kernel
theorem dX5_needsBy_189 : decode cX5_needsBy 189 = .ok (.goto (-157), 3) := by decide +kernel
theorem dX5_needsBy_192 : decode cX5_needsBy 192 = .ok (.iload 4, 2) := by decide +kernel
theorem dX5_needsBy_194 : decode cX5_needsBy 194 = .ok (.ireturn, 1) := by decide +kernel
theorem dX5_needs_0 : decode cX5_needs 0 = .ok (.aload_n 0, 1) := by decide +kernel
theorem dX5_needs_1 : decode cX5_needs 1 = .ok (.iconst 0, 1) := by decide +kernel
theorem dX5_needs_2 : decode cX5_needs 2 = .ok (.putfield 86, 3) := by decide +kernel
theorem dX5_needs_5 : decode cX5_needs 5 = .ok (.aload_n 0, 1) := by decide +kernel
theorem dX5_needs_6 : decode cX5_needs 6 = .ok (.invokevirtual 269, 3) := by decide +kernel
theorem dX5_needs_9 : decode cX5_needs 9 = .ok (.istore_n 1, 1) := by decide +kernel
theorem dX5_needs_10 : decode cX5_needs 10 = .ok (.aload_n 0, 1) := by decide +kernel
theorem dX5_needs_11 : decode cX5_needs 11 = .ok (.iload_n 1, 1) := by decide +kernel
theorem dX5_needs_12 : decode cX5_needs 12 = .ok (.invokevirtual 275, 3) := by decide +kernel
theorem dX5_needs_15 : decode cX5_needs 15 = .ok (.iconst 0, 1) := by decide +kernel
theorem dX5_needs_16 : decode cX5_needs 16 = .ok (.istore_n 2, 1) := by decide +kernel
theorem dX5_needs_17 : decode cX5_needs 17 = .ok (.iload_n 2, 1) := by decide +kernel
theorem dX5_needs_18 : decode cX5_needs 18 = .ok (.aload_n 0, 1) := by decide +kernel
theorem dX5_needs_19 : decode cX5_needs 19 = .ok (.getfield 272, 3) := by decide +kernel
theorem dX5_needs_22 : decode cX5_needs 22 = .ok (.if_icmp .ge 16, 3) := by decide +kernel
theorem dX5_needs_25 : decode cX5_needs 25 = .ok (.aload_n 0, 1) := by decide +kernel
theorem dX5_needs_26 : decode cX5_needs 26 = .ok (.getfield 73, 3) := by decide +kernel
theorem dX5_needs_29 : decode cX5_needs 29 = .ok (.iload_n 2, 1) := by decide +kernel
theorem dX5_needs_30 : decode cX5_needs 30 = .ok (.iload_n 2, 1) := by decide +kernel
theorem dX5_needs_31 : decode cX5_needs 31 = .ok (.iastore, 1) := by decide +kernel
theorem dX5_needs_32 : decode cX5_needs 32 = .ok (.iinc 2 1, 3) := by decide +kernel
theorem dX5_needs_35 : decode cX5_needs 35 = .ok (.goto (-18), 3) := by decide +kernel
theorem dX5_needs_38 : decode cX5_needs 38 = .ok (.aload_n 0, 1) := by decide +kernel
theorem dX5_needs_39 : decode cX5_needs 39 = .ok (.iload_n 1, 1) := by decide +kernel
theorem dX5_needs_40 : decode cX5_needs 40 = .ok (.aload_n 0, 1) := by decide +kernel
theorem dX5_needs_41 : decode cX5_needs 41 = .ok (.getfield 73, 3) := by decide +kernel
theorem dX5_needs_44 : decode cX5_needs 44 = .ok (.invokevirtual 324, 3) := by decide +kernel
theorem dX5_needs_47 : decode cX5_needs 47 = .ok (.ireturn, 1) := by decide +kernel
theorem dX5_pickAbove_0 : decode cX5_pickAbove 0 = .ok (.iconst (-1), 1) := by decide +kernel
theorem dX5_pickAbove_1 : decode cX5_pickAbove 1 = .ok (.istore_n 2, 1) := by decide +kernel
theorem dX5_pickAbove_2 : decode cX5_pickAbove 2 = .ok (.iconst 0, 1) := by decide +kernel
theorem dX5_pickAbove_3 : decode cX5_pickAbove 3 = .ok (.istore_n 3, 1) := by decide +kernel
theorem dX5_pickAbove_4 : decode cX5_pickAbove 4 = .ok (.iload_n 3, 1) := by decide +kernel
theorem dX5_pickAbove_5 : decode cX5_pickAbove 5 = .ok (.aload_n 0, 1) := by decide +kernel
theorem dX5_pickAbove_6 : decode cX5_pickAbove 6 = .ok (.getfield 272, 3) := by decide +kernel
theorem dX5_pickAbove_9 : decode cX5_pickAbove 9 = .ok (.if_icmp .ge 40, 3) := by decide +kernel
theorem dX5_pickAbove_12 : decode cX5_pickAbove 12 = .ok (.aload_n 0, 1) := by decide +kernel
theorem dX5_pickAbove_13 : decode cX5_pickAbove 13 = .ok (.getfield 64, 3) := by decide +kernel
theorem dX5_pickAbove_16 : decode cX5_pickAbove 16 = .ok (.iload_n 3, 1) := by decide +kernel
theorem dX5_pickAbove_17 : decode cX5_pickAbove 17 = .ok (.iaload, 1) := by decide +kernel
theorem dX5_pickAbove_18 : decode cX5_pickAbove 18 = .ok (.iload_n 1, 1) := by decide +kernel
theorem dX5_pickAbove_19 : decode cX5_pickAbove 19 = .ok (.if_icmp .le 24, 3) := by decide +kernel
theorem dX5_pickAbove_22 : decode cX5_pickAbove 22 = .ok (.iload_n 2, 1) := by decide +kernel
theorem dX5_pickAbove_23 : decode cX5_pickAbove 23 = .ok (.ifCond .lt 18, 3) := by decide +kernel
theorem dX5_pickAbove_26 : decode cX5_pickAbove 26 = .ok (.aload_n 0, 1) := by decide +kernel
theorem dX5_pickAbove_27 : decode cX5_pickAbove 27 = .ok (.getfield 64, 3) := by decide +kernel
theorem dX5_pickAbove_30 : decode cX5_pickAbove 30 = .ok (.iload_n 3, 1) := by decide +kernel
theorem dX5_pickAbove_31 : decode cX5_pickAbove 31 = .ok (.iaload, 1) := by decide +kernel
theorem dX5_pickAbove_32 : decode cX5_pickAbove 32 = .ok (.aload_n 0, 1) := by decide +kernel
theorem dX5_pickAbove_33 : decode cX5_pickAbove 33 = .ok (.getfield 64, 3) := by decide +kernel
theorem dX5_pickAbove_36 : decode cX5_pickAbove 36 = .ok (.iload_n 2, 1) := by decide +kernel
theorem dX5_pickAbove_37 : decode cX5_pickAbove 37 = .ok (.iaload, 1) := by decide +kernel
theorem dX5_pickAbove_38 : decode cX5_pickAbove 38 = .ok (.if_icmp .ge 5, 3) := by decide +kernel
theorem dX5_pickAbove_41 : decode cX5_pickAbove 41 = .ok (.iload_n 3, 1) := by decide +kernel
theorem dX5_pickAbove_42 : decode cX5_pickAbove 42 = .ok (.istore_n 2, 1) := by decide +kernel
theorem dX5_pickAbove_43 : decode cX5_pickAbove 43 = .ok (.iinc 3 1, 3) := by decide +kernel
theorem dX5_pickAbove_46 : decode cX5_pickAbove 46 = .ok (.goto (-42), 3) := by decide +kernel
theorem dX5_pickAbove_49 : decode cX5_pickAbove 49 = .ok (.iload_n 2, 1) := by decide +kernel
theorem dX5_pickAbove_50 : decode cX5_pickAbove 50 = .ok (.ireturn, 1) := by decide +kernel
theorem dX5_orders1_0 : decode cX5_orders1 0 = .ok (.iload_n 2, 1) := by decide +kernel
theorem dX5_orders1_1 : decode cX5_orders1 1 = .ok (.aload_n 0, 1) := by decide +kernel
theorem dX5_orders1_2 : decode cX5_orders1 2 = .ok (.getfield 272, 3) := by decide +kernel
theorem dX5_orders1_5 : decode cX5_orders1 5 = .ok (.if_icmp .ne 63, 3) := by decide +kernel
theorem dX5_orders1_8 : decode cX5_orders1 8 = .ok (.aload_n 0, 1) := by decide +kernel
theorem dX5_orders1_9 : decode cX5_orders1 9 = .ok (.iload_n 1, 1) := by decide +kernel
theorem dX5_orders1_10 : decode cX5_orders1 10 = .ok (.aload_n 0, 1) := by decide +kernel
theorem dX5_orders1_11 : decode cX5_orders1 11 = .ok (.getfield 73, 3) := by decide +kernel
theorem dX5_orders1_14 : decode cX5_orders1 14 = .ok (.invokevirtual 324, 3) := by decide +kernel
theorem dX5_orders1_17 : decode cX5_orders1 17 = .ok (.istore 4, 2) := by decide +kernel
theorem dX5_orders1_19 : decode cX5_orders1 19 = .ok (.iload 4, 2) := by decide +kernel
theorem dX5_orders1_21 : decode cX5_orders1 21 = .ok (.aload_n 0, 1) := by decide +kernel
theorem dX5_orders1_22 : decode cX5_orders1 22 = .ok (.getfield 328, 3) := by decide +kernel
theorem dX5_orders1_25 : decode cX5_orders1 25 = .ok (.if_icmp .lt 4, 3) := by decide +kernel
theorem dX5_orders1_28 : decode cX5_orders1 28 = .ok (.return_, 1) := by decide +kernel
theorem dX5_orders1_29 : decode cX5_orders1 29 = .ok (.aload_n 0, 1) := by decide +kernel
theorem dX5_orders1_30 : decode cX5_orders1 30 = .ok (.iload 4, 2) := by decide +kernel
theorem dX5_orders1_32 : decode cX5_orders1 32 = .ok (.putfield 328, 3) := by decide +kernel
theorem dX5_orders1_35 : decode cX5_orders1 35 = .ok (.iconst 0, 1) := by decide +kernel
theorem dX5_orders1_36 : decode cX5_orders1 36 = .ok (.istore 5, 2) := by decide +kernel
theorem dX5_orders1_38 : decode cX5_orders1 38 = .ok (.iload 5, 2) := by decide +kernel
theorem dX5_orders1_40 : decode cX5_orders1 40 = .ok (.aload_n 0, 1) := by decide +kernel
theorem dX5_orders1_41 : decode cX5_orders1 41 = .ok (.getfield 272, 3) := by decide +kernel
theorem dX5_orders1_44 : decode cX5_orders1 44 = .ok (.if_icmp .ge 23, 3) := by decide +kernel
theorem dX5_orders1_47 : decode cX5_orders1 47 = .ok (.aload_n 0, 1) := by decide +kernel
theorem dX5_orders1_48 : decode cX5_orders1 48 = .ok (.getfield 76, 3) := by decide +kernel
theorem dX5_orders1_51 : decode cX5_orders1 51 = .ok (.iload 5, 2) := by decide +kernel
theorem dX5_orders1_53 : decode cX5_orders1 53 = .ok (.aload_n 0, 1) := by decide +kernel
theorem dX5_orders1_54 : decode cX5_orders1 54 = .ok (.getfield 73, 3) := by decide +kernel
theorem dX5_orders1_57 : decode cX5_orders1 57 = .ok (.iload 5, 2) := by decide +kernel
theorem dX5_orders1_59 : decode cX5_orders1 59 = .ok (.iaload, 1) := by decide +kernel
theorem dX5_orders1_60 : decode cX5_orders1 60 = .ok (.iastore, 1) := by decide +kernel
theorem dX5_orders1_61 : decode cX5_orders1 61 = .ok (.iinc 5 1, 3) := by decide +kernel
theorem dX5_orders1_64 : decode cX5_orders1 64 = .ok (.goto (-26), 3) := by decide +kernel
theorem dX5_orders1_67 : decode cX5_orders1 67 = .ok (.return_, 1) := by decide +kernel
theorem dX5_orders1_68 : decode cX5_orders1 68 = .ok (.aload_n 0, 1) := by decide +kernel
theorem dX5_orders1_69 : decode cX5_orders1 69 = .ok (.iconst (-1), 1) := by decide +kernel
theorem dX5_orders1_70 : decode cX5_orders1 70 = .ok (.invokevirtual 331, 3) := by decide +kernel
theorem dX5_orders1_73 : decode cX5_orders1 73 = .ok (.istore 4, 2) := by decide +kernel
theorem dX5_orders1_75 : decode cX5_orders1 75 = .ok (.iload 4, 2) := by decide +kernel
theorem dX5_orders1_77 : decode cX5_orders1 77 = .ok (.ifCond .lt 54, 3) := by decide +kernel
theorem dX5_orders1_80 : decode cX5_orders1 80 = .ok (.iload_n 3, 1) := by decide +kernel
theorem dX5_orders1_81 : decode cX5_orders1 81 = .ok (.iload 4, 2) := by decide +kernel
theorem dX5_orders1_83 : decode cX5_orders1 83 = .ok (.ishr, 1) := by decide +kernel
theorem dX5_orders1_84 : decode cX5_orders1 84 = .ok (.iconst 1, 1) := by decide +kernel
theorem dX5_orders1_85 : decode cX5_orders1 85 = .ok (.iand, 1) := by decide +kernel
theorem dX5_orders1_86 : decode cX5_orders1 86 = .ok (.iconst 1, 1) := by decide +kernel
theorem dX5_orders1_87 : decode cX5_orders1 87 = .ok (.if_icmp .ne 6, 3) := by decide +kernel
theorem dX5_orders1_90 : decode cX5_orders1 90 = .ok (.goto 25, 3) := by decide +kernel
theorem dX5_orders1_93 : decode cX5_orders1 93 = .ok (.aload_n 0, 1) := by decide +kernel
theorem dX5_orders1_94 : decode cX5_orders1 94 = .ok (.getfield 73, 3) := by decide +kernel
theorem dX5_orders1_97 : decode cX5_orders1 97 = .ok (.iload_n 2, 1) := by decide +kernel
theorem dX5_orders1_98 : decode cX5_orders1 98 = .ok (.iload 4, 2) := by decide +kernel
theorem dX5_orders1_100 : decode cX5_orders1 100 = .ok (.iastore, 1) := by decide +kernel
theorem dX5_orders1_101 : decode cX5_orders1 101 = .ok (.aload_n 0, 1) := by decide +kernel
theorem dX5_orders1_102 : decode cX5_orders1 102 = .ok (.iload_n 1, 1) := by decide +kernel
theorem dX5_orders1_103 : decode cX5_orders1 103 = .ok (.iload_n 2, 1) := by decide +kernel
theorem dX5_orders1_104 : decode cX5_orders1 104 = .ok (.iconst 1, 1) := by decide +kernel
theorem dX5_orders1_105 : decode cX5_orders1 105 = .ok (.iadd, 1) := by decide +kernel
theorem dX5_orders1_106 : decode cX5_orders1 106 = .ok (.iload_n 3, 1) := by decide +kernel
theorem dX5_orders1_107 : decode cX5_orders1 107 = .ok (.iconst 1, 1) := by decide +kernel
theorem dX5_orders1_108 : decode cX5_orders1 108 = .ok (.iload 4, 2) := by decide +kernel
theorem dX5_orders1_110 : decode cX5_orders1 110 = .ok (.ishl, 1) := by decide +kernel
theorem dX5_orders1_111 : decode cX5_orders1 111 = .ok (.ior, 1) := by decide +kernel
theorem dX5_orders1_112 : decode cX5_orders1 112 = .ok (.invokevirtual 334, 3) := by decide +kernel
theorem dX5_orders1_115 : decode cX5_orders1 115 = .ok (.aload_n 0, 1) := by decide +kernel
theorem dX5_orders1_116 : decode cX5_orders1 116 = .ok (.aload_n 0, 1) := by decide +kernel
theorem dX5_orders1_117 : decode cX5_orders1 117 = .ok (.getfield 64, 3) := by decide +kernel
theorem dX5_orders1_120 : decode cX5_orders1 120 = .ok (.iload 4, 2) := by decide +kernel
theorem dX5_orders1_122 : decode cX5_orders1 122 = .ok (.iaload, 1) := by decide +kernel
theorem dX5_orders1_123 : decode cX5_orders1 123 = .ok (.invokevirtual 331, 3) := by decide +kernel
theorem dX5_orders1_126 : decode cX5_orders1 126 = .ok (.istore 4, 2) := by decide +kernel
theorem dX5_orders1_128 : decode cX5_orders1 128 = .ok (.goto (-53), 3) := by decide +kernel
theorem dX5_orders1_131 : decode cX5_orders1 131 = .ok (.return_, 1) := by decide +kernel
theorem dX5_best_0 : decode cX5_best 0 = .ok (.aload_n 0, 1) := by decide +kernel
theorem dX5_best_1 : decode cX5_best 1 = .ok (.iconst 0, 1) := by decide +kernel
theorem dX5_best_2 : decode cX5_best 2 = .ok (.putfield 86, 3) := by decide +kernel
theorem dX5_best_5 : decode cX5_best 5 = .ok (.aload_n 0, 1) := by decide +kernel
theorem dX5_best_6 : decode cX5_best 6 = .ok (.invokevirtual 269, 3) := by decide +kernel
theorem dX5_best_9 : decode cX5_best 9 = .ok (.istore_n 2, 1) := by decide +kernel
theorem dX5_best_10 : decode cX5_best 10 = .ok (.aload_n 0, 1) := by decide +kernel
theorem dX5_best_11 : decode cX5_best 11 = .ok (.iload_n 2, 1) := by decide +kernel
theorem dX5_best_12 : decode cX5_best 12 = .ok (.invokevirtual 275, 3) := by decide +kernel
theorem dX5_best_15 : decode cX5_best 15 = .ok (.aload_n 0, 1) := by decide +kernel
theorem dX5_best_16 : decode cX5_best 16 = .ok (.getfield 272, 3) := by decide +kernel
theorem dX5_best_19 : decode cX5_best 19 = .ok (.bipush 6, 2) := by decide +kernel
theorem dX5_best_21 : decode cX5_best 21 = .ok (.if_icmp .le 6, 3) := by decide +kernel
theorem dX5_best_24 : decode cX5_best 24 = .ok (.bipush (-2), 2) := by decide +kernel
theorem dX5_best_26 : decode cX5_best 26 = .ok (.ireturn, 1) := by decide +kernel
theorem dX5_best_27 : decode cX5_best 27 = .ok (.aload_n 0, 1) := by decide +kernel
theorem dX5_best_28 : decode cX5_best 28 = .ok (.getfield 272, 3) := by decide +kernel
theorem dX5_best_31 : decode cX5_best 31 = .ok (.ifCond .eq 17, 3) := by decide +kernel
theorem dX5_best_34 : decode cX5_best 34 = .ok (.iload_n 1, 1) := by decide +kernel
theorem dX5_best_35 : decode cX5_best 35 = .ok (.i2l, 1) := by decide +kernel
theorem dX5_best_36 : decode cX5_best 36 = .ok (.lconst 0, 1) := by decide +kernel
theorem dX5_best_37 : decode cX5_best 37 = .ok (.aload_n 0, 1) := by decide +kernel
theorem dX5_best_38 : decode cX5_best 38 = .ok (.getfield 272, 3) := by decide +kernel
theorem dX5_best_41 : decode cX5_best 41 = .ok (.i2l, 1) := by decide +kernel
theorem dX5_best_42 : decode cX5_best 42 = .ok (.invokestatic 123, 3) := by decide +kernel
theorem dX5_best_45 : decode cX5_best 45 = .ok (.ifCond .ne 5, 3) := by decide +kernel
theorem dX5_best_48 : decode cX5_best 48 = .ok (.iconst (-1), 1) := by decide +kernel
theorem dX5_best_49 : decode cX5_best 49 = .ok (.ireturn, 1) := by decide +kernel
theorem dX5_best_50 : decode cX5_best 50 = .ok (.aload_n 0, 1) := by decide +kernel
theorem dX5_best_51 : decode cX5_best 51 = .ok (.sipush 1000, 3) := by decide +kernel
theorem dX5_best_54 : decode cX5_best 54 = .ok (.putfield 328, 3) := by decide +kernel
theorem dX5_best_57 : decode cX5_best 57 = .ok (.aload_n 0, 1) := by decide +kernel
theorem dX5_best_58 : decode cX5_best 58 = .ok (.iload_n 2, 1) := by decide +kernel
theorem dX5_best_59 : decode cX5_best 59 = .ok (.iconst 0, 1) := by decide +kernel
theorem dX5_best_60 : decode cX5_best 60 = .ok (.iconst 0, 1) := by decide +kernel
theorem dX5_best_61 : decode cX5_best 61 = .ok (.invokevirtual 334, 3) := by decide +kernel
theorem dX5_best_64 : decode cX5_best 64 = .ok (.iload_n 1, 1) := by decide +kernel
theorem dX5_best_65 : decode cX5_best 65 = .ok (.ifCond .ne 10, 3) := by decide +kernel
theorem dX5_best_68 : decode cX5_best 68 = .ok (.aload_n 0, 1) := by decide +kernel
theorem dX5_best_69 : decode cX5_best 69 = .ok (.getfield 328, 3) := by decide +kernel
theorem dX5_best_72 : decode cX5_best 72 = .ok (.goto 16, 3) := by decide +kernel
theorem dX5_best_75 : decode cX5_best 75 = .ok (.aload_n 0, 1) := by decide +kernel
theorem dX5_best_76 : decode cX5_best 76 = .ok (.getfield 64, 3) := by decide +kernel
theorem dX5_best_79 : decode cX5_best 79 = .ok (.aload_n 0, 1) := by decide +kernel
theorem dX5_best_80 : decode cX5_best 80 = .ok (.getfield 76, 3) := by decide +kernel
theorem dX5_best_83 : decode cX5_best 83 = .ok (.iload_n 1, 1) := by decide +kernel
theorem dX5_best_84 : decode cX5_best 84 = .ok (.iconst 1, 1) := by decide +kernel
theorem dX5_best_85 : decode cX5_best 85 = .ok (.isub, 1) := by decide +kernel
theorem dX5_best_86 : decode cX5_best 86 = .ok (.iaload, 1) := by decide +kernel
theorem dX5_best_87 : decode cX5_best 87 = .ok (.iaload, 1) := by decide +kernel
theorem dX5_best_88 : decode cX5_best 88 = .ok (.ireturn, 1) := by decide +kernel
theorem dX5_laysSizes_0 : decode cX5_laysSizes 0 = .ok (.aload_n 0, 1) := by decide +kernel
theorem dX5_laysSizes_1 : decode cX5_laysSizes 1 = .ok (.iconst 0, 1) := by decide +kernel
theorem dX5_laysSizes_2 : decode cX5_laysSizes 2 = .ok (.putfield 337, 3) := by decide +kernel
theorem dX5_laysSizes_5 : decode cX5_laysSizes 5 = .ok (.aload_n 0, 1) := by decide +kernel
theorem dX5_laysSizes_6 : decode cX5_laysSizes 6 = .ok (.iconst 0, 1) := by decide +kernel
theorem dX5_laysSizes_7 : decode cX5_laysSizes 7 = .ok (.putfield 340, 3) := by decide +kernel
theorem dX5_laysSizes_10 : decode cX5_laysSizes 10 = .ok (.aload_n 0, 1) := by decide +kernel
theorem dX5_laysSizes_11 : decode cX5_laysSizes 11 = .ok (.invokevirtual 263, 3) := by decide +kernel
theorem dX5_laysSizes_14 : decode cX5_laysSizes 14 = .ok (.istore_n 2, 1) := by decide +kernel
theorem dX5_laysSizes_15 : decode cX5_laysSizes 15 = .ok (.iload_n 2, 1) := by decide +kernel
theorem dX5_laysSizes_16 : decode cX5_laysSizes 16 = .ok (.ifCond .eq 46, 3) := by decide +kernel
theorem dX5_laysSizes_19 : decode cX5_laysSizes 19 = .ok (.aload_n 0, 1) := by decide +kernel
theorem dX5_laysSizes_20 : decode cX5_laysSizes 20 = .ok (.iload_n 2, 1) := by decide +kernel
theorem dX5_laysSizes_21 : decode cX5_laysSizes 21 = .ok (.iload_n 1, 1) := by decide +kernel
theorem dX5_laysSizes_22 : decode cX5_laysSizes 22 = .ok (.invokevirtual 266, 3) := by decide +kernel
theorem dX5_laysSizes_25 : decode cX5_laysSizes 25 = .ok (.istore_n 3, 1) := by decide +kernel
theorem dX5_laysSizes_26 : decode cX5_laysSizes 26 = .ok (.iload_n 2, 1) := by decide +kernel
theorem dX5_laysSizes_27 : decode cX5_laysSizes 27 = .ok (.iload_n 3, 1) := by decide +kernel
theorem dX5_laysSizes_28 : decode cX5_laysSizes 28 = .ok (.iconst (-1), 1) := by decide +kernel
theorem dX5_laysSizes_29 : decode cX5_laysSizes 29 = .ok (.ixor, 1) := by decide +kernel
theorem dX5_laysSizes_30 : decode cX5_laysSizes 30 = .ok (.iand, 1) := by decide +kernel
theorem dX5_laysSizes_31 : decode cX5_laysSizes 31 = .ok (.istore_n 2, 1) := by decide +kernel
theorem dX5_laysSizes_32 : decode cX5_laysSizes 32 = .ok (.aload_n 0, 1) := by decide +kernel
theorem dX5_laysSizes_33 : decode cX5_laysSizes 33 = .ok (.dup, 1) := by decide +kernel
theorem dX5_laysSizes_34 : decode cX5_laysSizes 34 = .ok (.getfield 337, 3) := by decide +kernel
theorem dX5_laysSizes_37 : decode cX5_laysSizes 37 = .ok (.iconst 1, 1) := by decide +kernel
theorem dX5_laysSizes_38 : decode cX5_laysSizes 38 = .ok (.iadd, 1) := by decide +kernel
theorem dX5_laysSizes_39 : decode cX5_laysSizes 39 = .ok (.putfield 337, 3) := by decide +kernel
theorem dX5_laysSizes_42 : decode cX5_laysSizes 42 = .ok (.aload_n 0, 1) := by decide +kernel
theorem dX5_laysSizes_43 : decode cX5_laysSizes 43 = .ok (.dup, 1) := by decide +kernel
theorem dX5_laysSizes_44 : decode cX5_laysSizes 44 = .ok (.getfield 340, 3) := by decide +kernel
theorem dX5_laysSizes_47 : decode cX5_laysSizes 47 = .ok (.aload_n 0, 1) := by decide +kernel
theorem dX5_laysSizes_48 : decode cX5_laysSizes 48 = .ok (.iload_n 3, 1) := by decide +kernel
theorem dX5_laysSizes_49 : decode cX5_laysSizes 49 = .ok (.invokevirtual 250, 3) := by decide +kernel
theorem dX5_laysSizes_52 : decode cX5_laysSizes 52 = .ok (.invokestatic 253, 3) := by decide +kernel
theorem dX5_laysSizes_55 : decode cX5_laysSizes 55 = .ok (.iadd, 1) := by decide +kernel
theorem dX5_laysSizes_56 : decode cX5_laysSizes 56 = .ok (.putfield 340, 3) := by decide +kernel
theorem dX5_laysSizes_59 : decode cX5_laysSizes 59 = .ok (.goto (-44), 3) := by decide +kernel
theorem dX5_laysSizes_62 : decode cX5_laysSizes 62 = .ok (.return_, 1) := by decide +kernel
theorem dX5_sizes_0 : decode cX5_sizes 0 = .ok (.aload_n 0, 1) := by decide +kernel
theorem dX5_sizes_1 : decode cX5_sizes 1 = .ok (.iconst 0, 1) := by decide +kernel
theorem dX5_sizes_2 : decode cX5_sizes 2 = .ok (.putfield 86, 3) := by decide +kernel
theorem dX5_sizes_5 : decode cX5_sizes 5 = .ok (.iload_n 1, 1) := by decide +kernel
theorem dX5_sizes_6 : decode cX5_sizes 6 = .ok (.i2l, 1) := by decide +kernel
theorem dX5_sizes_7 : decode cX5_sizes 7 = .ok (.lconst 1, 1) := by decide +kernel
theorem dX5_sizes_8 : decode cX5_sizes 8 = .ok (.ldc2_w 343, 3) := by decide +kernel
theorem dX5_sizes_11 : decode cX5_sizes 11 = .ok (.invokestatic 123, 3) := by decide +kernel
theorem dX5_sizes_14 : decode cX5_sizes 14 = .ok (.ifCond .eq 13, 3) := by decide +kernel
theorem dX5_sizes_17 : decode cX5_sizes 17 = .ok (.iload_n 2, 1) := by decide +kernel
theorem dX5_sizes_18 : decode cX5_sizes 18 = .ok (.i2l, 1) := by decide +kernel
theorem dX5_sizes_19 : decode cX5_sizes 19 = .ok (.lconst 0, 1) := by decide +kernel
theorem dX5_sizes_20 : decode cX5_sizes 20 = .ok (.lconst 1, 1) := by decide +kernel
theorem dX5_sizes_21 : decode cX5_sizes 21 = .ok (.invokestatic 123, 3) := by decide +kernel
theorem dX5_sizes_24 : decode cX5_sizes 24 = .ok (.ifCond .ne 5, 3) := by decide +kernel
theorem dX5_sizes_27 : decode cX5_sizes 27 = .ok (.iconst (-1), 1) := by decide +kernel
theorem dX5_sizes_28 : decode cX5_sizes 28 = .ok (.ireturn, 1) := by decide +kernel
theorem dX5_sizes_29 : decode cX5_sizes 29 = .ok (.aload_n 0, 1) := by decide +kernel
theorem dX5_sizes_30 : decode cX5_sizes 30 = .ok (.iload_n 1, 1) := by decide +kernel
theorem dX5_sizes_31 : decode cX5_sizes 31 = .ok (.invokevirtual 345, 3) := by decide +kernel
theorem dX5_sizes_34 : decode cX5_sizes 34 = .ok (.iload_n 2, 1) := by decide +kernel
theorem dX5_sizes_35 : decode cX5_sizes 35 = .ok (.ifCond .ne 10, 3) := by decide +kernel
theorem dX5_sizes_38 : decode cX5_sizes 38 = .ok (.aload_n 0, 1) := by decide +kernel
theorem dX5_sizes_39 : decode cX5_sizes 39 = .ok (.getfield 337, 3) := by decide +kernel
theorem dX5_sizes_42 : decode cX5_sizes 42 = .ok (.goto 7, 3) := by decide +kernel
theorem dX5_sizes_45 : decode cX5_sizes 45 = .ok (.aload_n 0, 1) := by decide +kernel
theorem dX5_sizes_46 : decode cX5_sizes 46 = .ok (.getfield 340, 3) := by decide +kernel
theorem dX5_sizes_49 : decode cX5_sizes 49 = .ok (.ireturn, 1) := by decide +kernel
theorem dX5_bestSize_0 : decode cX5_bestSize 0 = .ok (.aload_n 0, 1) := by decide +kernel
theorem dX5_bestSize_1 : decode cX5_bestSize 1 = .ok (.iconst 0, 1) := by decide +kernel
theorem dX5_bestSize_2 : decode cX5_bestSize 2 = .ok (.putfield 86, 3) := by decide +kernel
theorem dX5_bestSize_5 : decode cX5_bestSize 5 = .ok (.iconst 0, 1) := by decide +kernel
theorem dX5_bestSize_6 : decode cX5_bestSize 6 = .ok (.istore_n 1, 1) := by decide +kernel
theorem dX5_bestSize_7 : decode cX5_bestSize 7 = .ok (.iconst 0, 1) := by decide +kernel
theorem dX5_bestSize_8 : decode cX5_bestSize 8 = .ok (.istore_n 2, 1) := by decide +kernel
theorem dX5_bestSize_9 : decode cX5_bestSize 9 = .ok (.iconst 1, 1) := by decide +kernel
theorem dX5_bestSize_10 : decode cX5_bestSize 10 = .ok (.istore_n 3, 1) := by decide +kernel
theorem dX5_bestSize_11 : decode cX5_bestSize 11 = .ok (.iload_n 3, 1) := by decide +kernel
theorem dX5_bestSize_12 : decode cX5_bestSize 12 = .ok (.bipush 8, 2) := by decide +kernel
theorem dX5_bestSize_14 : decode cX5_bestSize 14 = .ok (.if_icmp .gt 36, 3) := by decide +kernel
theorem dX5_bestSize_17 : decode cX5_bestSize 17 = .ok (.aload_n 0, 1) := by decide +kernel
theorem dX5_bestSize_18 : decode cX5_bestSize 18 = .ok (.iload_n 3, 1) := by decide +kernel
theorem dX5_bestSize_19 : decode cX5_bestSize 19 = .ok (.invokevirtual 345, 3) := by decide +kernel
theorem dX5_bestSize_22 : decode cX5_bestSize 22 = .ok (.iload_n 1, 1) := by decide +kernel
theorem dX5_bestSize_23 : decode cX5_bestSize 23 = .ok (.ifCond .le 14, 3) := by decide +kernel
theorem dX5_bestSize_26 : decode cX5_bestSize 26 = .ok (.aload_n 0, 1) := by decide +kernel
theorem dX5_bestSize_27 : decode cX5_bestSize 27 = .ok (.getfield 340, 3) := by decide +kernel
theorem dX5_bestSize_30 : decode cX5_bestSize 30 = .ok (.iload_n 2, 1) := by decide +kernel
theorem dX5_bestSize_31 : decode cX5_bestSize 31 = .ok (.if_icmp .lt 6, 3) := by decide +kernel
theorem dX5_bestSize_34 : decode cX5_bestSize 34 = .ok (.goto 10, 3) := by decide +kernel
theorem dX5_bestSize_37 : decode cX5_bestSize 37 = .ok (.iload_n 3, 1) := by decide +kernel
theorem dX5_bestSize_38 : decode cX5_bestSize 38 = .ok (.istore_n 1, 1) := by decide +kernel
theorem dX5_bestSize_39 : decode cX5_bestSize 39 = .ok (.aload_n 0, 1) := by decide +kernel
theorem dX5_bestSize_40 : decode cX5_bestSize 40 = .ok (.getfield 340, 3) := by decide +kernel
theorem dX5_bestSize_43 : decode cX5_bestSize 43 = .ok (.istore_n 2, 1) := by decide +kernel
theorem dX5_bestSize_44 : decode cX5_bestSize 44 = .ok (.iinc 3 1, 3) := by decide +kernel
theorem dX5_bestSize_47 : decode cX5_bestSize 47 = .ok (.goto (-36), 3) := by decide +kernel
theorem dX5_bestSize_50 : decode cX5_bestSize 50 = .ok (.iload_n 1, 1) := by decide +kernel
theorem dX5_bestSize_51 : decode cX5_bestSize 51 = .ok (.ireturn, 1) := by decide +kernel
theorem dX5_wouldBe_0 : decode cX5_wouldBe 0 = .ok (.aload_n 0, 1) := by decide +kernel
theorem dX5_wouldBe_1 : decode cX5_wouldBe 1 = .ok (.iconst 0, 1) := by decide +kernel
theorem dX5_wouldBe_2 : decode cX5_wouldBe 2 = .ok (.putfield 86, 3) := by decide +kernel
theorem dX5_wouldBe_5 : decode cX5_wouldBe 5 = .ok (.iconst 0, 1) := by decide +kernel
theorem dX5_wouldBe_6 : decode cX5_wouldBe 6 = .ok (.istore_n 1, 1) := by decide +kernel
theorem dX5_wouldBe_7 : decode cX5_wouldBe 7 = .ok (.iload_n 1, 1) := by decide +kernel
theorem dX5_wouldBe_8 : decode cX5_wouldBe 8 = .ok (.sipush 2117, 3) := by decide +kernel
theorem dX5_wouldBe_11 : decode cX5_wouldBe 11 = .ok (.if_icmp .ge 21, 3) := by decide +kernel
theorem dX5_wouldBe_14 : decode cX5_wouldBe 14 = .ok (.aload_n 0, 1) := by decide +kernel
theorem dX5_wouldBe_15 : decode cX5_wouldBe 15 = .ok (.getfield 61, 3) := by decide +kernel
theorem dX5_wouldBe_18 : decode cX5_wouldBe 18 = .ok (.iload_n 1, 1) := by decide +kernel
theorem dX5_wouldBe_19 : decode cX5_wouldBe 19 = .ok (.aload_n 0, 1) := by decide +kernel
theorem dX5_wouldBe_20 : decode cX5_wouldBe 20 = .ok (.getfield 48, 3) := by decide +kernel
theorem dX5_wouldBe_23 : decode cX5_wouldBe 23 = .ok (.iload_n 1, 1) := by decide +kernel
theorem dX5_wouldBe_24 : decode cX5_wouldBe 24 = .ok (.iaload, 1) := by decide +kernel
theorem dX5_wouldBe_25 : decode cX5_wouldBe 25 = .ok (.iastore, 1) := by decide +kernel
theorem dX5_wouldBe_26 : decode cX5_wouldBe 26 = .ok (.iinc 1 1, 3) := by decide +kernel
theorem dX5_wouldBe_29 : decode cX5_wouldBe 29 = .ok (.goto (-22), 3) := by decide +kernel
theorem dX5_wouldBe_32 : decode cX5_wouldBe 32 = .ok (.aload_n 0, 1) := by decide +kernel
theorem dX5_wouldBe_33 : decode cX5_wouldBe 33 = .ok (.sipush 1000, 3) := by decide +kernel
theorem dX5_wouldBe_36 : decode cX5_wouldBe 36 = .ok (.invokevirtual 315, 3) := by decide +kernel
theorem dX5_wouldBe_39 : decode cX5_wouldBe 39 = .ok (.pop, 1) := by decide +kernel
theorem dX5_wouldBe_40 : decode cX5_wouldBe 40 = .ok (.aload_n 0, 1) := by decide +kernel
theorem dX5_wouldBe_41 : decode cX5_wouldBe 41 = .ok (.getfield 48, 3) := by decide +kernel
theorem dX5_wouldBe_44 : decode cX5_wouldBe 44 = .ok (.sipush 2100, 3) := by decide +kernel
theorem dX5_wouldBe_47 : decode cX5_wouldBe 47 = .ok (.iaload, 1) := by decide +kernel
theorem dX5_wouldBe_48 : decode cX5_wouldBe 48 = .ok (.istore_n 1, 1) := by decide +kernel
theorem dX5_wouldBe_49 : decode cX5_wouldBe 49 = .ok (.iconst 0, 1) := by decide +kernel
theorem dX5_wouldBe_50 : decode cX5_wouldBe 50 = .ok (.istore_n 2, 1) := by decide +kernel
theorem dX5_wouldBe_51 : decode cX5_wouldBe 51 = .ok (.iload_n 2, 1) := by decide +kernel
theorem dX5_wouldBe_52 : decode cX5_wouldBe 52 = .ok (.sipush 2117, 3) := by decide +kernel
theorem dX5_wouldBe_55 : decode cX5_wouldBe 55 = .ok (.if_icmp .ge 21, 3) := by decide +kernel
theorem dX5_wouldBe_58 : decode cX5_wouldBe 58 = .ok (.aload_n 0, 1) := by decide +kernel
theorem dX5_wouldBe_59 : decode cX5_wouldBe 59 = .ok (.getfield 48, 3) := by decide +kernel
theorem dX5_wouldBe_62 : decode cX5_wouldBe 62 = .ok (.iload_n 2, 1) := by decide +kernel
theorem dX5_wouldBe_63 : decode cX5_wouldBe 63 = .ok (.aload_n 0, 1) := by decide +kernel
theorem dX5_wouldBe_64 : decode cX5_wouldBe 64 = .ok (.getfield 61, 3) := by decide +kernel
theorem dX5_wouldBe_67 : decode cX5_wouldBe 67 = .ok (.iload_n 2, 1) := by decide +kernel
theorem dX5_wouldBe_68 : decode cX5_wouldBe 68 = .ok (.iaload, 1) := by decide +kernel
theorem dX5_wouldBe_69 : decode cX5_wouldBe 69 = .ok (.iastore, 1) := by decide +kernel
theorem dX5_wouldBe_70 : decode cX5_wouldBe 70 = .ok (.iinc 2 1, 3) := by decide +kernel
theorem dX5_wouldBe_73 : decode cX5_wouldBe 73 = .ok (.goto (-22), 3) := by decide +kernel
theorem dX5_wouldBe_76 : decode cX5_wouldBe 76 = .ok (.iload_n 1, 1) := by decide +kernel
theorem dX5_wouldBe_77 : decode cX5_wouldBe 77 = .ok (.ireturn, 1) := by decide +kernel
theorem dX5_undo_0 : decode cX5_undo 0 = .ok (.aload_n 0, 1) := by decide +kernel
theorem dX5_undo_1 : decode cX5_undo 1 = .ok (.iconst 0, 1) := by decide +kernel
theorem dX5_undo_2 : decode cX5_undo 2 = .ok (.putfield 86, 3) := by decide +kernel
theorem dX5_undo_5 : decode cX5_undo 5 = .ok (.aload_n 0, 1) := by decide +kernel
theorem dX5_undo_6 : decode cX5_undo 6 = .ok (.getfield 222, 3) := by decide +kernel
theorem dX5_undo_9 : decode cX5_undo 9 = .ok (.ifCond .ne 5, 3) := by decide +kernel
theorem dX5_undo_12 : decode cX5_undo 12 = .ok (.iconst (-1), 1) := by decide +kernel
theorem dX5_undo_13 : decode cX5_undo 13 = .ok (.ireturn, 1) := by decide +kernel
theorem dX5_undo_14 : decode cX5_undo 14 = .ok (.aload_n 0, 1) := by decide +kernel
theorem dX5_undo_15 : decode cX5_undo 15 = .ok (.dup, 1) := by decide +kernel
theorem dX5_undo_16 : decode cX5_undo 16 = .ok (.getfield 222, 3) := by decide +kernel
theorem dX5_undo_19 : decode cX5_undo 19 = .ok (.iconst 1, 1) := by decide +kernel
theorem dX5_undo_20 : decode cX5_undo 20 = .ok (.isub, 1) := by decide +kernel
theorem dX5_undo_21 : decode cX5_undo 21 = .ok (.putfield 222, 3) := by decide +kernel
theorem dX5_undo_24 : decode cX5_undo 24 = .ok (.iconst 0, 1) := by decide +kernel
theorem dX5_undo_25 : decode cX5_undo 25 = .ok (.istore_n 1, 1) := by decide +kernel
theorem dX5_undo_26 : decode cX5_undo 26 = .ok (.iload_n 1, 1) := by decide +kernel
theorem dX5_undo_27 : decode cX5_undo 27 = .ok (.sipush 2117, 3) := by decide +kernel
theorem dX5_undo_30 : decode cX5_undo 30 = .ok (.if_icmp .ge 30, 3) := by decide +kernel
theorem dX5_undo_33 : decode cX5_undo 33 = .ok (.aload_n 0, 1) := by decide +kernel
theorem dX5_undo_34 : decode cX5_undo 34 = .ok (.getfield 48, 3) := by decide +kernel
theorem dX5_undo_37 : decode cX5_undo 37 = .ok (.iload_n 1, 1) := by decide +kernel
theorem dX5_undo_38 : decode cX5_undo 38 = .ok (.aload_n 0, 1) := by decide +kernel
theorem dX5_undo_39 : decode cX5_undo 39 = .ok (.getfield 51, 3) := by decide +kernel
theorem dX5_undo_42 : decode cX5_undo 42 = .ok (.sipush 2117, 3) := by decide +kernel
theorem dX5_undo_45 : decode cX5_undo 45 = .ok (.aload_n 0, 1) := by decide +kernel
theorem dX5_undo_46 : decode cX5_undo 46 = .ok (.getfield 222, 3) := by decide +kernel
theorem dX5_undo_49 : decode cX5_undo 49 = .ok (.imul, 1) := by decide +kernel
theorem dX5_undo_50 : decode cX5_undo 50 = .ok (.iload_n 1, 1) := by decide +kernel
theorem dX5_undo_51 : decode cX5_undo 51 = .ok (.iadd, 1) := by decide +kernel
theorem dX5_undo_52 : decode cX5_undo 52 = .ok (.iaload, 1) := by decide +kernel
theorem dX5_undo_53 : decode cX5_undo 53 = .ok (.iastore, 1) := by decide +kernel
theorem dX5_undo_54 : decode cX5_undo 54 = .ok (.iinc 1 1, 3) := by decide +kernel
theorem dX5_undo_57 : decode cX5_undo 57 = .ok (.goto (-31), 3) := by decide +kernel
theorem dX5_undo_60 : decode cX5_undo 60 = .ok (.aload_n 0, 1) := by decide +kernel
theorem dX5_undo_61 : decode cX5_undo 61 = .ok (.getfield 222, 3) := by decide +kernel
theorem dX5_undo_64 : decode cX5_undo 64 = .ok (.ireturn, 1) := by decide +kernel
theorem dX5_keep_0 : decode cX5_keep 0 = .ok (.aload_n 0, 1) := by decide +kernel
theorem dX5_keep_1 : decode cX5_keep 1 = .ok (.iconst 0, 1) := by decide +kernel
theorem dX5_keep_2 : decode cX5_keep 2 = .ok (.putfield 86, 3) := by decide +kernel
theorem dX5_keep_5 : decode cX5_keep 5 = .ok (.iload_n 1, 1) := by decide +kernel
theorem dX5_keep_6 : decode cX5_keep 6 = .ok (.i2l, 1) := by decide +kernel
theorem dX5_keep_7 : decode cX5_keep 7 = .ok (.lconst 0, 1) := by decide +kernel
theorem dX5_keep_8 : decode cX5_keep 8 = .ok (.lconst 1, 1) := by decide +kernel
theorem dX5_keep_9 : decode cX5_keep 9 = .ok (.invokestatic 123, 3) := by decide +kernel
theorem dX5_keep_12 : decode cX5_keep 12 = .ok (.ifCond .eq 16, 3) := by decide +kernel
theorem dX5_keep_15 : decode cX5_keep 15 = .ok (.iload_n 2, 1) := by decide +kernel
theorem dX5_keep_16 : decode cX5_keep 16 = .ok (.ifCond .eq 14, 3) := by decide +kernel
theorem dX5_keep_19 : decode cX5_keep 19 = .ok (.aload_n 0, 1) := by decide +kernel
theorem dX5_keep_20 : decode cX5_keep 20 = .ok (.getfield 57, 3) := by decide +kernel
theorem dX5_keep_23 : decode cX5_keep 23 = .ok (.iload_n 1, 1) := by decide +kernel
theorem dX5_keep_24 : decode cX5_keep 24 = .ok (.baload, 1) := by decide +kernel
theorem dX5_keep_25 : decode cX5_keep 25 = .ok (.ifCond .ne 5, 3) := by decide +kernel
theorem dX5_keep_28 : decode cX5_keep 28 = .ok (.iconst 0, 1) := by decide +kernel
theorem dX5_keep_29 : decode cX5_keep 29 = .ok (.ireturn, 1) := by decide +kernel
theorem dX5_keep_30 : decode cX5_keep 30 = .ok (.iconst 0, 1) := by decide +kernel
theorem dX5_keep_31 : decode cX5_keep 31 = .ok (.istore_n 3, 1) := by decide +kernel
theorem dX5_keep_32 : decode cX5_keep 32 = .ok (.iload_n 3, 1) := by decide +kernel
theorem dX5_keep_33 : decode cX5_keep 33 = .ok (.sipush 2117, 3) := by decide +kernel
theorem dX5_keep_36 : decode cX5_keep 36 = .ok (.if_icmp .ge 52, 3) := by decide +kernel
theorem dX5_keep_39 : decode cX5_keep 39 = .ok (.iload_n 2, 1) := by decide +kernel
theorem dX5_keep_40 : decode cX5_keep 40 = .ok (.ifCond .eq 24, 3) := by decide +kernel
theorem dX5_keep_43 : decode cX5_keep 43 = .ok (.aload_n 0, 1) := by decide +kernel
theorem dX5_keep_44 : decode cX5_keep 44 = .ok (.getfield 48, 3) := by decide +kernel
theorem dX5_keep_47 : decode cX5_keep 47 = .ok (.iload_n 3, 1) := by decide +kernel
theorem dX5_keep_48 : decode cX5_keep 48 = .ok (.aload_n 0, 1) := by decide +kernel
theorem dX5_keep_49 : decode cX5_keep 49 = .ok (.getfield 54, 3) := by decide +kernel
theorem dX5_keep_52 : decode cX5_keep 52 = .ok (.sipush 2117, 3) := by decide +kernel
theorem dX5_keep_55 : decode cX5_keep 55 = .ok (.iload_n 1, 1) := by decide +kernel
theorem dX5_keep_56 : decode cX5_keep 56 = .ok (.imul, 1) := by decide +kernel
theorem dX5_keep_57 : decode cX5_keep 57 = .ok (.iload_n 3, 1) := by decide +kernel
theorem dX5_keep_58 : decode cX5_keep 58 = .ok (.iadd, 1) := by decide +kernel
theorem dX5_keep_59 : decode cX5_keep 59 = .ok (.iaload, 1) := by decide +kernel
theorem dX5_keep_60 : decode cX5_keep 60 = .ok (.iastore, 1) := by decide +kernel
theorem dX5_keep_61 : decode cX5_keep 61 = .ok (.goto 21, 3) := by decide +kernel
theorem dX5_keep_64 : decode cX5_keep 64 = .ok (.aload_n 0, 1) := by decide +kernel
theorem dX5_keep_65 : decode cX5_keep 65 = .ok (.getfield 54, 3) := by decide +kernel
theorem dX5_keep_68 : decode cX5_keep 68 = .ok (.sipush 2117, 3) := by decide +kernel
theorem dX5_keep_71 : decode cX5_keep 71 = .ok (.iload_n 1, 1) := by decide +kernel
theorem dX5_keep_72 : decode cX5_keep 72 = .ok (.imul, 1) := by decide +kernel
theorem dX5_keep_73 : decode cX5_keep 73 = .ok (.iload_n 3, 1) := by decide +kernel
theorem dX5_keep_74 : decode cX5_keep 74 = .ok (.iadd, 1) := by decide +kernel
theorem dX5_keep_75 : decode cX5_keep 75 = .ok (.aload_n 0, 1) := by decide +kernel
theorem dX5_keep_76 : decode cX5_keep 76 = .ok (.getfield 48, 3) := by decide +kernel
theorem dX5_keep_79 : decode cX5_keep 79 = .ok (.iload_n 3, 1) := by decide +kernel
theorem dX5_keep_80 : decode cX5_keep 80 = .ok (.iaload, 1) := by decide +kernel
theorem dX5_keep_81 : decode cX5_keep 81 = .ok (.iastore, 1) := by decide +kernel
theorem dX5_keep_82 : decode cX5_keep 82 = .ok (.iinc 3 1, 3) := by decide +kernel
theorem dX5_keep_85 : decode cX5_keep 85 = .ok (.goto (-53), 3) := by decide +kernel
theorem dX5_keep_88 : decode cX5_keep 88 = .ok (.iload_n 2, 1) := by decide +kernel
theorem dX5_keep_89 : decode cX5_keep 89 = .ok (.ifCond .eq 11, 3) := by decide +kernel
theorem dX5_keep_92 : decode cX5_keep 92 = .ok (.aload_n 0, 1) := by decide +kernel
theorem dX5_keep_93 : decode cX5_keep 93 = .ok (.iconst 0, 1) := by decide +kernel
theorem dX5_keep_94 : decode cX5_keep 94 = .ok (.putfield 222, 3) := by decide +kernel
theorem dX5_keep_97 : decode cX5_keep 97 = .ok (.goto 10, 3) := by decide +kernel
theorem dX5_keep_100 : decode cX5_keep 100 = .ok (.aload_n 0, 1) := by decide +kernel
theorem dX5_keep_101 : decode cX5_keep 101 = .ok (.getfield 57, 3) := by decide +kernel
theorem dX5_keep_104 : decode cX5_keep 104 = .ok (.iload_n 1, 1) := by decide +kernel
theorem dX5_keep_105 : decode cX5_keep 105 = .ok (.iconst 1, 1) := by decide +kernel
theorem dX5_keep_106 : decode cX5_keep 106 = .ok (.bastore, 1) := by decide +kernel
theorem dX5_keep_107 : decode cX5_keep 107 = .ok (.iconst 1, 1) := by decide +kernel
theorem dX5_keep_108 : decode cX5_keep 108 = .ok (.ireturn, 1) := by decide +kernel
theorem dX5_freeHoles_0 : decode cX5_freeHoles 0 = .ok (.iconst 0, 1) := by decide +kernel
theorem dX5_freeHoles_1 : decode cX5_freeHoles 1 = .ok (.istore_n 1, 1) := by decide +kernel
theorem dX5_freeHoles_2 : decode cX5_freeHoles 2 = .ok (.iconst 0, 1) := by decide +kernel
theorem dX5_freeHoles_3 : decode cX5_freeHoles 3 = .ok (.istore_n 2, 1) := by decide +kernel
theorem dX5_freeHoles_4 : decode cX5_freeHoles 4 = .ok (.iload_n 2, 1) := by decide +kernel
theorem dX5_freeHoles_5 : decode cX5_freeHoles 5 = .ok (.aload_n 0, 1) := by decide +kernel
theorem dX5_freeHoles_6 : decode cX5_freeHoles 6 = .ok (.getfield 20, 3) := by decide +kernel
theorem dX5_freeHoles_9 : decode cX5_freeHoles 9 = .ok (.iconst 0, 1) := by decide +kernel
theorem dX5_freeHoles_10 : decode cX5_freeHoles 10 = .ok (.iaload, 1) := by decide +kernel
theorem dX5_freeHoles_11 : decode cX5_freeHoles 11 = .ok (.if_icmp .ge 30, 3) := by decide +kernel
theorem dX5_freeHoles_14 : decode cX5_freeHoles 14 = .ok (.iload_n 1, 1) := by decide +kernel
theorem dX5_freeHoles_15 : decode cX5_freeHoles 15 = .ok (.aload_n 0, 1) := by decide +kernel
theorem dX5_freeHoles_16 : decode cX5_freeHoles 16 = .ok (.getfield 48, 3) := by decide +kernel
theorem dX5_freeHoles_19 : decode cX5_freeHoles 19 = .ok (.sipush 362, 3) := by decide +kernel
theorem dX5_freeHoles_22 : decode cX5_freeHoles 22 = .ok (.iload_n 2, 1) := by decide +kernel
theorem dX5_freeHoles_23 : decode cX5_freeHoles 23 = .ok (.iadd, 1) := by decide +kernel
theorem dX5_freeHoles_24 : decode cX5_freeHoles 24 = .ok (.iaload, 1) := by decide +kernel
theorem dX5_freeHoles_25 : decode cX5_freeHoles 25 = .ok (.ifCond .ge 7, 3) := by decide +kernel
theorem dX5_freeHoles_28 : decode cX5_freeHoles 28 = .ok (.iconst 1, 1) := by decide +kernel
theorem dX5_freeHoles_29 : decode cX5_freeHoles 29 = .ok (.goto 4, 3) := by decide +kernel
theorem dX5_freeHoles_32 : decode cX5_freeHoles 32 = .ok (.iconst 0, 1) := by decide +kernel
theorem dX5_freeHoles_33 : decode cX5_freeHoles 33 = .ok (.iadd, 1) := by decide +kernel
theorem dX5_freeHoles_34 : decode cX5_freeHoles 34 = .ok (.istore_n 1, 1) := by decide +kernel
theorem dX5_freeHoles_35 : decode cX5_freeHoles 35 = .ok (.iinc 2 1, 3) := by decide +kernel
theorem dX5_freeHoles_38 : decode cX5_freeHoles 38 = .ok (.goto (-34), 3) := by decide +kernel
theorem dX5_freeHoles_41 : decode cX5_freeHoles 41 = .ok (.iload_n 1, 1) := by decide +kernel
theorem dX5_freeHoles_42 : decode cX5_freeHoles 42 = .ok (.ireturn, 1) := by decide +kernel
theorem dX5_allLate_0 : decode cX5_allLate 0 = .ok (.iconst 0, 1) := by decide +kernel
theorem dX5_allLate_1 : decode cX5_allLate 1 = .ok (.istore_n 1, 1) := by decide +kernel
theorem dX5_allLate_2 : decode cX5_allLate 2 = .ok (.iconst 0, 1) := by decide +kernel
theorem dX5_allLate_3 : decode cX5_allLate 3 = .ok (.istore_n 2, 1) := by decide +kernel
theorem dX5_allLate_4 : decode cX5_allLate 4 = .ok (.iload_n 2, 1) := by decide +kernel
theorem dX5_allLate_5 : decode cX5_allLate 5 = .ok (.aload_n 0, 1) := by decide +kernel
theorem dX5_allLate_6 : decode cX5_allLate 6 = .ok (.getfield 17, 3) := by decide +kernel
theorem dX5_allLate_9 : decode cX5_allLate 9 = .ok (.iconst 0, 1) := by decide +kernel
theorem dX5_allLate_10 : decode cX5_allLate 10 = .ok (.iaload, 1) := by decide +kernel
theorem dX5_allLate_11 : decode cX5_allLate 11 = .ok (.if_icmp .ge 20, 3) := by decide +kernel
theorem dX5_allLate_14 : decode cX5_allLate 14 = .ok (.iload_n 1, 1) := by decide +kernel
theorem dX5_allLate_15 : decode cX5_allLate 15 = .ok (.aload_n 0, 1) := by decide +kernel
theorem dX5_allLate_16 : decode cX5_allLate 16 = .ok (.sipush 170, 3) := by decide +kernel
theorem dX5_allLate_19 : decode cX5_allLate 19 = .ok (.iload_n 2, 1) := by decide +kernel
theorem dX5_allLate_20 : decode cX5_allLate 20 = .ok (.invokevirtual 240, 3) := by decide +kernel
theorem dX5_allLate_23 : decode cX5_allLate 23 = .ok (.iadd, 1) := by decide +kernel
theorem dX5_allLate_24 : decode cX5_allLate 24 = .ok (.istore_n 1, 1) := by decide +kernel
theorem dX5_allLate_25 : decode cX5_allLate 25 = .ok (.iinc 2 1, 3) := by decide +kernel
theorem dX5_allLate_28 : decode cX5_allLate 28 = .ok (.goto (-24), 3) := by decide +kernel
theorem dX5_allLate_31 : decode cX5_allLate 31 = .ok (.iload_n 1, 1) := by decide +kernel
theorem dX5_allLate_32 : decode cX5_allLate 32 = .ok (.ireturn, 1) := by decide +kernel
theorem dX5_count_0 : decode cX5_count 0 = .ok (.aload_n 0, 1) := by decide +kernel
theorem dX5_count_1 : decode cX5_count 1 = .ok (.iconst 0, 1) := by decide +kernel
theorem dX5_count_2 : decode cX5_count 2 = .ok (.putfield 86, 3) := by decide +kernel
theorem dX5_count_5 : decode cX5_count 5 = .ok (.iload_n 1, 1) := by decide +kernel
theorem dX5_count_6 : decode cX5_count 6 = .ok (.tableswitch 117 0 9 #[54, 61, 68, 75, 80, 88, 93, 98, 103, 110], 54) := by decide +kernel
theorem dX5_count_60 : decode cX5_count 60 = .ok (.aload_n 0, 1) := by decide +kernel
theorem dX5_count_61 : decode cX5_count 61 = .ok (.getfield 13, 3) := by decide +kernel
theorem dX5_count_64 : decode cX5_count 64 = .ok (.iconst 0, 1) := by decide +kernel
theorem dX5_count_65 : decode cX5_count 65 = .ok (.iaload, 1) := by decide +kernel
theorem dX5_count_66 : decode cX5_count 66 = .ok (.ireturn, 1) := by decide +kernel
theorem dX5_count_67 : decode cX5_count 67 = .ok (.aload_n 0, 1) := by decide +kernel
theorem dX5_count_68 : decode cX5_count 68 = .ok (.getfield 17, 3) := by decide +kernel
theorem dX5_count_71 : decode cX5_count 71 = .ok (.iconst 0, 1) := by decide +kernel
theorem dX5_count_72 : decode cX5_count 72 = .ok (.iaload, 1) := by decide +kernel
theorem dX5_count_73 : decode cX5_count 73 = .ok (.ireturn, 1) := by decide +kernel
theorem dX5_count_74 : decode cX5_count 74 = .ok (.aload_n 0, 1) := by decide +kernel
theorem dX5_count_75 : decode cX5_count 75 = .ok (.getfield 20, 3) := by decide +kernel
theorem dX5_count_78 : decode cX5_count 78 = .ok (.iconst 0, 1) := by decide +kernel
theorem dX5_count_79 : decode cX5_count 79 = .ok (.iaload, 1) := by decide +kernel
theorem dX5_count_80 : decode cX5_count 80 = .ok (.ireturn, 1) := by decide +kernel
theorem dX5_count_81 : decode cX5_count 81 = .ok (.aload_n 0, 1) := by decide +kernel
theorem dX5_count_82 : decode cX5_count 82 = .ok (.invokevirtual 348, 3) := by decide +kernel
theorem dX5_count_85 : decode cX5_count 85 = .ok (.ireturn, 1) := by decide +kernel
theorem dX5_count_86 : decode cX5_count 86 = .ok (.aload_n 0, 1) := by decide +kernel
theorem dX5_count_87 : decode cX5_count 87 = .ok (.invokevirtual 263, 3) := by decide +kernel
theorem dX5_count_90 : decode cX5_count 90 = .ok (.invokestatic 253, 3) := by decide +kernel
theorem dX5_count_93 : decode cX5_count 93 = .ok (.ireturn, 1) := by decide +kernel
theorem dX5_count_94 : decode cX5_count 94 = .ok (.aload_n 0, 1) := by decide +kernel
theorem dX5_count_95 : decode cX5_count 95 = .ok (.invokevirtual 351, 3) := by decide +kernel
theorem dX5_count_98 : decode cX5_count 98 = .ok (.ireturn, 1) := by decide +kernel
theorem dX5_count_99 : decode cX5_count 99 = .ok (.aload_n 0, 1) := by decide +kernel
theorem dX5_count_100 : decode cX5_count 100 = .ok (.getfield 222, 3) := by decide +kernel
theorem dX5_count_103 : decode cX5_count 103 = .ok (.ireturn, 1) := by decide +kernel
theorem dX5_count_104 : decode cX5_count 104 = .ok (.aload_n 0, 1) := by decide +kernel
theorem dX5_count_105 : decode cX5_count 105 = .ok (.getfield 90, 3) := by decide +kernel
theorem dX5_count_108 : decode cX5_count 108 = .ok (.ireturn, 1) := by decide +kernel
theorem dX5_count_109 : decode cX5_count 109 = .ok (.aload_n 0, 1) := by decide +kernel
theorem dX5_count_110 : decode cX5_count 110 = .ok (.getfield 23, 3) := by decide +kernel
theorem dX5_count_113 : decode cX5_count 113 = .ok (.iconst 0, 1) := by decide +kernel
theorem dX5_count_114 : decode cX5_count 114 = .ok (.iaload, 1) := by decide +kernel
theorem dX5_count_115 : decode cX5_count 115 = .ok (.ireturn, 1) := by decide +kernel
theorem dX5_count_116 : decode cX5_count 116 = .ok (.aload_n 0, 1) := by decide +kernel
theorem dX5_count_117 : decode cX5_count 117 = .ok (.getfield 26, 3) := by decide +kernel
theorem dX5_count_120 : decode cX5_count 120 = .ok (.iconst 0, 1) := by decide +kernel
theorem dX5_count_121 : decode cX5_count 121 = .ok (.iaload, 1) := by decide +kernel
theorem dX5_count_122 : decode cX5_count 122 = .ok (.ireturn, 1) := by decide +kernel
theorem dX5_count_123 : decode cX5_count 123 = .ok (.iconst (-1), 1) := by decide +kernel
theorem dX5_count_124 : decode cX5_count 124 = .ok (.ireturn, 1) := by decide +kernel
