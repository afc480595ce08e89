theorem dX0_init_0 : decode cX0_init 0 = .ok (.aload_n 0, 1) := by decide +kernel
theorem dX0_init_1 : decode cX0_init 1 = .ok (.invokespecial 3, 3) := by decide +kernel
theorem dX0_init_4 : decode cX0_init 4 = .ok (.aload_n 0, 1) := by decide +kernel
theorem dX0_init_5 : decode cX0_init 5 = .ok (.bipush 10, 2) := by decide +kernel
theorem dX0_init_7 : decode cX0_init 7 = .ok (.newarray .int, 2) := by decide +kernel
theorem dX0_init_9 : decode cX0_init 9 = .ok (.putfield 9, 3) := by decide +kernel
theorem dX0_init_12 : decode cX0_init 12 = .ok (.aload_n 0, 1) := by decide +kernel
theorem dX0_init_13 : decode cX0_init 13 = .ok (.bipush 16, 2) := by decide +kernel
theorem dX0_init_15 : decode cX0_init 15 = .ok (.newarray .int, 2) := by decide +kernel
theorem dX0_init_17 : decode cX0_init 17 = .ok (.putfield 15, 3) := by decide +kernel
theorem dX0_init_20 : decode cX0_init 20 = .ok (.aload_n 0, 1) := by decide +kernel
theorem dX0_init_21 : decode cX0_init 21 = .ok (.bipush 16, 2) := by decide +kernel
theorem dX0_init_23 : decode cX0_init 23 = .ok (.newarray .int, 2) := by decide +kernel
theorem dX0_init_25 : decode cX0_init 25 = .ok (.putfield 18, 3) := by decide +kernel
theorem dX0_init_28 : decode cX0_init 28 = .ok (.aload_n 0, 1) := by decide +kernel
theorem dX0_init_29 : decode cX0_init 29 = .ok (.bipush 8, 2) := by decide +kernel
theorem dX0_init_31 : decode cX0_init 31 = .ok (.newarray .int, 2) := by decide +kernel
theorem dX0_init_33 : decode cX0_init 33 = .ok (.putfield 21, 3) := by decide +kernel
theorem dX0_init_36 : decode cX0_init 36 = .ok (.aload_n 0, 1) := by decide +kernel
theorem dX0_init_37 : decode cX0_init 37 = .ok (.sipush 160, 3) := by decide +kernel
theorem dX0_init_40 : decode cX0_init 40 = .ok (.newarray .int, 2) := by decide +kernel
theorem dX0_init_42 : decode cX0_init 42 = .ok (.putfield 24, 3) := by decide +kernel
theorem dX0_init_45 : decode cX0_init 45 = .ok (.aload_n 0, 1) := by decide +kernel
theorem dX0_init_46 : decode cX0_init 46 = .ok (.sipush 160, 3) := by decide +kernel
theorem dX0_init_49 : decode cX0_init 49 = .ok (.newarray .int, 2) := by decide +kernel
theorem dX0_init_51 : decode cX0_init 51 = .ok (.putfield 27, 3) := by decide +kernel
theorem dX0_init_54 : decode cX0_init 54 = .ok (.aload_n 0, 1) := by decide +kernel
theorem dX0_init_55 : decode cX0_init 55 = .ok (.bipush 16, 2) := by decide +kernel
theorem dX0_init_57 : decode cX0_init 57 = .ok (.newarray .int, 2) := by decide +kernel
theorem dX0_init_59 : decode cX0_init 59 = .ok (.putfield 30, 3) := by decide +kernel
theorem dX0_init_62 : decode cX0_init 62 = .ok (.aload_n 0, 1) := by decide +kernel
theorem dX0_init_63 : decode cX0_init 63 = .ok (.iconst 0, 1) := by decide +kernel
theorem dX0_init_64 : decode cX0_init 64 = .ok (.putfield 33, 3) := by decide +kernel
theorem dX0_init_67 : decode cX0_init 67 = .ok (.aload_n 0, 1) := by decide +kernel
theorem dX0_init_68 : decode cX0_init 68 = .ok (.sipush 864, 3) := by decide +kernel
theorem dX0_init_71 : decode cX0_init 71 = .ok (.newarray .int, 2) := by decide +kernel
theorem dX0_init_73 : decode cX0_init 73 = .ok (.putfield 37, 3) := by decide +kernel
theorem dX0_init_76 : decode cX0_init 76 = .ok (.aload_n 0, 1) := by decide +kernel
theorem dX0_init_77 : decode cX0_init 77 = .ok (.iconst 0, 1) := by decide +kernel
theorem dX0_init_78 : decode cX0_init 78 = .ok (.putfield 40, 3) := by decide +kernel
theorem dX0_init_81 : decode cX0_init 81 = .ok (.aload_n 0, 1) := by decide +kernel
theorem dX0_init_82 : decode cX0_init 82 = .ok (.iconst 0, 1) := by decide +kernel
theorem dX0_init_83 : decode cX0_init 83 = .ok (.putfield 43, 3) := by decide +kernel
theorem dX0_init_86 : decode cX0_init 86 = .ok (.aload_n 0, 1) := by decide +kernel
theorem dX0_init_87 : decode cX0_init 87 = .ok (.sipush 864, 3) := by decide +kernel
theorem dX0_init_90 : decode cX0_init 90 = .ok (.newarray .int, 2) := by decide +kernel
theorem dX0_init_92 : decode cX0_init 92 = .ok (.putfield 46, 3) := by decide +kernel
theorem dX0_init_95 : decode cX0_init 95 = .ok (.aload_n 0, 1) := by decide +kernel
theorem dX0_init_96 : decode cX0_init 96 = .ok (.iconst 0, 1) := by decide +kernel
theorem dX0_init_97 : decode cX0_init 97 = .ok (.putfield 49, 3) := by decide +kernel
theorem dX0_init_100 : decode cX0_init 100 = .ok (.aload_n 0, 1) := by decide +kernel
theorem dX0_init_101 : decode cX0_init 101 = .ok (.getfield 18, 3) := by decide +kernel
theorem dX0_init_104 : decode cX0_init 104 = .ok (.iconst (-1), 1) := by decide +kernel
theorem dX0_init_105 : decode cX0_init 105 = .ok (.invokestatic 52, 3) := by decide +kernel
theorem dX0_init_108 : decode cX0_init 108 = .ok (.aload_n 0, 1) := by decide +kernel
theorem dX0_init_109 : decode cX0_init 109 = .ok (.getfield 21, 3) := by decide +kernel
theorem dX0_init_112 : decode cX0_init 112 = .ok (.iconst (-1), 1) := by decide +kernel
theorem dX0_init_113 : decode cX0_init 113 = .ok (.invokestatic 52, 3) := by decide +kernel
theorem dX0_init_116 : decode cX0_init 116 = .ok (.return_, 1) := by decide +kernel
theorem dX0_begin_0 : decode cX0_begin 0 = .ok (.aload_n 1, 1) := by decide +kernel
theorem dX0_begin_1 : decode cX0_begin 1 = .ok (.getfield 58, 3) := by decide +kernel
theorem dX0_begin_4 : decode cX0_begin 4 = .ok (.iconst 0, 1) := by decide +kernel
theorem dX0_begin_5 : decode cX0_begin 5 = .ok (.aload_n 0, 1) := by decide +kernel
theorem dX0_begin_6 : decode cX0_begin 6 = .ok (.getfield 9, 3) := by decide +kernel
theorem dX0_begin_9 : decode cX0_begin 9 = .ok (.iconst 0, 1) := by decide +kernel
theorem dX0_begin_10 : decode cX0_begin 10 = .ok (.bipush 10, 2) := by decide +kernel
theorem dX0_begin_12 : decode cX0_begin 12 = .ok (.invokestatic 63, 3) := by decide +kernel
theorem dX0_begin_15 : decode cX0_begin 15 = .ok (.aload_n 0, 1) := by decide +kernel
theorem dX0_begin_16 : decode cX0_begin 16 = .ok (.getfield 15, 3) := by decide +kernel
theorem dX0_begin_19 : decode cX0_begin 19 = .ok (.iconst 0, 1) := by decide +kernel
theorem dX0_begin_20 : decode cX0_begin 20 = .ok (.invokestatic 52, 3) := by decide +kernel
theorem dX0_begin_23 : decode cX0_begin 23 = .ok (.aload_n 0, 1) := by decide +kernel
theorem dX0_begin_24 : decode cX0_begin 24 = .ok (.getfield 18, 3) := by decide +kernel
theorem dX0_begin_27 : decode cX0_begin 27 = .ok (.iconst (-1), 1) := by decide +kernel
theorem dX0_begin_28 : decode cX0_begin 28 = .ok (.invokestatic 52, 3) := by decide +kernel
theorem dX0_begin_31 : decode cX0_begin 31 = .ok (.aload_n 0, 1) := by decide +kernel
theorem dX0_begin_32 : decode cX0_begin 32 = .ok (.getfield 21, 3) := by decide +kernel
theorem dX0_begin_35 : decode cX0_begin 35 = .ok (.iconst (-1), 1) := by decide +kernel
theorem dX0_begin_36 : decode cX0_begin 36 = .ok (.invokestatic 52, 3) := by decide +kernel
theorem dX0_begin_39 : decode cX0_begin 39 = .ok (.aload_n 0, 1) := by decide +kernel
theorem dX0_begin_40 : decode cX0_begin 40 = .ok (.getfield 24, 3) := by decide +kernel
theorem dX0_begin_43 : decode cX0_begin 43 = .ok (.iconst 0, 1) := by decide +kernel
theorem dX0_begin_44 : decode cX0_begin 44 = .ok (.invokestatic 52, 3) := by decide +kernel
theorem dX0_begin_47 : decode cX0_begin 47 = .ok (.aload_n 0, 1) := by decide +kernel
theorem dX0_begin_48 : decode cX0_begin 48 = .ok (.getfield 27, 3) := by decide +kernel
theorem dX0_begin_51 : decode cX0_begin 51 = .ok (.iconst 0, 1) := by decide +kernel
theorem dX0_begin_52 : decode cX0_begin 52 = .ok (.invokestatic 52, 3) := by decide +kernel
theorem dX0_begin_55 : decode cX0_begin 55 = .ok (.aload_n 0, 1) := by decide +kernel
theorem dX0_begin_56 : decode cX0_begin 56 = .ok (.iconst 0, 1) := by decide +kernel
theorem dX0_begin_57 : decode cX0_begin 57 = .ok (.putfield 33, 3) := by decide +kernel
theorem dX0_begin_60 : decode cX0_begin 60 = .ok (.aload_n 0, 1) := by decide +kernel
theorem dX0_begin_61 : decode cX0_begin 61 = .ok (.iconst 0, 1) := by decide +kernel
theorem dX0_begin_62 : decode cX0_begin 62 = .ok (.putfield 40, 3) := by decide +kernel
theorem dX0_begin_65 : decode cX0_begin 65 = .ok (.aload_n 0, 1) := by decide +kernel
theorem dX0_begin_66 : decode cX0_begin 66 = .ok (.iconst 0, 1) := by decide +kernel
theorem dX0_begin_67 : decode cX0_begin 67 = .ok (.putfield 43, 3) := by decide +kernel
theorem dX0_begin_70 : decode cX0_begin 70 = .ok (.aload_n 0, 1) := by decide +kernel
theorem dX0_begin_71 : decode cX0_begin 71 = .ok (.iconst 0, 1) := by decide +kernel
theorem dX0_begin_72 : decode cX0_begin 72 = .ok (.putfield 49, 3) := by decide +kernel
theorem dX0_begin_75 : decode cX0_begin 75 = .ok (.return_, 1) := by decide +kernel
theorem dX0_copyFrom_0 : decode cX0_copyFrom 0 = .ok (.aload_n 1, 1) := by decide +kernel
theorem dX0_copyFrom_1 : decode cX0_copyFrom 1 = .ok (.getfield 9, 3) := by decide +kernel
theorem dX0_copyFrom_4 : decode cX0_copyFrom 4 = .ok (.iconst 0, 1) := by decide +kernel
theorem dX0_copyFrom_5 : decode cX0_copyFrom 5 = .ok (.aload_n 0, 1) := by decide +kernel
theorem dX0_copyFrom_6 : decode cX0_copyFrom 6 = .ok (.getfield 9, 3) := by decide +kernel
theorem dX0_copyFrom_9 : decode cX0_copyFrom 9 = .ok (.iconst 0, 1) := by decide +kernel
theorem dX0_copyFrom_10 : decode cX0_copyFrom 10 = .ok (.bipush 10, 2) := by decide +kernel
theorem dX0_copyFrom_12 : decode cX0_copyFrom 12 = .ok (.invokestatic 63, 3) := by decide +kernel
theorem dX0_copyFrom_15 : decode cX0_copyFrom 15 = .ok (.aload_n 1, 1) := by decide +kernel
theorem dX0_copyFrom_16 : decode cX0_copyFrom 16 = .ok (.getfield 15, 3) := by decide +kernel
theorem dX0_copyFrom_19 : decode cX0_copyFrom 19 = .ok (.iconst 0, 1) := by decide +kernel
theorem dX0_copyFrom_20 : decode cX0_copyFrom 20 = .ok (.aload_n 0, 1) := by decide +kernel
theorem dX0_copyFrom_21 : decode cX0_copyFrom 21 = .ok (.getfield 15, 3) := by decide +kernel
theorem dX0_copyFrom_24 : decode cX0_copyFrom 24 = .ok (.iconst 0, 1) := by decide +kernel
theorem dX0_copyFrom_25 : decode cX0_copyFrom 25 = .ok (.bipush 16, 2) := by decide +kernel
theorem dX0_copyFrom_27 : decode cX0_copyFrom 27 = .ok (.invokestatic 63, 3) := by decide +kernel
theorem dX0_copyFrom_30 : decode cX0_copyFrom 30 = .ok (.aload_n 1, 1) := by decide +kernel
theorem dX0_copyFrom_31 : decode cX0_copyFrom 31 = .ok (.getfield 18, 3) := by decide +kernel
theorem dX0_copyFrom_34 : decode cX0_copyFrom 34 = .ok (.iconst 0, 1) := by decide +kernel
theorem dX0_copyFrom_35 : decode cX0_copyFrom 35 = .ok (.aload_n 0, 1) := by decide +kernel
theorem dX0_copyFrom_36 : decode cX0_copyFrom 36 = .ok (.getfield 18, 3) := by decide +kernel
theorem dX0_copyFrom_39 : decode cX0_copyFrom 39 = .ok (.iconst 0, 1) := by decide +kernel
theorem dX0_copyFrom_40 : decode cX0_copyFrom 40 = .ok (.bipush 16, 2) := by decide +kernel
theorem dX0_copyFrom_42 : decode cX0_copyFrom 42 = .ok (.invokestatic 63, 3) := by decide +kernel
theorem dX0_copyFrom_45 : decode cX0_copyFrom 45 = .ok (.aload_n 1, 1) := by decide +kernel
theorem dX0_copyFrom_46 : decode cX0_copyFrom 46 = .ok (.getfield 21, 3) := by decide +kernel
theorem dX0_copyFrom_49 : decode cX0_copyFrom 49 = .ok (.iconst 0, 1) := by decide +kernel
theorem dX0_copyFrom_50 : decode cX0_copyFrom 50 = .ok (.aload_n 0, 1) := by decide +kernel
theorem dX0_copyFrom_51 : decode cX0_copyFrom 51 = .ok (.getfield 21, 3) := by decide +kernel
theorem dX0_copyFrom_54 : decode cX0_copyFrom 54 = .ok (.iconst 0, 1) := by decide +kernel
theorem dX0_copyFrom_55 : decode cX0_copyFrom 55 = .ok (.bipush 8, 2) := by decide +kernel
theorem dX0_copyFrom_57 : decode cX0_copyFrom 57 = .ok (.invokestatic 63, 3) := by decide +kernel
theorem dX0_copyFrom_60 : decode cX0_copyFrom 60 = .ok (.aload_n 1, 1) := by decide +kernel
theorem dX0_copyFrom_61 : decode cX0_copyFrom 61 = .ok (.getfield 24, 3) := by decide +kernel
theorem dX0_copyFrom_64 : decode cX0_copyFrom 64 = .ok (.iconst 0, 1) := by decide +kernel
theorem dX0_copyFrom_65 : decode cX0_copyFrom 65 = .ok (.aload_n 0, 1) := by decide +kernel
theorem dX0_copyFrom_66 : decode cX0_copyFrom 66 = .ok (.getfield 24, 3) := by decide +kernel
theorem dX0_copyFrom_69 : decode cX0_copyFrom 69 = .ok (.iconst 0, 1) := by decide +kernel
theorem dX0_copyFrom_70 : decode cX0_copyFrom 70 = .ok (.sipush 160, 3) := by decide +kernel
theorem dX0_copyFrom_73 : decode cX0_copyFrom 73 = .ok (.invokestatic 63, 3) := by decide +kernel
theorem dX0_copyFrom_76 : decode cX0_copyFrom 76 = .ok (.aload_n 1, 1) := by decide +kernel
theorem dX0_copyFrom_77 : decode cX0_copyFrom 77 = .ok (.getfield 27, 3) := by decide +kernel
theorem dX0_copyFrom_80 : decode cX0_copyFrom 80 = .ok (.iconst 0, 1) := by decide +kernel
theorem dX0_copyFrom_81 : decode cX0_copyFrom 81 = .ok (.aload_n 0, 1) := by decide +kernel
theorem dX0_copyFrom_82 : decode cX0_copyFrom 82 = .ok (.getfield 27, 3) := by decide +kernel
theorem dX0_copyFrom_85 : decode cX0_copyFrom 85 = .ok (.iconst 0, 1) := by decide +kernel
theorem dX0_copyFrom_86 : decode cX0_copyFrom 86 = .ok (.sipush 160, 3) := by decide +kernel
theorem dX0_copyFrom_89 : decode cX0_copyFrom 89 = .ok (.invokestatic 63, 3) := by decide +kernel
theorem dX0_copyFrom_92 : decode cX0_copyFrom 92 = .ok (.aload_n 1, 1) := by decide +kernel
theorem dX0_copyFrom_93 : decode cX0_copyFrom 93 = .ok (.getfield 30, 3) := by decide +kernel
theorem dX0_copyFrom_96 : decode cX0_copyFrom 96 = .ok (.iconst 0, 1) := by decide +kernel
theorem dX0_copyFrom_97 : decode cX0_copyFrom 97 = .ok (.aload_n 0, 1) := by decide +kernel
theorem dX0_copyFrom_98 : decode cX0_copyFrom 98 = .ok (.getfield 30, 3) := by decide +kernel
theorem dX0_copyFrom_101 : decode cX0_copyFrom 101 = .ok (.iconst 0, 1) := by decide +kernel
theorem dX0_copyFrom_102 : decode cX0_copyFrom 102 = .ok (.bipush 16, 2) := by decide +kernel
theorem dX0_copyFrom_104 : decode cX0_copyFrom 104 = .ok (.invokestatic 63, 3) := by decide +kernel
theorem dX0_copyFrom_107 : decode cX0_copyFrom 107 = .ok (.aload_n 0, 1) := by decide +kernel
theorem dX0_copyFrom_108 : decode cX0_copyFrom 108 = .ok (.aload_n 1, 1) := by decide +kernel
theorem dX0_copyFrom_109 : decode cX0_copyFrom 109 = .ok (.getfield 33, 3) := by decide +kernel
theorem dX0_copyFrom_112 : decode cX0_copyFrom 112 = .ok (.putfield 33, 3) := by decide +kernel
theorem dX0_copyFrom_115 : decode cX0_copyFrom 115 = .ok (.aload_n 1, 1) := by decide +kernel
theorem dX0_copyFrom_116 : decode cX0_copyFrom 116 = .ok (.getfield 37, 3) := by decide +kernel
theorem dX0_copyFrom_119 : decode cX0_copyFrom 119 = .ok (.iconst 0, 1) := by decide +kernel
theorem dX0_copyFrom_120 : decode cX0_copyFrom 120 = .ok (.aload_n 0, 1) := by decide +kernel
theorem dX0_copyFrom_121 : decode cX0_copyFrom 121 = .ok (.getfield 37, 3) := by decide +kernel
theorem dX0_copyFrom_124 : decode cX0_copyFrom 124 = .ok (.iconst 0, 1) := by decide +kernel
theorem dX0_copyFrom_125 : decode cX0_copyFrom 125 = .ok (.sipush 864, 3) := by decide +kernel
theorem dX0_copyFrom_128 : decode cX0_copyFrom 128 = .ok (.invokestatic 63, 3) := by decide +kernel
theorem dX0_copyFrom_131 : decode cX0_copyFrom 131 = .ok (.aload_n 0, 1) := by decide +kernel
theorem dX0_copyFrom_132 : decode cX0_copyFrom 132 = .ok (.aload_n 1, 1) := by decide +kernel
theorem dX0_copyFrom_133 : decode cX0_copyFrom 133 = .ok (.getfield 40, 3) := by decide +kernel
theorem dX0_copyFrom_136 : decode cX0_copyFrom 136 = .ok (.putfield 40, 3) := by decide +kernel
theorem dX0_copyFrom_139 : decode cX0_copyFrom 139 = .ok (.aload_n 0, 1) := by decide +kernel
theorem dX0_copyFrom_140 : decode cX0_copyFrom 140 = .ok (.aload_n 1, 1) := by decide +kernel
theorem dX0_copyFrom_141 : decode cX0_copyFrom 141 = .ok (.getfield 43, 3) := by decide +kernel
theorem dX0_copyFrom_144 : decode cX0_copyFrom 144 = .ok (.putfield 43, 3) := by decide +kernel
theorem dX0_copyFrom_147 : decode cX0_copyFrom 147 = .ok (.aload_n 1, 1) := by decide +kernel
theorem dX0_copyFrom_148 : decode cX0_copyFrom 148 = .ok (.getfield 46, 3) := by decide +kernel
theorem dX0_copyFrom_151 : decode cX0_copyFrom 151 = .ok (.iconst 0, 1) := by decide +kernel
theorem dX0_copyFrom_152 : decode cX0_copyFrom 152 = .ok (.aload_n 0, 1) := by decide +kernel
theorem dX0_copyFrom_153 : decode cX0_copyFrom 153 = .ok (.getfield 46, 3) := by decide +kernel
theorem dX0_copyFrom_156 : decode cX0_copyFrom 156 = .ok (.iconst 0, 1) := by decide +kernel
theorem dX0_copyFrom_157 : decode cX0_copyFrom 157 = .ok (.sipush 864, 3) := by decide +kernel
theorem dX0_copyFrom_160 : decode cX0_copyFrom 160 = .ok (.invokestatic 63, 3) := by decide +kernel
theorem dX0_copyFrom_163 : decode cX0_copyFrom 163 = .ok (.aload_n 0, 1) := by decide +kernel
theorem dX0_copyFrom_164 : decode cX0_copyFrom 164 = .ok (.aload_n 1, 1) := by decide +kernel
theorem dX0_copyFrom_165 : decode cX0_copyFrom 165 = .ok (.getfield 49, 3) := by decide +kernel
theorem dX0_copyFrom_168 : decode cX0_copyFrom 168 = .ok (.putfield 49, 3) := by decide +kernel
theorem dX0_copyFrom_171 : decode cX0_copyFrom 171 = .ok (.return_, 1) := by decide +kernel
theorem dX0_waiting_0 : decode cX0_waiting 0 = .ok (.iconst 0, 1) := by decide +kernel
theorem dX0_waiting_1 : decode cX0_waiting 1 = .ok (.istore_n 2, 1) := by decide +kernel
theorem dX0_waiting_2 : decode cX0_waiting 2 = .ok (.iconst 0, 1) := by decide +kernel
theorem dX0_waiting_3 : decode cX0_waiting 3 = .ok (.istore_n 3, 1) := by decide +kernel
theorem dX0_waiting_4 : decode cX0_waiting 4 = .ok (.iload_n 3, 1) := by decide +kernel
theorem dX0_waiting_5 : decode cX0_waiting 5 = .ok (.aload_n 1, 1) := by decide +kernel
theorem dX0_waiting_6 : decode cX0_waiting 6 = .ok (.getfield 69, 3) := by decide +kernel
theorem dX0_waiting_9 : decode cX0_waiting 9 = .ok (.if_icmp .ge 24, 3) := by decide +kernel
theorem dX0_waiting_12 : decode cX0_waiting 12 = .ok (.aload_n 0, 1) := by decide +kernel
theorem dX0_waiting_13 : decode cX0_waiting 13 = .ok (.getfield 15, 3) := by decide +kernel
theorem dX0_waiting_16 : decode cX0_waiting 16 = .ok (.iload_n 3, 1) := by decide +kernel
theorem dX0_waiting_17 : decode cX0_waiting 17 = .ok (.iaload, 1) := by decide +kernel
theorem dX0_waiting_18 : decode cX0_waiting 18 = .ok (.ifCond .ne 9, 3) := by decide +kernel
theorem dX0_waiting_21 : decode cX0_waiting 21 = .ok (.iload_n 2, 1) := by decide +kernel
theorem dX0_waiting_22 : decode cX0_waiting 22 = .ok (.iconst 1, 1) := by decide +kernel
theorem dX0_waiting_23 : decode cX0_waiting 23 = .ok (.iload_n 3, 1) := by decide +kernel
theorem dX0_waiting_24 : decode cX0_waiting 24 = .ok (.ishl, 1) := by decide +kernel
theorem dX0_waiting_25 : decode cX0_waiting 25 = .ok (.ior, 1) := by decide +kernel
theorem dX0_waiting_26 : decode cX0_waiting 26 = .ok (.istore_n 2, 1) := by decide +kernel
theorem dX0_waiting_27 : decode cX0_waiting 27 = .ok (.iinc 3 1, 3) := by decide +kernel
theorem dX0_waiting_30 : decode cX0_waiting 30 = .ok (.goto (-26), 3) := by decide +kernel
theorem dX0_waiting_33 : decode cX0_waiting 33 = .ok (.iload_n 2, 1) := by decide +kernel
theorem dX0_waiting_34 : decode cX0_waiting 34 = .ok (.ireturn, 1) := by decide +kernel
theorem dX0_lateOfItem_0 : decode cX0_lateOfItem 0 = .ok (.iconst 0, 1) := by decide +kernel
theorem dX0_lateOfItem_1 : decode cX0_lateOfItem 1 = .ok (.istore_n 2, 1) := by decide +kernel
theorem dX0_lateOfItem_2 : decode cX0_lateOfItem 2 = .ok (.iconst 0, 1) := by decide +kernel
theorem dX0_lateOfItem_3 : decode cX0_lateOfItem 3 = .ok (.istore_n 3, 1) := by decide +kernel
theorem dX0_lateOfItem_4 : decode cX0_lateOfItem 4 = .ok (.iload_n 3, 1) := by decide +kernel
theorem dX0_lateOfItem_5 : decode cX0_lateOfItem 5 = .ok (.bipush 16, 2) := by decide +kernel
theorem dX0_lateOfItem_7 : decode cX0_lateOfItem 7 = .ok (.if_icmp .ge 22, 3) := by decide +kernel
theorem dX0_lateOfItem_10 : decode cX0_lateOfItem 10 = .ok (.iload_n 2, 1) := by decide +kernel
theorem dX0_lateOfItem_11 : decode cX0_lateOfItem 11 = .ok (.aload_n 0, 1) := by decide +kernel
theorem dX0_lateOfItem_12 : decode cX0_lateOfItem 12 = .ok (.getfield 27, 3) := by decide +kernel
theorem dX0_lateOfItem_15 : decode cX0_lateOfItem 15 = .ok (.iload_n 3, 1) := by decide +kernel
theorem dX0_lateOfItem_16 : decode cX0_lateOfItem 16 = .ok (.iload_n 1, 1) := by decide +kernel
theorem dX0_lateOfItem_17 : decode cX0_lateOfItem 17 = .ok (.invokestatic 72, 3) := by decide +kernel
theorem dX0_lateOfItem_20 : decode cX0_lateOfItem 20 = .ok (.iaload, 1) := by decide +kernel
theorem dX0_lateOfItem_21 : decode cX0_lateOfItem 21 = .ok (.iadd, 1) := by decide +kernel
theorem dX0_lateOfItem_22 : decode cX0_lateOfItem 22 = .ok (.istore_n 2, 1) := by decide +kernel
theorem dX0_lateOfItem_23 : decode cX0_lateOfItem 23 = .ok (.iinc 3 1, 3) := by decide +kernel
theorem dX0_lateOfItem_26 : decode cX0_lateOfItem 26 = .ok (.goto (-22), 3) := by decide +kernel
theorem dX0_lateOfItem_29 : decode cX0_lateOfItem 29 = .ok (.iload_n 2, 1) := by decide +kernel
theorem dX0_lateOfItem_30 : decode cX0_lateOfItem 30 = .ok (.ireturn, 1) := by decide +kernel
theorem dX0_lateOfAll_0 : decode cX0_lateOfAll 0 = .ok (.iconst 0, 1) := by decide +kernel
theorem dX0_lateOfAll_1 : decode cX0_lateOfAll 1 = .ok (.istore_n 1, 1) := by decide +kernel
theorem dX0_lateOfAll_2 : decode cX0_lateOfAll 2 = .ok (.iconst 0, 1) := by decide +kernel
theorem dX0_lateOfAll_3 : decode cX0_lateOfAll 3 = .ok (.istore_n 2, 1) := by decide +kernel
theorem dX0_lateOfAll_4 : decode cX0_lateOfAll 4 = .ok (.iload_n 2, 1) := by decide +kernel
theorem dX0_lateOfAll_5 : decode cX0_lateOfAll 5 = .ok (.bipush 16, 2) := by decide +kernel
theorem dX0_lateOfAll_7 : decode cX0_lateOfAll 7 = .ok (.if_icmp .ge 20, 3) := by decide +kernel
theorem dX0_lateOfAll_10 : decode cX0_lateOfAll 10 = .ok (.iload_n 1, 1) := by decide +kernel
theorem dX0_lateOfAll_11 : decode cX0_lateOfAll 11 = .ok (.aload_n 0, 1) := by decide +kernel
theorem dX0_lateOfAll_12 : decode cX0_lateOfAll 12 = .ok (.getfield 27, 3) := by decide +kernel
theorem dX0_lateOfAll_15 : decode cX0_lateOfAll 15 = .ok (.iload_n 2, 1) := by decide +kernel
theorem dX0_lateOfAll_16 : decode cX0_lateOfAll 16 = .ok (.invokestatic 76, 3) := by decide +kernel
theorem dX0_lateOfAll_19 : decode cX0_lateOfAll 19 = .ok (.iadd, 1) := by decide +kernel
theorem dX0_lateOfAll_20 : decode cX0_lateOfAll 20 = .ok (.istore_n 1, 1) := by decide +kernel
theorem dX0_lateOfAll_21 : decode cX0_lateOfAll 21 = .ok (.iinc 2 1, 3) := by decide +kernel
theorem dX0_lateOfAll_24 : decode cX0_lateOfAll 24 = .ok (.goto (-20), 3) := by decide +kernel
theorem dX0_lateOfAll_27 : decode cX0_lateOfAll 27 = .ok (.iload_n 1, 1) := by decide +kernel
theorem dX0_lateOfAll_28 : decode cX0_lateOfAll 28 = .ok (.ireturn, 1) := by decide +kernel
theorem dX0_onBelt_0 : decode cX0_onBelt 0 = .ok (.aload_n 0, 1) := by decide +kernel
theorem dX0_onBelt_1 : decode cX0_onBelt 1 = .ok (.getfield 43, 3) := by decide +kernel
theorem dX0_onBelt_4 : decode cX0_onBelt 4 = .ok (.aload_n 0, 1) := by decide +kernel
theorem dX0_onBelt_5 : decode cX0_onBelt 5 = .ok (.getfield 40, 3) := by decide +kernel
theorem dX0_onBelt_8 : decode cX0_onBelt 8 = .ok (.isub, 1) := by decide +kernel
theorem dX0_onBelt_9 : decode cX0_onBelt 9 = .ok (.ireturn, 1) := by decide +kernel
theorem dX0_freeHoles_0 : decode cX0_freeHoles 0 = .ok (.iconst 0, 1) := by decide +kernel
theorem dX0_freeHoles_1 : decode cX0_freeHoles 1 = .ok (.istore_n 2, 1) := by decide +kernel
theorem dX0_freeHoles_2 : decode cX0_freeHoles 2 = .ok (.iconst 0, 1) := by decide +kernel
theorem dX0_freeHoles_3 : decode cX0_freeHoles 3 = .ok (.istore_n 3, 1) := by decide +kernel
theorem dX0_freeHoles_4 : decode cX0_freeHoles 4 = .ok (.iload_n 3, 1) := by decide +kernel
theorem dX0_freeHoles_5 : decode cX0_freeHoles 5 = .ok (.aload_n 1, 1) := by decide +kernel
theorem dX0_freeHoles_6 : decode cX0_freeHoles 6 = .ok (.getfield 80, 3) := by decide +kernel
theorem dX0_freeHoles_9 : decode cX0_freeHoles 9 = .ok (.if_icmp .ge 22, 3) := by decide +kernel
theorem dX0_freeHoles_12 : decode cX0_freeHoles 12 = .ok (.aload_n 0, 1) := by decide +kernel
theorem dX0_freeHoles_13 : decode cX0_freeHoles 13 = .ok (.getfield 21, 3) := by decide +kernel
theorem dX0_freeHoles_16 : decode cX0_freeHoles 16 = .ok (.iload_n 3, 1) := by decide +kernel
theorem dX0_freeHoles_17 : decode cX0_freeHoles 17 = .ok (.iaload, 1) := by decide +kernel
theorem dX0_freeHoles_18 : decode cX0_freeHoles 18 = .ok (.iconst (-1), 1) := by decide +kernel
theorem dX0_freeHoles_19 : decode cX0_freeHoles 19 = .ok (.if_icmp .ne 6, 3) := by decide +kernel
theorem dX0_freeHoles_22 : decode cX0_freeHoles 22 = .ok (.iinc 2 1, 3) := by decide +kernel
theorem dX0_freeHoles_25 : decode cX0_freeHoles 25 = .ok (.iinc 3 1, 3) := by decide +kernel
theorem dX0_freeHoles_28 : decode cX0_freeHoles 28 = .ok (.goto (-24), 3) := by decide +kernel
theorem dX0_freeHoles_31 : decode cX0_freeHoles 31 = .ok (.iload_n 2, 1) := by decide +kernel
theorem dX0_freeHoles_32 : decode cX0_freeHoles 32 = .ok (.ireturn, 1) := by decide +kernel
theorem dX0_isStuck_0 : decode cX0_isStuck 0 = .ok (.aload_n 0, 1) := by decide +kernel
theorem dX0_isStuck_1 : decode cX0_isStuck 1 = .ok (.getfield 15, 3) := by decide +kernel
theorem dX0_isStuck_4 : decode cX0_isStuck 4 = .ok (.iload_n 2, 1) := by decide +kernel
theorem dX0_isStuck_5 : decode cX0_isStuck 5 = .ok (.iaload, 1) := by decide +kernel
theorem dX0_isStuck_6 : decode cX0_isStuck 6 = .ok (.iconst 2, 1) := by decide +kernel
theorem dX0_isStuck_7 : decode cX0_isStuck 7 = .ok (.if_icmp .ne 33, 3) := by decide +kernel
theorem dX0_isStuck_10 : decode cX0_isStuck 10 = .ok (.aload_n 0, 1) := by decide +kernel
theorem dX0_isStuck_11 : decode cX0_isStuck 11 = .ok (.getfield 24, 3) := by decide +kernel
theorem dX0_isStuck_14 : decode cX0_isStuck 14 = .ok (.iload_n 2, 1) := by decide +kernel
theorem dX0_isStuck_15 : decode cX0_isStuck 15 = .ok (.invokestatic 76, 3) := by decide +kernel
theorem dX0_isStuck_18 : decode cX0_isStuck 18 = .ok (.aload_n 0, 1) := by decide +kernel
theorem dX0_isStuck_19 : decode cX0_isStuck 19 = .ok (.getfield 27, 3) := by decide +kernel
theorem dX0_isStuck_22 : decode cX0_isStuck 22 = .ok (.iload_n 2, 1) := by decide +kernel
theorem dX0_isStuck_23 : decode cX0_isStuck 23 = .ok (.invokestatic 76, 3) := by decide +kernel
theorem dX0_isStuck_26 : decode cX0_isStuck 26 = .ok (.iadd, 1) := by decide +kernel
theorem dX0_isStuck_27 : decode cX0_isStuck 27 = .ok (.aload_n 1, 1) := by decide +kernel
theorem dX0_isStuck_28 : decode cX0_isStuck 28 = .ok (.getfield 83, 3) := by decide +kernel
theorem dX0_isStuck_31 : decode cX0_isStuck 31 = .ok (.iload_n 2, 1) := by decide +kernel
theorem dX0_isStuck_32 : decode cX0_isStuck 32 = .ok (.iaload, 1) := by decide +kernel
theorem dX0_isStuck_33 : decode cX0_isStuck 33 = .ok (.if_icmp .ne 7, 3) := by decide +kernel
theorem dX0_isStuck_36 : decode cX0_isStuck 36 = .ok (.iconst 1, 1) := by decide +kernel
theorem dX0_isStuck_37 : decode cX0_isStuck 37 = .ok (.goto 4, 3) := by decide +kernel
theorem dX0_isStuck_40 : decode cX0_isStuck 40 = .ok (.iconst 0, 1) := by decide +kernel
theorem dX0_isStuck_41 : decode cX0_isStuck 41 = .ok (.ireturn, 1) := by decide +kernel
theorem dX0_letGo_0 : decode cX0_letGo 0 = .ok (.iconst 0, 1) := by decide +kernel
theorem dX0_letGo_1 : decode cX0_letGo 1 = .ok (.istore_n 3, 1) := by decide +kernel
theorem dX0_letGo_2 : decode cX0_letGo 2 = .ok (.iload_n 3, 1) := by decide +kernel
theorem dX0_letGo_3 : decode cX0_letGo 3 = .ok (.aload_n 1, 1) := by decide +kernel
theorem dX0_letGo_4 : decode cX0_letGo 4 = .ok (.getfield 69, 3) := by decide +kernel
theorem dX0_letGo_7 : decode cX0_letGo 7 = .ok (.if_icmp .ge 75, 3) := by decide +kernel
theorem dX0_letGo_10 : decode cX0_letGo 10 = .ok (.aload_n 2, 1) := by decide +kernel
theorem dX0_letGo_11 : decode cX0_letGo 11 = .ok (.getfield 86, 3) := by decide +kernel
theorem dX0_letGo_14 : decode cX0_letGo 14 = .ok (.iload_n 3, 1) := by decide +kernel
theorem dX0_letGo_15 : decode cX0_letGo 15 = .ok (.invokestatic 89, 3) := by decide +kernel
theorem dX0_letGo_18 : decode cX0_letGo 18 = .ok (.ifCond .eq 58, 3) := by decide +kernel
theorem dX0_letGo_21 : decode cX0_letGo 21 = .ok (.aload_n 0, 1) := by decide +kernel
theorem dX0_letGo_22 : decode cX0_letGo 22 = .ok (.getfield 15, 3) := by decide +kernel
theorem dX0_letGo_25 : decode cX0_letGo 25 = .ok (.iload_n 3, 1) := by decide +kernel
theorem dX0_letGo_26 : decode cX0_letGo 26 = .ok (.iconst 1, 1) := by decide +kernel
theorem dX0_letGo_27 : decode cX0_letGo 27 = .ok (.iastore, 1) := by decide +kernel
theorem dX0_letGo_28 : decode cX0_letGo 28 = .ok (.iconst 0, 1) := by decide +kernel
theorem dX0_letGo_29 : decode cX0_letGo 29 = .ok (.istore 4, 2) := by decide +kernel
theorem dX0_letGo_31 : decode cX0_letGo 31 = .ok (.iload 4, 2) := by decide +kernel
theorem dX0_letGo_33 : decode cX0_letGo 33 = .ok (.aload_n 1, 1) := by decide +kernel
theorem dX0_letGo_34 : decode cX0_letGo 34 = .ok (.getfield 93, 3) := by decide +kernel
theorem dX0_letGo_37 : decode cX0_letGo 37 = .ok (.if_icmp .ge 39, 3) := by decide +kernel
theorem dX0_letGo_40 : decode cX0_letGo 40 = .ok (.iload_n 3, 1) := by decide +kernel
theorem dX0_letGo_41 : decode cX0_letGo 41 = .ok (.iload 4, 2) := by decide +kernel
theorem dX0_letGo_43 : decode cX0_letGo 43 = .ok (.invokestatic 72, 3) := by decide +kernel
theorem dX0_letGo_46 : decode cX0_letGo 46 = .ok (.istore 5, 2) := by decide +kernel
theorem dX0_letGo_48 : decode cX0_letGo 48 = .ok (.aload_n 0, 1) := by decide +kernel
theorem dX0_letGo_49 : decode cX0_letGo 49 = .ok (.getfield 27, 3) := by decide +kernel
theorem dX0_letGo_52 : decode cX0_letGo 52 = .ok (.iload 5, 2) := by decide +kernel
theorem dX0_letGo_54 : decode cX0_letGo 54 = .ok (.aload_n 1, 1) := by decide +kernel
theorem dX0_letGo_55 : decode cX0_letGo 55 = .ok (.getfield 96, 3) := by decide +kernel
theorem dX0_letGo_58 : decode cX0_letGo 58 = .ok (.iload 5, 2) := by decide +kernel
theorem dX0_letGo_60 : decode cX0_letGo 60 = .ok (.iaload, 1) := by decide +kernel
theorem dX0_letGo_61 : decode cX0_letGo 61 = .ok (.aload_n 2, 1) := by decide +kernel
theorem dX0_letGo_62 : decode cX0_letGo 62 = .ok (.getfield 99, 3) := by decide +kernel
theorem dX0_letGo_65 : decode cX0_letGo 65 = .ok (.iload 5, 2) := by decide +kernel
theorem dX0_letGo_67 : decode cX0_letGo 67 = .ok (.iaload, 1) := by decide +kernel
theorem dX0_letGo_68 : decode cX0_letGo 68 = .ok (.isub, 1) := by decide +kernel
theorem dX0_letGo_69 : decode cX0_letGo 69 = .ok (.iastore, 1) := by decide +kernel
theorem dX0_letGo_70 : decode cX0_letGo 70 = .ok (.iinc 4 1, 3) := by decide +kernel
theorem dX0_letGo_73 : decode cX0_letGo 73 = .ok (.goto (-42), 3) := by decide +kernel
theorem dX0_letGo_76 : decode cX0_letGo 76 = .ok (.iinc 3 1, 3) := by decide +kernel
theorem dX0_letGo_79 : decode cX0_letGo 79 = .ok (.goto (-77), 3) := by decide +kernel
theorem dX0_letGo_82 : decode cX0_letGo 82 = .ok (.iconst 0, 1) := by decide +kernel
theorem dX0_letGo_83 : decode cX0_letGo 83 = .ok (.istore_n 3, 1) := by decide +kernel
theorem dX0_letGo_84 : decode cX0_letGo 84 = .ok (.iload_n 3, 1) := by decide +kernel
theorem dX0_letGo_85 : decode cX0_letGo 85 = .ok (.aload_n 2, 1) := by decide +kernel
theorem dX0_letGo_86 : decode cX0_letGo 86 = .ok (.getfield 102, 3) := by decide +kernel
theorem dX0_letGo_89 : decode cX0_letGo 89 = .ok (.if_icmp .ge 78, 3) := by decide +kernel
theorem dX0_letGo_92 : decode cX0_letGo 92 = .ok (.aload_n 2, 1) := by decide +kernel
theorem dX0_letGo_93 : decode cX0_letGo 93 = .ok (.getfield 105, 3) := by decide +kernel
theorem dX0_letGo_96 : decode cX0_letGo 96 = .ok (.iload_n 3, 1) := by decide +kernel
theorem dX0_letGo_97 : decode cX0_letGo 97 = .ok (.iaload, 1) := by decide +kernel
theorem dX0_letGo_98 : decode cX0_letGo 98 = .ok (.istore 4, 2) := by decide +kernel
theorem dX0_letGo_100 : decode cX0_letGo 100 = .ok (.aload_n 0, 1) := by decide +kernel
theorem dX0_letGo_101 : decode cX0_letGo 101 = .ok (.getfield 9, 3) := by decide +kernel
theorem dX0_letGo_104 : decode cX0_letGo 104 = .ok (.iload 4, 2) := by decide +kernel
theorem dX0_letGo_106 : decode cX0_letGo 106 = .ok (.dup2, 1) := by decide +kernel
theorem dX0_letGo_107 : decode cX0_letGo 107 = .ok (.iaload, 1) := by decide +kernel
theorem dX0_letGo_108 : decode cX0_letGo 108 = .ok (.aload_n 2, 1) := by decide +kernel
theorem dX0_letGo_109 : decode cX0_letGo 109 = .ok (.getfield 108, 3) := by decide +kernel
theorem dX0_letGo_112 : decode cX0_letGo 112 = .ok (.iload_n 3, 1) := by decide +kernel
theorem dX0_letGo_113 : decode cX0_letGo 113 = .ok (.iaload, 1) := by decide +kernel
theorem dX0_letGo_114 : decode cX0_letGo 114 = .ok (.isub, 1) := by decide +kernel
theorem dX0_letGo_115 : decode cX0_letGo 115 = .ok (.iastore, 1) := by decide +kernel
theorem dX0_letGo_116 : decode cX0_letGo 116 = .ok (.iconst 0, 1) := by decide +kernel
theorem dX0_letGo_117 : decode cX0_letGo 117 = .ok (.istore 5, 2) := by decide +kernel
theorem dX0_letGo_119 : decode cX0_letGo 119 = .ok (.iload 5, 2) := by decide +kernel
theorem dX0_letGo_121 : decode cX0_letGo 121 = .ok (.aload_n 1, 1) := by decide +kernel
theorem dX0_letGo_122 : decode cX0_letGo 122 = .ok (.getfield 69, 3) := by decide +kernel
theorem dX0_letGo_125 : decode cX0_letGo 125 = .ok (.if_icmp .ge 36, 3) := by decide +kernel
theorem dX0_letGo_128 : decode cX0_letGo 128 = .ok (.aload_n 1, 1) := by decide +kernel
theorem dX0_letGo_129 : decode cX0_letGo 129 = .ok (.getfield 111, 3) := by decide +kernel
theorem dX0_letGo_132 : decode cX0_letGo 132 = .ok (.iload 5, 2) := by decide +kernel
theorem dX0_letGo_134 : decode cX0_letGo 134 = .ok (.iaload, 1) := by decide +kernel
theorem dX0_letGo_135 : decode cX0_letGo 135 = .ok (.iload 4, 2) := by decide +kernel
theorem dX0_letGo_137 : decode cX0_letGo 137 = .ok (.invokestatic 72, 3) := by decide +kernel
theorem dX0_letGo_140 : decode cX0_letGo 140 = .ok (.istore 6, 2) := by decide +kernel
theorem dX0_letGo_142 : decode cX0_letGo 142 = .ok (.aload_n 0, 1) := by decide +kernel
theorem dX0_letGo_143 : decode cX0_letGo 143 = .ok (.iload 6, 2) := by decide +kernel
theorem dX0_letGo_145 : decode cX0_letGo 145 = .ok (.aload_n 2, 1) := by decide +kernel
theorem dX0_letGo_146 : decode cX0_letGo 146 = .ok (.getfield 99, 3) := by decide +kernel
theorem dX0_letGo_149 : decode cX0_letGo 149 = .ok (.iload 6, 2) := by decide +kernel
theorem dX0_letGo_151 : decode cX0_letGo 151 = .ok (.iaload, 1) := by decide +kernel
theorem dX0_letGo_152 : decode cX0_letGo 152 = .ok (.invokevirtual 114, 3) := by decide +kernel
theorem dX0_letGo_155 : decode cX0_letGo 155 = .ok (.iinc 5 1, 3) := by decide +kernel
theorem dX0_letGo_158 : decode cX0_letGo 158 = .ok (.goto (-39), 3) := by decide +kernel
theorem dX0_letGo_161 : decode cX0_letGo 161 = .ok (.iinc 3 1, 3) := by decide +kernel
theorem dX0_letGo_164 : decode cX0_letGo 164 = .ok (.goto (-80), 3) := by decide +kernel
theorem dX0_letGo_167 : decode cX0_letGo 167 = .ok (.return_, 1) := by decide +kernel
theorem dX0_takeFromBelt_0 : decode cX0_takeFromBelt 0 = .ok (.iconst 0, 1) := by decide +kernel
theorem dX0_takeFromBelt_1 : decode cX0_takeFromBelt 1 = .ok (.istore_n 3, 1) := by decide +kernel
theorem dX0_takeFromBelt_2 : decode cX0_takeFromBelt 2 = .ok (.iload_n 3, 1) := by decide +kernel
theorem dX0_takeFromBelt_3 : decode cX0_takeFromBelt 3 = .ok (.iload_n 2, 1) := by decide +kernel
theorem dX0_takeFromBelt_4 : decode cX0_takeFromBelt 4 = .ok (.if_icmp .ge 78, 3) := by decide +kernel
theorem dX0_takeFromBelt_7 : decode cX0_takeFromBelt 7 = .ok (.aload_n 0, 1) := by decide +kernel
theorem dX0_takeFromBelt_8 : decode cX0_takeFromBelt 8 = .ok (.getfield 40, 3) := by decide +kernel
theorem dX0_takeFromBelt_11 : decode cX0_takeFromBelt 11 = .ok (.aload_n 0, 1) := by decide +kernel
theorem dX0_takeFromBelt_12 : decode cX0_takeFromBelt 12 = .ok (.getfield 43, 3) := by decide +kernel
theorem dX0_takeFromBelt_15 : decode cX0_takeFromBelt 15 = .ok (.if_icmp .ge 67, 3) := by decide +kernel
theorem dX0_takeFromBelt_18 : decode cX0_takeFromBelt 18 = .ok (.aload_n 0, 1) := by decide +kernel
theorem dX0_takeFromBelt_19 : decode cX0_takeFromBelt 19 = .ok (.getfield 37, 3) := by decide +kernel
theorem dX0_takeFromBelt_22 : decode cX0_takeFromBelt 22 = .ok (.aload_n 0, 1) := by decide +kernel
theorem dX0_takeFromBelt_23 : decode cX0_takeFromBelt 23 = .ok (.getfield 40, 3) := by decide +kernel
theorem dX0_takeFromBelt_26 : decode cX0_takeFromBelt 26 = .ok (.iaload, 1) := by decide +kernel
theorem dX0_takeFromBelt_27 : decode cX0_takeFromBelt 27 = .ok (.istore 4, 2) := by decide +kernel
theorem dX0_takeFromBelt_29 : decode cX0_takeFromBelt 29 = .ok (.aload_n 0, 1) := by decide +kernel
theorem dX0_takeFromBelt_30 : decode cX0_takeFromBelt 30 = .ok (.dup, 1) := by decide +kernel
theorem dX0_takeFromBelt_31 : decode cX0_takeFromBelt 31 = .ok (.getfield 40, 3) := by decide +kernel
theorem dX0_takeFromBelt_34 : decode cX0_takeFromBelt 34 = .ok (.iconst 1, 1) := by decide +kernel
theorem dX0_takeFromBelt_35 : decode cX0_takeFromBelt 35 = .ok (.iadd, 1) := by decide +kernel
theorem dX0_takeFromBelt_36 : decode cX0_takeFromBelt 36 = .ok (.putfield 40, 3) := by decide +kernel
theorem dX0_takeFromBelt_39 : decode cX0_takeFromBelt 39 = .ok (.iinc 3 1, 3) := by decide +kernel
theorem dX0_takeFromBelt_42 : decode cX0_takeFromBelt 42 = .ok (.aload_n 0, 1) := by decide +kernel
theorem dX0_takeFromBelt_43 : decode cX0_takeFromBelt 43 = .ok (.aload_n 1, 1) := by decide +kernel
theorem dX0_takeFromBelt_44 : decode cX0_takeFromBelt 44 = .ok (.iload 4, 2) := by decide +kernel
theorem dX0_takeFromBelt_46 : decode cX0_takeFromBelt 46 = .ok (.invokestatic 118, 3) := by decide +kernel
theorem dX0_takeFromBelt_49 : decode cX0_takeFromBelt 49 = .ok (.invokevirtual 122, 3) := by decide +kernel
theorem dX0_takeFromBelt_52 : decode cX0_takeFromBelt 52 = .ok (.ifCond .ne 12, 3) := by decide +kernel
theorem dX0_takeFromBelt_55 : decode cX0_takeFromBelt 55 = .ok (.aload_n 0, 1) := by decide +kernel
theorem dX0_takeFromBelt_56 : decode cX0_takeFromBelt 56 = .ok (.iload 4, 2) := by decide +kernel
theorem dX0_takeFromBelt_58 : decode cX0_takeFromBelt 58 = .ok (.invokevirtual 126, 3) := by decide +kernel
theorem dX0_takeFromBelt_61 : decode cX0_takeFromBelt 61 = .ok (.goto 18, 3) := by decide +kernel
theorem dX0_takeFromBelt_64 : decode cX0_takeFromBelt 64 = .ok (.aload_n 0, 1) := by decide +kernel
theorem dX0_takeFromBelt_65 : decode cX0_takeFromBelt 65 = .ok (.aload_n 1, 1) := by decide +kernel
theorem dX0_takeFromBelt_66 : decode cX0_takeFromBelt 66 = .ok (.iload 4, 2) := by decide +kernel
theorem dX0_takeFromBelt_68 : decode cX0_takeFromBelt 68 = .ok (.invokevirtual 130, 3) := by decide +kernel
theorem dX0_takeFromBelt_71 : decode cX0_takeFromBelt 71 = .ok (.ifCond .eq 8, 3) := by decide +kernel
theorem dX0_takeFromBelt_74 : decode cX0_takeFromBelt 74 = .ok (.aload_n 0, 1) := by decide +kernel
theorem dX0_takeFromBelt_75 : decode cX0_takeFromBelt 75 = .ok (.aload_n 1, 1) := by decide +kernel
theorem dX0_takeFromBelt_76 : decode cX0_takeFromBelt 76 = .ok (.invokevirtual 133, 3) := by decide +kernel
theorem dX0_takeFromBelt_79 : decode cX0_takeFromBelt 79 = .ok (.goto (-77), 3) := by decide +kernel
theorem dX0_takeFromBelt_82 : decode cX0_takeFromBelt 82 = .ok (.iload_n 3, 1) := by decide +kernel
theorem dX0_takeFromBelt_83 : decode cX0_takeFromBelt 83 = .ok (.ireturn, 1) := by decide +kernel
theorem dX0_bringStock_0 : decode cX0_bringStock 0 = .ok (.aload_n 0, 1) := by decide +kernel
theorem dX0_bringStock_1 : decode cX0_bringStock 1 = .ok (.getfield 9, 3) := by decide +kernel
theorem dX0_bringStock_4 : decode cX0_bringStock 4 = .ok (.iload_n 2, 1) := by decide +kernel
theorem dX0_bringStock_5 : decode cX0_bringStock 5 = .ok (.aload_n 0, 1) := by decide +kernel
theorem dX0_bringStock_6 : decode cX0_bringStock 6 = .ok (.getfield 9, 3) := by decide +kernel
theorem dX0_bringStock_9 : decode cX0_bringStock 9 = .ok (.iload_n 2, 1) := by decide +kernel
theorem dX0_bringStock_10 : decode cX0_bringStock 10 = .ok (.iaload, 1) := by decide +kernel
theorem dX0_bringStock_11 : decode cX0_bringStock 11 = .ok (.iload_n 3, 1) := by decide +kernel
theorem dX0_bringStock_12 : decode cX0_bringStock 12 = .ok (.iadd, 1) := by decide +kernel
theorem dX0_bringStock_13 : decode cX0_bringStock 13 = .ok (.bipush 99, 2) := by decide +kernel
theorem dX0_bringStock_15 : decode cX0_bringStock 15 = .ok (.invokestatic 137, 3) := by decide +kernel
theorem dX0_bringStock_18 : decode cX0_bringStock 18 = .ok (.iastore, 1) := by decide +kernel
theorem dX0_bringStock_19 : decode cX0_bringStock 19 = .ok (.iconst 0, 1) := by decide +kernel
theorem dX0_bringStock_20 : decode cX0_bringStock 20 = .ok (.istore 4, 2) := by decide +kernel
theorem dX0_bringStock_22 : decode cX0_bringStock 22 = .ok (.iconst 0, 1) := by decide +kernel
theorem dX0_bringStock_23 : decode cX0_bringStock 23 = .ok (.istore 5, 2) := by decide +kernel
theorem dX0_bringStock_25 : decode cX0_bringStock 25 = .ok (.iload 5, 2) := by decide +kernel
theorem dX0_bringStock_27 : decode cX0_bringStock 27 = .ok (.aload_n 1, 1) := by decide +kernel
theorem dX0_bringStock_28 : decode cX0_bringStock 28 = .ok (.getfield 69, 3) := by decide +kernel
theorem dX0_bringStock_31 : decode cX0_bringStock 31 = .ok (.if_icmp .ge 78, 3) := by decide +kernel
theorem dX0_bringStock_34 : decode cX0_bringStock 34 = .ok (.aload_n 1, 1) := by decide +kernel
theorem dX0_bringStock_35 : decode cX0_bringStock 35 = .ok (.getfield 111, 3) := by decide +kernel
theorem dX0_bringStock_38 : decode cX0_bringStock 38 = .ok (.iload 5, 2) := by decide +kernel
theorem dX0_bringStock_40 : decode cX0_bringStock 40 = .ok (.iaload, 1) := by decide +kernel
theorem dX0_bringStock_41 : decode cX0_bringStock 41 = .ok (.iload_n 2, 1) := by decide +kernel
theorem dX0_bringStock_42 : decode cX0_bringStock 42 = .ok (.invokestatic 72, 3) := by decide +kernel
theorem dX0_bringStock_45 : decode cX0_bringStock 45 = .ok (.istore 6, 2) := by decide +kernel
theorem dX0_bringStock_47 : decode cX0_bringStock 47 = .ok (.aload_n 0, 1) := by decide +kernel
theorem dX0_bringStock_48 : decode cX0_bringStock 48 = .ok (.getfield 27, 3) := by decide +kernel
theorem dX0_bringStock_51 : decode cX0_bringStock 51 = .ok (.iload 6, 2) := by decide +kernel
theorem dX0_bringStock_53 : decode cX0_bringStock 53 = .ok (.iaload, 1) := by decide +kernel
theorem dX0_bringStock_54 : decode cX0_bringStock 54 = .ok (.aload_n 0, 1) := by decide +kernel
theorem dX0_bringStock_55 : decode cX0_bringStock 55 = .ok (.getfield 9, 3) := by decide +kernel
theorem dX0_bringStock_58 : decode cX0_bringStock 58 = .ok (.iload_n 2, 1) := by decide +kernel
theorem dX0_bringStock_59 : decode cX0_bringStock 59 = .ok (.iaload, 1) := by decide +kernel
theorem dX0_bringStock_60 : decode cX0_bringStock 60 = .ok (.invokestatic 137, 3) := by decide +kernel
theorem dX0_bringStock_63 : decode cX0_bringStock 63 = .ok (.istore 7, 2) := by decide +kernel
theorem dX0_bringStock_65 : decode cX0_bringStock 65 = .ok (.aload_n 0, 1) := by decide +kernel
theorem dX0_bringStock_66 : decode cX0_bringStock 66 = .ok (.getfield 27, 3) := by decide +kernel
theorem dX0_bringStock_69 : decode cX0_bringStock 69 = .ok (.iload 6, 2) := by decide +kernel
theorem dX0_bringStock_71 : decode cX0_bringStock 71 = .ok (.dup2, 1) := by decide +kernel
theorem dX0_bringStock_72 : decode cX0_bringStock 72 = .ok (.iaload, 1) := by decide +kernel
theorem dX0_bringStock_73 : decode cX0_bringStock 73 = .ok (.iload 7, 2) := by decide +kernel
theorem dX0_bringStock_75 : decode cX0_bringStock 75 = .ok (.isub, 1) := by decide +kernel
theorem dX0_bringStock_76 : decode cX0_bringStock 76 = .ok (.iastore, 1) := by decide +kernel
theorem dX0_bringStock_77 : decode cX0_bringStock 77 = .ok (.aload_n 0, 1) := by decide +kernel
theorem dX0_bringStock_78 : decode cX0_bringStock 78 = .ok (.getfield 9, 3) := by decide +kernel
theorem dX0_bringStock_81 : decode cX0_bringStock 81 = .ok (.iload_n 2, 1) := by decide +kernel
theorem dX0_bringStock_82 : decode cX0_bringStock 82 = .ok (.dup2, 1) := by decide +kernel
theorem dX0_bringStock_83 : decode cX0_bringStock 83 = .ok (.iaload, 1) := by decide +kernel
theorem dX0_bringStock_84 : decode cX0_bringStock 84 = .ok (.iload 7, 2) := by decide +kernel
theorem dX0_bringStock_86 : decode cX0_bringStock 86 = .ok (.isub, 1) := by decide +kernel
theorem dX0_bringStock_87 : decode cX0_bringStock 87 = .ok (.iastore, 1) := by decide +kernel
theorem dX0_bringStock_88 : decode cX0_bringStock 88 = .ok (.aload_n 0, 1) := by decide +kernel
theorem dX0_bringStock_89 : decode cX0_bringStock 89 = .ok (.iload 6, 2) := by decide +kernel
theorem dX0_bringStock_91 : decode cX0_bringStock 91 = .ok (.iload 7, 2) := by decide +kernel
theorem dX0_bringStock_93 : decode cX0_bringStock 93 = .ok (.invokevirtual 114, 3) := by decide +kernel
theorem dX0_bringStock_96 : decode cX0_bringStock 96 = .ok (.iload 4, 2) := by decide +kernel
theorem dX0_bringStock_98 : decode cX0_bringStock 98 = .ok (.iload 7, 2) := by decide +kernel
theorem dX0_bringStock_100 : decode cX0_bringStock 100 = .ok (.iadd, 1) := by decide +kernel
theorem dX0_bringStock_101 : decode cX0_bringStock 101 = .ok (.istore 4, 2) := by decide +kernel
theorem dX0_bringStock_103 : decode cX0_bringStock 103 = .ok (.iinc 5 1, 3) := by decide +kernel
theorem dX0_bringStock_106 : decode cX0_bringStock 106 = .ok (.goto (-81), 3) := by decide +kernel
theorem dX0_bringStock_109 : decode cX0_bringStock 109 = .ok (.iload 4, 2) := by decide +kernel
theorem dX0_bringStock_111 : decode cX0_bringStock 111 = .ok (.ireturn, 1) := by decide +kernel
theorem dX0_putBy_0 : decode cX0_putBy 0 = .ok (.aload_n 0, 1) := by decide +kernel
theorem dX0_putBy_1 : decode cX0_putBy 1 = .ok (.getfield 18, 3) := by decide +kernel
theorem dX0_putBy_4 : decode cX0_putBy 4 = .ok (.iload_n 2, 1) := by decide +kernel
theorem dX0_putBy_5 : decode cX0_putBy 5 = .ok (.iaload, 1) := by decide +kernel
theorem dX0_putBy_6 : decode cX0_putBy 6 = .ok (.istore_n 3, 1) := by decide +kernel
theorem dX0_putBy_7 : decode cX0_putBy 7 = .ok (.aload_n 0, 1) := by decide +kernel
theorem dX0_putBy_8 : decode cX0_putBy 8 = .ok (.getfield 15, 3) := by decide +kernel
theorem dX0_putBy_11 : decode cX0_putBy 11 = .ok (.iload_n 2, 1) := by decide +kernel
theorem dX0_putBy_12 : decode cX0_putBy 12 = .ok (.iconst 3, 1) := by decide +kernel
theorem dX0_putBy_13 : decode cX0_putBy 13 = .ok (.iastore, 1) := by decide +kernel
theorem dX0_putBy_14 : decode cX0_putBy 14 = .ok (.aload_n 0, 1) := by decide +kernel
theorem dX0_putBy_15 : decode cX0_putBy 15 = .ok (.iload_n 2, 1) := by decide +kernel
theorem dX0_putBy_16 : decode cX0_putBy 16 = .ok (.invokevirtual 142, 3) := by decide +kernel
theorem dX0_putBy_19 : decode cX0_putBy 19 = .ok (.pop, 1) := by decide +kernel
theorem dX0_putBy_20 : decode cX0_putBy 20 = .ok (.aload_n 0, 1) := by decide +kernel
theorem dX0_putBy_21 : decode cX0_putBy 21 = .ok (.aload_n 1, 1) := by decide +kernel
theorem dX0_putBy_22 : decode cX0_putBy 22 = .ok (.invokevirtual 133, 3) := by decide +kernel
theorem dX0_putBy_25 : decode cX0_putBy 25 = .ok (.iload_n 3, 1) := by decide +kernel
theorem dX0_putBy_26 : decode cX0_putBy 26 = .ok (.ireturn, 1) := by decide +kernel
theorem dX0_putOnBelt_0 : decode cX0_putOnBelt 0 = .ok (.iconst 0, 1) := by decide +kernel
theorem dX0_putOnBelt_1 : decode cX0_putOnBelt 1 = .ok (.istore_n 3, 1) := by decide +kernel
theorem dX0_putOnBelt_2 : decode cX0_putOnBelt 2 = .ok (.iload_n 3, 1) := by decide +kernel
theorem dX0_putOnBelt_3 : decode cX0_putOnBelt 3 = .ok (.iload_n 2, 1) := by decide +kernel
theorem dX0_putOnBelt_4 : decode cX0_putOnBelt 4 = .ok (.if_icmp .ge 39, 3) := by decide +kernel
theorem dX0_putOnBelt_7 : decode cX0_putOnBelt 7 = .ok (.aload_n 0, 1) := by decide +kernel
theorem dX0_putOnBelt_8 : decode cX0_putOnBelt 8 = .ok (.getfield 43, 3) := by decide +kernel
theorem dX0_putOnBelt_11 : decode cX0_putOnBelt 11 = .ok (.sipush 864, 3) := by decide +kernel
theorem dX0_putOnBelt_14 : decode cX0_putOnBelt 14 = .ok (.if_icmp .ge 29, 3) := by decide +kernel
theorem dX0_putOnBelt_17 : decode cX0_putOnBelt 17 = .ok (.aload_n 0, 1) := by decide +kernel
theorem dX0_putOnBelt_18 : decode cX0_putOnBelt 18 = .ok (.getfield 37, 3) := by decide +kernel
theorem dX0_putOnBelt_21 : decode cX0_putOnBelt 21 = .ok (.aload_n 0, 1) := by decide +kernel
theorem dX0_putOnBelt_22 : decode cX0_putOnBelt 22 = .ok (.getfield 43, 3) := by decide +kernel
theorem dX0_putOnBelt_25 : decode cX0_putOnBelt 25 = .ok (.iload_n 1, 1) := by decide +kernel
theorem dX0_putOnBelt_26 : decode cX0_putOnBelt 26 = .ok (.iastore, 1) := by decide +kernel
theorem dX0_putOnBelt_27 : decode cX0_putOnBelt 27 = .ok (.aload_n 0, 1) := by decide +kernel
theorem dX0_putOnBelt_28 : decode cX0_putOnBelt 28 = .ok (.dup, 1) := by decide +kernel
theorem dX0_putOnBelt_29 : decode cX0_putOnBelt 29 = .ok (.getfield 43, 3) := by decide +kernel
theorem dX0_putOnBelt_32 : decode cX0_putOnBelt 32 = .ok (.iconst 1, 1) := by decide +kernel
theorem dX0_putOnBelt_33 : decode cX0_putOnBelt 33 = .ok (.iadd, 1) := by decide +kernel
theorem dX0_putOnBelt_34 : decode cX0_putOnBelt 34 = .ok (.putfield 43, 3) := by decide +kernel
theorem dX0_putOnBelt_37 : decode cX0_putOnBelt 37 = .ok (.iinc 3 1, 3) := by decide +kernel
theorem dX0_putOnBelt_40 : decode cX0_putOnBelt 40 = .ok (.goto (-38), 3) := by decide +kernel
theorem dX0_putOnBelt_43 : decode cX0_putOnBelt 43 = .ok (.return_, 1) := by decide +kernel
theorem dX0_putAside_0 : decode cX0_putAside 0 = .ok (.aload_n 0, 1) := by decide +kernel
theorem dX0_putAside_1 : decode cX0_putAside 1 = .ok (.getfield 49, 3) := by decide +kernel
theorem dX0_putAside_4 : decode cX0_putAside 4 = .ok (.sipush 864, 3) := by decide +kernel
theorem dX0_putAside_7 : decode cX0_putAside 7 = .ok (.if_icmp .ge 23, 3) := by decide +kernel
theorem dX0_putAside_10 : decode cX0_putAside 10 = .ok (.aload_n 0, 1) := by decide +kernel
theorem dX0_putAside_11 : decode cX0_putAside 11 = .ok (.getfield 46, 3) := by decide +kernel
theorem dX0_putAside_14 : decode cX0_putAside 14 = .ok (.aload_n 0, 1) := by decide +kernel
theorem dX0_putAside_15 : decode cX0_putAside 15 = .ok (.getfield 49, 3) := by decide +kernel
theorem dX0_putAside_18 : decode cX0_putAside 18 = .ok (.iload_n 1, 1) := by decide +kernel
theorem dX0_putAside_19 : decode cX0_putAside 19 = .ok (.iastore, 1) := by decide +kernel
theorem dX0_putAside_20 : decode cX0_putAside 20 = .ok (.aload_n 0, 1) := by decide +kernel
theorem dX0_putAside_21 : decode cX0_putAside 21 = .ok (.dup, 1) := by decide +kernel
theorem dX0_putAside_22 : decode cX0_putAside 22 = .ok (.getfield 49, 3) := by decide +kernel
theorem dX0_putAside_25 : decode cX0_putAside 25 = .ok (.iconst 1, 1) := by decide +kernel
theorem dX0_putAside_26 : decode cX0_putAside 26 = .ok (.iadd, 1) := by decide +kernel
theorem dX0_putAside_27 : decode cX0_putAside 27 = .ok (.putfield 49, 3) := by decide +kernel
theorem dX0_putAside_30 : decode cX0_putAside 30 = .ok (.return_, 1) := by decide +kernel
theorem dX0_firstFreeHole_0 : decode cX0_firstFreeHole 0 = .ok (.iconst 0, 1) := by decide +kernel
theorem dX0_firstFreeHole_1 : decode cX0_firstFreeHole 1 = .ok (.istore_n 2, 1) := by decide +kernel
theorem dX0_firstFreeHole_2 : decode cX0_firstFreeHole 2 = .ok (.iload_n 2, 1) := by decide +kernel
theorem dX0_firstFreeHole_3 : decode cX0_firstFreeHole 3 = .ok (.aload_n 1, 1) := by decide +kernel
theorem dX0_firstFreeHole_4 : decode cX0_firstFreeHole 4 = .ok (.getfield 80, 3) := by decide +kernel
theorem dX0_firstFreeHole_7 : decode cX0_firstFreeHole 7 = .ok (.if_icmp .ge 21, 3) := by decide +kernel
theorem dX0_firstFreeHole_10 : decode cX0_firstFreeHole 10 = .ok (.aload_n 0, 1) := by decide +kernel
theorem dX0_firstFreeHole_11 : decode cX0_firstFreeHole 11 = .ok (.getfield 21, 3) := by decide +kernel
theorem dX0_firstFreeHole_14 : decode cX0_firstFreeHole 14 = .ok (.iload_n 2, 1) := by decide +kernel
theorem dX0_firstFreeHole_15 : decode cX0_firstFreeHole 15 = .ok (.iaload, 1) := by decide +kernel
theorem dX0_firstFreeHole_16 : decode cX0_firstFreeHole 16 = .ok (.iconst (-1), 1) := by decide +kernel
theorem dX0_firstFreeHole_17 : decode cX0_firstFreeHole 17 = .ok (.if_icmp .ne 5, 3) := by decide +kernel
theorem dX0_firstFreeHole_20 : decode cX0_firstFreeHole 20 = .ok (.iload_n 2, 1) := by decide +kernel
theorem dX0_firstFreeHole_21 : decode cX0_firstFreeHole 21 = .ok (.ireturn, 1) := by decide +kernel
theorem dX0_firstFreeHole_22 : decode cX0_firstFreeHole 22 = .ok (.iinc 2 1, 3) := by decide +kernel
theorem dX0_firstFreeHole_25 : decode cX0_firstFreeHole 25 = .ok (.goto (-23), 3) := by decide +kernel
theorem dX0_firstFreeHole_28 : decode cX0_firstFreeHole 28 = .ok (.iconst (-1), 1) := by decide +kernel
theorem dX0_firstFreeHole_29 : decode cX0_firstFreeHole 29 = .ok (.ireturn, 1) := by decide +kernel
theorem dX0_canCome_0 : decode cX0_canCome 0 = .ok (.aload_n 0, 1) := by decide +kernel
theorem dX0_canCome_1 : decode cX0_canCome 1 = .ok (.getfield 15, 3) := by decide +kernel
theorem dX0_canCome_4 : decode cX0_canCome 4 = .ok (.iload_n 2, 1) := by decide +kernel
theorem dX0_canCome_5 : decode cX0_canCome 5 = .ok (.iaload, 1) := by decide +kernel
theorem dX0_canCome_6 : decode cX0_canCome 6 = .ok (.iconst 2, 1) := by decide +kernel
theorem dX0_canCome_7 : decode cX0_canCome 7 = .ok (.if_icmp .eq 22, 3) := by decide +kernel
theorem dX0_canCome_10 : decode cX0_canCome 10 = .ok (.aload_n 0, 1) := by decide +kernel
theorem dX0_canCome_11 : decode cX0_canCome 11 = .ok (.getfield 15, 3) := by decide +kernel
theorem dX0_canCome_14 : decode cX0_canCome 14 = .ok (.iload_n 2, 1) := by decide +kernel
theorem dX0_canCome_15 : decode cX0_canCome 15 = .ok (.iaload, 1) := by decide +kernel
theorem dX0_canCome_16 : decode cX0_canCome 16 = .ok (.iconst 3, 1) := by decide +kernel
theorem dX0_canCome_17 : decode cX0_canCome 17 = .ok (.if_icmp .eq 12, 3) := by decide +kernel
theorem dX0_canCome_20 : decode cX0_canCome 20 = .ok (.aload_n 0, 1) := by decide +kernel
theorem dX0_canCome_21 : decode cX0_canCome 21 = .ok (.aload_n 1, 1) := by decide +kernel
theorem dX0_canCome_22 : decode cX0_canCome 22 = .ok (.invokevirtual 146, 3) := by decide +kernel
theorem dX0_canCome_25 : decode cX0_canCome 25 = .ok (.iconst (-1), 1) := by decide +kernel
theorem dX0_canCome_26 : decode cX0_canCome 26 = .ok (.if_icmp .eq 7, 3) := by decide +kernel
theorem dX0_canCome_29 : decode cX0_canCome 29 = .ok (.iconst 1, 1) := by decide +kernel
theorem dX0_canCome_30 : decode cX0_canCome 30 = .ok (.goto 4, 3) := by decide +kernel
theorem dX0_canCome_33 : decode cX0_canCome 33 = .ok (.iconst 0, 1) := by decide +kernel
theorem dX0_canCome_34 : decode cX0_canCome 34 = .ok (.ireturn, 1) := by decide +kernel
theorem dX0_come_0 : decode cX0_come 0 = .ok (.iload_n 2, 1) := by decide +kernel
theorem dX0_come_1 : decode cX0_come 1 = .ok (.invokestatic 118, 3) := by decide +kernel
theorem dX0_come_4 : decode cX0_come 4 = .ok (.istore_n 3, 1) := by decide +kernel
theorem dX0_come_5 : decode cX0_come 5 = .ok (.aload_n 0, 1) := by decide +kernel
theorem dX0_come_6 : decode cX0_come 6 = .ok (.getfield 15, 3) := by decide +kernel
theorem dX0_come_9 : decode cX0_come 9 = .ok (.iload_n 3, 1) := by decide +kernel
theorem dX0_come_10 : decode cX0_come 10 = .ok (.iaload, 1) := by decide +kernel
theorem dX0_come_11 : decode cX0_come 11 = .ok (.iconst 1, 1) := by decide +kernel
theorem dX0_come_12 : decode cX0_come 12 = .ok (.if_icmp .ne 13, 3) := by decide +kernel
theorem dX0_come_15 : decode cX0_come 15 = .ok (.aload_n 0, 1) := by decide +kernel
theorem dX0_come_16 : decode cX0_come 16 = .ok (.iload_n 3, 1) := by decide +kernel
theorem dX0_come_17 : decode cX0_come 17 = .ok (.aload_n 0, 1) := by decide +kernel
theorem dX0_come_18 : decode cX0_come 18 = .ok (.aload_n 1, 1) := by decide +kernel
theorem dX0_come_19 : decode cX0_come 19 = .ok (.invokevirtual 146, 3) := by decide +kernel
theorem dX0_come_22 : decode cX0_come 22 = .ok (.invokevirtual 150, 3) := by decide +kernel
theorem dX0_come_25 : decode cX0_come 25 = .ok (.aload_n 0, 1) := by decide +kernel
theorem dX0_come_26 : decode cX0_come 26 = .ok (.getfield 24, 3) := by decide +kernel
theorem dX0_come_29 : decode cX0_come 29 = .ok (.iload_n 2, 1) := by decide +kernel
theorem dX0_come_30 : decode cX0_come 30 = .ok (.dup2, 1) := by decide +kernel
theorem dX0_come_31 : decode cX0_come 31 = .ok (.iaload, 1) := by decide +kernel
theorem dX0_come_32 : decode cX0_come 32 = .ok (.iconst 1, 1) := by decide +kernel
theorem dX0_come_33 : decode cX0_come 33 = .ok (.iadd, 1) := by decide +kernel
theorem dX0_come_34 : decode cX0_come 34 = .ok (.iastore, 1) := by decide +kernel
theorem dX0_come_35 : decode cX0_come 35 = .ok (.aload_n 0, 1) := by decide +kernel
theorem dX0_come_36 : decode cX0_come 36 = .ok (.getfield 24, 3) := by decide +kernel
theorem dX0_come_39 : decode cX0_come 39 = .ok (.iload_n 3, 1) := by decide +kernel
theorem dX0_come_40 : decode cX0_come 40 = .ok (.invokestatic 76, 3) := by decide +kernel
theorem dX0_come_43 : decode cX0_come 43 = .ok (.aload_n 1, 1) := by decide +kernel
theorem dX0_come_44 : decode cX0_come 44 = .ok (.getfield 83, 3) := by decide +kernel
theorem dX0_come_47 : decode cX0_come 47 = .ok (.iload_n 3, 1) := by decide +kernel
theorem dX0_come_48 : decode cX0_come 48 = .ok (.iaload, 1) := by decide +kernel
theorem dX0_come_49 : decode cX0_come 49 = .ok (.if_icmp .ge 5, 3) := by decide +kernel
theorem dX0_come_52 : decode cX0_come 52 = .ok (.iconst 0, 1) := by decide +kernel
theorem dX0_come_53 : decode cX0_come 53 = .ok (.ireturn, 1) := by decide +kernel
theorem dX0_come_54 : decode cX0_come 54 = .ok (.aload_n 0, 1) := by decide +kernel
theorem dX0_come_55 : decode cX0_come 55 = .ok (.getfield 15, 3) := by decide +kernel
theorem dX0_come_58 : decode cX0_come 58 = .ok (.iload_n 3, 1) := by decide +kernel
theorem dX0_come_59 : decode cX0_come 59 = .ok (.iconst 4, 1) := by decide +kernel
theorem dX0_come_60 : decode cX0_come 60 = .ok (.iastore, 1) := by decide +kernel
theorem dX0_come_61 : decode cX0_come 61 = .ok (.aload_n 0, 1) := by decide +kernel
theorem dX0_come_62 : decode cX0_come 62 = .ok (.getfield 33, 3) := by decide +kernel
theorem dX0_come_65 : decode cX0_come 65 = .ok (.bipush 16, 2) := by decide +kernel
theorem dX0_come_67 : decode cX0_come 67 = .ok (.if_icmp .ge 23, 3) := by decide +kernel
theorem dX0_come_70 : decode cX0_come 70 = .ok (.aload_n 0, 1) := by decide +kernel
theorem dX0_come_71 : decode cX0_come 71 = .ok (.getfield 30, 3) := by decide +kernel
theorem dX0_come_74 : decode cX0_come 74 = .ok (.aload_n 0, 1) := by decide +kernel
theorem dX0_come_75 : decode cX0_come 75 = .ok (.getfield 33, 3) := by decide +kernel
theorem dX0_come_78 : decode cX0_come 78 = .ok (.iload_n 3, 1) := by decide +kernel
theorem dX0_come_79 : decode cX0_come 79 = .ok (.iastore, 1) := by decide +kernel
theorem dX0_come_80 : decode cX0_come 80 = .ok (.aload_n 0, 1) := by decide +kernel
theorem dX0_come_81 : decode cX0_come 81 = .ok (.dup, 1) := by decide +kernel
theorem dX0_come_82 : decode cX0_come 82 = .ok (.getfield 33, 3) := by decide +kernel
theorem dX0_come_85 : decode cX0_come 85 = .ok (.iconst 1, 1) := by decide +kernel
theorem dX0_come_86 : decode cX0_come 86 = .ok (.iadd, 1) := by decide +kernel
theorem dX0_come_87 : decode cX0_come 87 = .ok (.putfield 33, 3) := by decide +kernel
theorem dX0_come_90 : decode cX0_come 90 = .ok (.aload_n 0, 1) := by decide +kernel
theorem dX0_come_91 : decode cX0_come 91 = .ok (.iload_n 3, 1) := by decide +kernel
theorem dX0_come_92 : decode cX0_come 92 = .ok (.invokevirtual 142, 3) := by decide +kernel
theorem dX0_come_95 : decode cX0_come 95 = .ok (.ireturn, 1) := by decide +kernel
theorem dX0_takeHole_0 : decode cX0_takeHole 0 = .ok (.iload_n 2, 1) := by decide +kernel
theorem dX0_takeHole_1 : decode cX0_takeHole 1 = .ok (.iconst (-1), 1) := by decide +kernel
theorem dX0_takeHole_2 : decode cX0_takeHole 2 = .ok (.if_icmp .eq 24, 3) := by decide +kernel
theorem dX0_takeHole_5 : decode cX0_takeHole 5 = .ok (.aload_n 0, 1) := by decide +kernel
theorem dX0_takeHole_6 : decode cX0_takeHole 6 = .ok (.getfield 21, 3) := by decide +kernel
theorem dX0_takeHole_9 : decode cX0_takeHole 9 = .ok (.iload_n 2, 1) := by decide +kernel
theorem dX0_takeHole_10 : decode cX0_takeHole 10 = .ok (.iload_n 1, 1) := by decide +kernel
theorem dX0_takeHole_11 : decode cX0_takeHole 11 = .ok (.iastore, 1) := by decide +kernel
theorem dX0_takeHole_12 : decode cX0_takeHole 12 = .ok (.aload_n 0, 1) := by decide +kernel
theorem dX0_takeHole_13 : decode cX0_takeHole 13 = .ok (.getfield 18, 3) := by decide +kernel
theorem dX0_takeHole_16 : decode cX0_takeHole 16 = .ok (.iload_n 1, 1) := by decide +kernel
theorem dX0_takeHole_17 : decode cX0_takeHole 17 = .ok (.iload_n 2, 1) := by decide +kernel
theorem dX0_takeHole_18 : decode cX0_takeHole 18 = .ok (.iastore, 1) := by decide +kernel
theorem dX0_takeHole_19 : decode cX0_takeHole 19 = .ok (.aload_n 0, 1) := by decide +kernel
theorem dX0_takeHole_20 : decode cX0_takeHole 20 = .ok (.getfield 15, 3) := by decide +kernel
theorem dX0_takeHole_23 : decode cX0_takeHole 23 = .ok (.iload_n 1, 1) := by decide +kernel
theorem dX0_takeHole_24 : decode cX0_takeHole 24 = .ok (.iconst 2, 1) := by decide +kernel
theorem dX0_takeHole_25 : decode cX0_takeHole 25 = .ok (.iastore, 1) := by decide +kernel
theorem dX0_takeHole_26 : decode cX0_takeHole 26 = .ok (.return_, 1) := by decide +kernel
theorem dX0_leaveHole_0 : decode cX0_leaveHole 0 = .ok (.aload_n 0, 1) := by decide +kernel
theorem dX0_leaveHole_1 : decode cX0_leaveHole 1 = .ok (.getfield 18, 3) := by decide +kernel
theorem dX0_leaveHole_4 : decode cX0_leaveHole 4 = .ok (.iload_n 1, 1) := by decide +kernel
theorem dX0_leaveHole_5 : decode cX0_leaveHole 5 = .ok (.iaload, 1) := by decide +kernel
theorem dX0_leaveHole_6 : decode cX0_leaveHole 6 = .ok (.istore_n 2, 1) := by decide +kernel
theorem dX0_leaveHole_7 : decode cX0_leaveHole 7 = .ok (.iload_n 2, 1) := by decide +kernel
theorem dX0_leaveHole_8 : decode cX0_leaveHole 8 = .ok (.iconst (-1), 1) := by decide +kernel
theorem dX0_leaveHole_9 : decode cX0_leaveHole 9 = .ok (.if_icmp .ne 5, 3) := by decide +kernel
theorem dX0_leaveHole_12 : decode cX0_leaveHole 12 = .ok (.iconst 0, 1) := by decide +kernel
theorem dX0_leaveHole_13 : decode cX0_leaveHole 13 = .ok (.ireturn, 1) := by decide +kernel
theorem dX0_leaveHole_14 : decode cX0_leaveHole 14 = .ok (.aload_n 0, 1) := by decide +kernel
theorem dX0_leaveHole_15 : decode cX0_leaveHole 15 = .ok (.getfield 21, 3) := by decide +kernel
theorem dX0_leaveHole_18 : decode cX0_leaveHole 18 = .ok (.iload_n 2, 1) := by decide +kernel
theorem dX0_leaveHole_19 : decode cX0_leaveHole 19 = .ok (.iconst (-1), 1) := by decide +kernel
theorem dX0_leaveHole_20 : decode cX0_leaveHole 20 = .ok (.iastore, 1) := by decide +kernel
theorem dX0_leaveHole_21 : decode cX0_leaveHole 21 = .ok (.aload_n 0, 1) := by decide +kernel
theorem dX0_leaveHole_22 : decode cX0_leaveHole 22 = .ok (.getfield 18, 3) := by decide +kernel
theorem dX0_leaveHole_25 : decode cX0_leaveHole 25 = .ok (.iload_n 1, 1) := by decide +kernel
theorem dX0_leaveHole_26 : decode cX0_leaveHole 26 = .ok (.iconst (-1), 1) := by decide +kernel
theorem dX0_leaveHole_27 : decode cX0_leaveHole 27 = .ok (.iastore, 1) := by decide +kernel
theorem dX0_leaveHole_28 : decode cX0_leaveHole 28 = .ok (.iconst 1, 1) := by decide +kernel
theorem dX0_leaveHole_29 : decode cX0_leaveHole 29 = .ok (.ireturn, 1) := by decide +kernel
theorem dX0_settleAside_0 : decode cX0_settleAside 0 = .ok (.iconst 0, 1) := by decide +kernel
theorem dX0_settleAside_1 : decode cX0_settleAside 1 = .ok (.istore_n 2, 1) := by decide +kernel
theorem dX0_settleAside_2 : decode cX0_settleAside 2 = .ok (.iload_n 2, 1) := by decide +kernel
theorem dX0_settleAside_3 : decode cX0_settleAside 3 = .ok (.sipush 864, 3) := by decide +kernel
theorem dX0_settleAside_6 : decode cX0_settleAside 6 = .ok (.if_icmp .gt 18, 3) := by decide +kernel
theorem dX0_settleAside_9 : decode cX0_settleAside 9 = .ok (.aload_n 0, 1) := by decide +kernel
theorem dX0_settleAside_10 : decode cX0_settleAside 10 = .ok (.aload_n 1, 1) := by decide +kernel
theorem dX0_settleAside_11 : decode cX0_settleAside 11 = .ok (.invokevirtual 153, 3) := by decide +kernel
theorem dX0_settleAside_14 : decode cX0_settleAside 14 = .ok (.ifCond .ne 4, 3) := by decide +kernel
theorem dX0_settleAside_17 : decode cX0_settleAside 17 = .ok (.return_, 1) := by decide +kernel
theorem dX0_settleAside_18 : decode cX0_settleAside 18 = .ok (.iinc 2 1, 3) := by decide +kernel
theorem dX0_settleAside_21 : decode cX0_settleAside 21 = .ok (.goto (-19), 3) := by decide +kernel
theorem dX0_settleAside_24 : decode cX0_settleAside 24 = .ok (.return_, 1) := by decide +kernel
theorem dX0_goThroughAside_0 : decode cX0_goThroughAside 0 = .ok (.aload_n 0, 1) := by decide +kernel
theorem dX0_goThroughAside_1 : decode cX0_goThroughAside 1 = .ok (.getfield 49, 3) := by decide +kernel
theorem dX0_goThroughAside_4 : decode cX0_goThroughAside 4 = .ok (.istore_n 2, 1) := by decide +kernel
theorem dX0_goThroughAside_5 : decode cX0_goThroughAside 5 = .ok (.iconst 0, 1) := by decide +kernel
theorem dX0_goThroughAside_6 : decode cX0_goThroughAside 6 = .ok (.istore_n 3, 1) := by decide +kernel
theorem dX0_goThroughAside_7 : decode cX0_goThroughAside 7 = .ok (.iconst 0, 1) := by decide +kernel
theorem dX0_goThroughAside_8 : decode cX0_goThroughAside 8 = .ok (.istore 4, 2) := by decide +kernel
theorem dX0_goThroughAside_10 : decode cX0_goThroughAside 10 = .ok (.iconst 0, 1) := by decide +kernel
theorem dX0_goThroughAside_11 : decode cX0_goThroughAside 11 = .ok (.istore 5, 2) := by decide +kernel
theorem dX0_goThroughAside_13 : decode cX0_goThroughAside 13 = .ok (.iload 5, 2) := by decide +kernel
theorem dX0_goThroughAside_15 : decode cX0_goThroughAside 15 = .ok (.iload_n 2, 1) := by decide +kernel
theorem dX0_goThroughAside_16 : decode cX0_goThroughAside 16 = .ok (.if_icmp .ge 59, 3) := by decide +kernel
theorem dX0_goThroughAside_19 : decode cX0_goThroughAside 19 = .ok (.aload_n 0, 1) := by decide +kernel
theorem dX0_goThroughAside_20 : decode cX0_goThroughAside 20 = .ok (.getfield 46, 3) := by decide +kernel
theorem dX0_goThroughAside_23 : decode cX0_goThroughAside 23 = .ok (.iload 5, 2) := by decide +kernel
theorem dX0_goThroughAside_25 : decode cX0_goThroughAside 25 = .ok (.iaload, 1) := by decide +kernel
theorem dX0_goThroughAside_26 : decode cX0_goThroughAside 26 = .ok (.istore 6, 2) := by decide +kernel
theorem dX0_goThroughAside_28 : decode cX0_goThroughAside 28 = .ok (.iload 4, 2) := by decide +kernel
theorem dX0_goThroughAside_30 : decode cX0_goThroughAside 30 = .ok (.ifCond .ne 28, 3) := by decide +kernel
theorem dX0_goThroughAside_33 : decode cX0_goThroughAside 33 = .ok (.aload_n 0, 1) := by decide +kernel
theorem dX0_goThroughAside_34 : decode cX0_goThroughAside 34 = .ok (.aload_n 1, 1) := by decide +kernel
theorem dX0_goThroughAside_35 : decode cX0_goThroughAside 35 = .ok (.iload 6, 2) := by decide +kernel
theorem dX0_goThroughAside_37 : decode cX0_goThroughAside 37 = .ok (.invokestatic 118, 3) := by decide +kernel
theorem dX0_goThroughAside_40 : decode cX0_goThroughAside 40 = .ok (.invokevirtual 122, 3) := by decide +kernel
theorem dX0_goThroughAside_43 : decode cX0_goThroughAside 43 = .ok (.ifCond .eq 15, 3) := by decide +kernel
theorem dX0_goThroughAside_46 : decode cX0_goThroughAside 46 = .ok (.aload_n 0, 1) := by decide +kernel
theorem dX0_goThroughAside_47 : decode cX0_goThroughAside 47 = .ok (.aload_n 1, 1) := by decide +kernel
theorem dX0_goThroughAside_48 : decode cX0_goThroughAside 48 = .ok (.iload 6, 2) := by decide +kernel
theorem dX0_goThroughAside_50 : decode cX0_goThroughAside 50 = .ok (.invokevirtual 130, 3) := by decide +kernel
theorem dX0_goThroughAside_53 : decode cX0_goThroughAside 53 = .ok (.istore 4, 2) := by decide +kernel
theorem dX0_goThroughAside_55 : decode cX0_goThroughAside 55 = .ok (.goto 14, 3) := by decide +kernel
theorem dX0_goThroughAside_58 : decode cX0_goThroughAside 58 = .ok (.aload_n 0, 1) := by decide +kernel
theorem dX0_goThroughAside_59 : decode cX0_goThroughAside 59 = .ok (.getfield 46, 3) := by decide +kernel
theorem dX0_goThroughAside_62 : decode cX0_goThroughAside 62 = .ok (.iload_n 3, 1) := by decide +kernel
theorem dX0_goThroughAside_63 : decode cX0_goThroughAside 63 = .ok (.iload 6, 2) := by decide +kernel
theorem dX0_goThroughAside_65 : decode cX0_goThroughAside 65 = .ok (.iastore, 1) := by decide +kernel
theorem dX0_goThroughAside_66 : decode cX0_goThroughAside 66 = .ok (.iinc 3 1, 3) := by decide +kernel
theorem dX0_goThroughAside_69 : decode cX0_goThroughAside 69 = .ok (.iinc 5 1, 3) := by decide +kernel
theorem dX0_goThroughAside_72 : decode cX0_goThroughAside 72 = .ok (.goto (-59), 3) := by decide +kernel
theorem dX0_goThroughAside_75 : decode cX0_goThroughAside 75 = .ok (.aload_n 0, 1) := by decide +kernel
theorem dX0_goThroughAside_76 : decode cX0_goThroughAside 76 = .ok (.iload_n 3, 1) := by decide +kernel
theorem dX0_goThroughAside_77 : decode cX0_goThroughAside 77 = .ok (.putfield 49, 3) := by decide +kernel
theorem dX0_goThroughAside_80 : decode cX0_goThroughAside 80 = .ok (.iload_n 3, 1) := by decide +kernel
theorem dX0_goThroughAside_81 : decode cX0_goThroughAside 81 = .ok (.iload_n 2, 1) := by decide +kernel
theorem dX0_goThroughAside_82 : decode cX0_goThroughAside 82 = .ok (.if_icmp .ge 7, 3) := by decide +kernel
theorem dX0_goThroughAside_85 : decode cX0_goThroughAside 85 = .ok (.iconst 1, 1) := by decide +kernel
theorem dX0_goThroughAside_86 : decode cX0_goThroughAside 86 = .ok (.goto 4, 3) := by decide +kernel
theorem dX0_goThroughAside_89 : decode cX0_goThroughAside 89 = .ok (.iconst 0, 1) := by decide +kernel
theorem dX0_goThroughAside_90 : decode cX0_goThroughAside 90 = .ok (.ireturn, 1) := by decide +kernel
theorem dX1_init_0 : decode cX1_init 0 = .ok (.aload_n 0, 1) := by decide +kernel
theorem dX1_init_1 : decode cX1_init 1 = .ok (.invokespecial 3, 3) := by decide +kernel
theorem dX1_init_4 : decode cX1_init 4 = .ok (.aload_n 0, 1) := by decide +kernel
theorem dX1_init_5 : decode cX1_init 5 = .ok (.iconst 0, 1) := by decide +kernel
theorem dX1_init_6 : decode cX1_init 6 = .ok (.putfield 9, 3) := by decide +kernel
theorem dX1_init_9 : decode cX1_init 9 = .ok (.aload_n 0, 1) := by decide +kernel
theorem dX1_init_10 : decode cX1_init 10 = .ok (.iconst 0, 1) := by decide +kernel
theorem dX1_init_11 : decode cX1_init 11 = .ok (.putfield 15, 3) := by decide +kernel
theorem dX1_init_14 : decode cX1_init 14 = .ok (.aload_n 0, 1) := by decide +kernel
theorem dX1_init_15 : decode cX1_init 15 = .ok (.bipush 10, 2) := by decide +kernel
theorem dX1_init_17 : decode cX1_init 17 = .ok (.newarray .int, 2) := by decide +kernel
theorem dX1_init_19 : decode cX1_init 19 = .ok (.putfield 18, 3) := by decide +kernel
theorem dX1_init_22 : decode cX1_init 22 = .ok (.aload_n 0, 1) := by decide +kernel
theorem dX1_init_23 : decode cX1_init 23 = .ok (.bipush 10, 2) := by decide +kernel
theorem dX1_init_25 : decode cX1_init 25 = .ok (.newarray .int, 2) := by decide +kernel
theorem dX1_init_27 : decode cX1_init 27 = .ok (.putfield 22, 3) := by decide +kernel
theorem dX1_init_30 : decode cX1_init 30 = .ok (.aload_n 0, 1) := by decide +kernel
theorem dX1_init_31 : decode cX1_init 31 = .ok (.sipush 160, 3) := by decide +kernel
theorem dX1_init_34 : decode cX1_init 34 = .ok (.newarray .int, 2) := by decide +kernel
theorem dX1_init_36 : decode cX1_init 36 = .ok (.putfield 25, 3) := by decide +kernel
theorem dX1_init_39 : decode cX1_init 39 = .ok (.aload_n 0, 1) := by decide +kernel
theorem dX1_init_40 : decode cX1_init 40 = .ok (.bipush 6, 2) := by decide +kernel
theorem dX1_init_42 : decode cX1_init 42 = .ok (.newarray .int, 2) := by decide +kernel
theorem dX1_init_44 : decode cX1_init 44 = .ok (.putfield 28, 3) := by decide +kernel
theorem dX1_init_47 : decode cX1_init 47 = .ok (.aload_n 0, 1) := by decide +kernel
theorem dX1_init_48 : decode cX1_init 48 = .ok (.bipush 64, 2) := by decide +kernel
theorem dX1_init_50 : decode cX1_init 50 = .ok (.newarray .int, 2) := by decide +kernel
theorem dX1_init_52 : decode cX1_init 52 = .ok (.putfield 31, 3) := by decide +kernel
theorem dX1_init_55 : decode cX1_init 55 = .ok (.aload_n 0, 1) := by decide +kernel
theorem dX1_init_56 : decode cX1_init 56 = .ok (.bipush 10, 2) := by decide +kernel
theorem dX1_init_58 : decode cX1_init 58 = .ok (.newarray .int, 2) := by decide +kernel
theorem dX1_init_60 : decode cX1_init 60 = .ok (.putfield 34, 3) := by decide +kernel
theorem dX1_init_63 : decode cX1_init 63 = .ok (.aload_n 0, 1) := by decide +kernel
theorem dX1_init_64 : decode cX1_init 64 = .ok (.bipush 16, 2) := by decide +kernel
theorem dX1_init_66 : decode cX1_init 66 = .ok (.newarray .int, 2) := by decide +kernel
theorem dX1_init_68 : decode cX1_init 68 = .ok (.putfield 37, 3) := by decide +kernel
theorem dX1_init_71 : decode cX1_init 71 = .ok (.aload_n 0, 1) := by decide +kernel
theorem dX1_init_72 : decode cX1_init 72 = .ok (.bipush 16, 2) := by decide +kernel
theorem dX1_init_74 : decode cX1_init 74 = .ok (.newarray .boolean, 2) := by decide +kernel
theorem dX1_init_76 : decode cX1_init 76 = .ok (.putfield 40, 3) := by decide +kernel
theorem dX1_init_79 : decode cX1_init 79 = .ok (.return_, 1) := by decide +kernel
theorem dX1_make_0 : decode cX1_make 0 = .ok (.aload_n 0, 1) := by decide +kernel
theorem dX1_make_1 : decode cX1_make 1 = .ok (.aload_n 1, 1) := by decide +kernel
theorem dX1_make_2 : decode cX1_make 2 = .ok (.aload_n 2, 1) := by decide +kernel
theorem dX1_make_3 : decode cX1_make 3 = .ok (.aload_n 1, 1) := by decide +kernel
theorem dX1_make_4 : decode cX1_make 4 = .ok (.invokevirtual 44, 3) := by decide +kernel
theorem dX1_make_7 : decode cX1_make 7 = .ok (.aload_n 1, 1) := by decide +kernel
theorem dX1_make_8 : decode cX1_make 8 = .ok (.getfield 50, 3) := by decide +kernel
theorem dX1_make_11 : decode cX1_make 11 = .ok (.invokevirtual 55, 3) := by decide +kernel
theorem dX1_make_14 : decode cX1_make 14 = .ok (.putfield 9, 3) := by decide +kernel
theorem dX1_make_17 : decode cX1_make 17 = .ok (.aload_n 0, 1) := by decide +kernel
theorem dX1_make_18 : decode cX1_make 18 = .ok (.iconst 0, 1) := by decide +kernel
theorem dX1_make_19 : decode cX1_make 19 = .ok (.putfield 15, 3) := by decide +kernel
theorem dX1_make_22 : decode cX1_make 22 = .ok (.aload_n 0, 1) := by decide +kernel
theorem dX1_make_23 : decode cX1_make 23 = .ok (.getfield 25, 3) := by decide +kernel
theorem dX1_make_26 : decode cX1_make 26 = .ok (.iconst 0, 1) := by decide +kernel
theorem dX1_make_27 : decode cX1_make 27 = .ok (.invokestatic 59, 3) := by decide +kernel
theorem dX1_make_30 : decode cX1_make 30 = .ok (.iconst 0, 1) := by decide +kernel
theorem dX1_make_31 : decode cX1_make 31 = .ok (.istore_n 3, 1) := by decide +kernel
theorem dX1_make_32 : decode cX1_make 32 = .ok (.iload_n 3, 1) := by decide +kernel
theorem dX1_make_33 : decode cX1_make 33 = .ok (.aload_n 1, 1) := by decide +kernel
theorem dX1_make_34 : decode cX1_make 34 = .ok (.getfield 65, 3) := by decide +kernel
theorem dX1_make_37 : decode cX1_make 37 = .ok (.if_icmp .ge 47, 3) := by decide +kernel
theorem dX1_make_40 : decode cX1_make 40 = .ok (.aload_n 0, 1) := by decide +kernel
theorem dX1_make_41 : decode cX1_make 41 = .ok (.aload_n 1, 1) := by decide +kernel
theorem dX1_make_42 : decode cX1_make 42 = .ok (.iload_n 3, 1) := by decide +kernel
theorem dX1_make_43 : decode cX1_make 43 = .ok (.invokevirtual 68, 3) := by decide +kernel
theorem dX1_make_46 : decode cX1_make 46 = .ok (.aload_n 2, 1) := by decide +kernel
theorem dX1_make_47 : decode cX1_make 47 = .ok (.getfield 72, 3) := by decide +kernel
theorem dX1_make_50 : decode cX1_make 50 = .ok (.iload_n 3, 1) := by decide +kernel
theorem dX1_make_51 : decode cX1_make 51 = .ok (.iaload, 1) := by decide +kernel
theorem dX1_make_52 : decode cX1_make 52 = .ok (.invokestatic 75, 3) := by decide +kernel
theorem dX1_make_55 : decode cX1_make 55 = .ok (.istore 4, 2) := by decide +kernel
theorem dX1_make_57 : decode cX1_make 57 = .ok (.iload 4, 2) := by decide +kernel
theorem dX1_make_59 : decode cX1_make 59 = .ok (.ifCond .le 19, 3) := by decide +kernel
theorem dX1_make_62 : decode cX1_make 62 = .ok (.aload_n 0, 1) := by decide +kernel
theorem dX1_make_63 : decode cX1_make 63 = .ok (.aload_n 1, 1) := by decide +kernel
theorem dX1_make_64 : decode cX1_make 64 = .ok (.iload_n 3, 1) := by decide +kernel
theorem dX1_make_65 : decode cX1_make 65 = .ok (.iload 4, 2) := by decide +kernel
theorem dX1_make_67 : decode cX1_make 67 = .ok (.invokevirtual 80, 3) := by decide +kernel
theorem dX1_make_70 : decode cX1_make 70 = .ok (.aload_n 0, 1) := by decide +kernel
theorem dX1_make_71 : decode cX1_make 71 = .ok (.aload_n 1, 1) := by decide +kernel
theorem dX1_make_72 : decode cX1_make 72 = .ok (.iload_n 3, 1) := by decide +kernel
theorem dX1_make_73 : decode cX1_make 73 = .ok (.iload 4, 2) := by decide +kernel
theorem dX1_make_75 : decode cX1_make 75 = .ok (.invokevirtual 84, 3) := by decide +kernel
theorem dX1_make_78 : decode cX1_make 78 = .ok (.iinc 3 1, 3) := by decide +kernel
theorem dX1_make_81 : decode cX1_make 81 = .ok (.goto (-49), 3) := by decide +kernel
theorem dX1_make_84 : decode cX1_make 84 = .ok (.iconst 0, 1) := by decide +kernel
theorem dX1_make_85 : decode cX1_make 85 = .ok (.istore_n 3, 1) := by decide +kernel
theorem dX1_make_86 : decode cX1_make 86 = .ok (.iload_n 3, 1) := by decide +kernel
theorem dX1_make_87 : decode cX1_make 87 = .ok (.aload_n 1, 1) := by decide +kernel
theorem dX1_make_88 : decode cX1_make 88 = .ok (.getfield 87, 3) := by decide +kernel
theorem dX1_make_91 : decode cX1_make 91 = .ok (.if_icmp .ge 15, 3) := by decide +kernel
theorem dX1_make_94 : decode cX1_make 94 = .ok (.aload_n 0, 1) := by decide +kernel
theorem dX1_make_95 : decode cX1_make 95 = .ok (.aload_n 1, 1) := by decide +kernel
theorem dX1_make_96 : decode cX1_make 96 = .ok (.iload_n 3, 1) := by decide +kernel
theorem dX1_make_97 : decode cX1_make 97 = .ok (.invokevirtual 88, 3) := by decide +kernel
theorem dX1_make_100 : decode cX1_make 100 = .ok (.iinc 3 1, 3) := by decide +kernel
theorem dX1_make_103 : decode cX1_make 103 = .ok (.goto (-17), 3) := by decide +kernel
theorem dX1_make_106 : decode cX1_make 106 = .ok (.return_, 1) := by decide +kernel
theorem dX1_distance_0 : decode cX1_distance 0 = .ok (.iconst 0, 1) := by decide +kernel
theorem dX1_distance_1 : decode cX1_distance 1 = .ok (.istore_n 2, 1) := by decide +kernel
theorem dX1_distance_2 : decode cX1_distance 2 = .ok (.iconst 0, 1) := by decide +kernel
theorem dX1_distance_3 : decode cX1_distance 3 = .ok (.istore_n 3, 1) := by decide +kernel
theorem dX1_distance_4 : decode cX1_distance 4 = .ok (.iconst 0, 1) := by decide +kernel
theorem dX1_distance_5 : decode cX1_distance 5 = .ok (.istore 4, 2) := by decide +kernel
theorem dX1_distance_7 : decode cX1_distance 7 = .ok (.iload 4, 2) := by decide +kernel
theorem dX1_distance_9 : decode cX1_distance 9 = .ok (.aload_n 0, 1) := by decide +kernel
theorem dX1_distance_10 : decode cX1_distance 10 = .ok (.getfield 15, 3) := by decide +kernel
theorem dX1_distance_13 : decode cX1_distance 13 = .ok (.if_icmp .ge 36, 3) := by decide +kernel
theorem dX1_distance_16 : decode cX1_distance 16 = .ok (.aload_n 1, 1) := by decide +kernel
theorem dX1_distance_17 : decode cX1_distance 17 = .ok (.getfield 92, 3) := by decide +kernel
theorem dX1_distance_20 : decode cX1_distance 20 = .ok (.aload_n 0, 1) := by decide +kernel
theorem dX1_distance_21 : decode cX1_distance 21 = .ok (.getfield 18, 3) := by decide +kernel
theorem dX1_distance_24 : decode cX1_distance 24 = .ok (.iload 4, 2) := by decide +kernel
theorem dX1_distance_26 : decode cX1_distance 26 = .ok (.iaload, 1) := by decide +kernel
theorem dX1_distance_27 : decode cX1_distance 27 = .ok (.iaload, 1) := by decide +kernel
theorem dX1_distance_28 : decode cX1_distance 28 = .ok (.istore 5, 2) := by decide +kernel
theorem dX1_distance_30 : decode cX1_distance 30 = .ok (.iload_n 2, 1) := by decide +kernel
theorem dX1_distance_31 : decode cX1_distance 31 = .ok (.iload 5, 2) := by decide +kernel
theorem dX1_distance_33 : decode cX1_distance 33 = .ok (.iload_n 3, 1) := by decide +kernel
theorem dX1_distance_34 : decode cX1_distance 34 = .ok (.isub, 1) := by decide +kernel
theorem dX1_distance_35 : decode cX1_distance 35 = .ok (.invokestatic 95, 3) := by decide +kernel
theorem dX1_distance_38 : decode cX1_distance 38 = .ok (.iadd, 1) := by decide +kernel
theorem dX1_distance_39 : decode cX1_distance 39 = .ok (.istore_n 2, 1) := by decide +kernel
theorem dX1_distance_40 : decode cX1_distance 40 = .ok (.iload 5, 2) := by decide +kernel
theorem dX1_distance_42 : decode cX1_distance 42 = .ok (.istore_n 3, 1) := by decide +kernel
theorem dX1_distance_43 : decode cX1_distance 43 = .ok (.iinc 4 1, 3) := by decide +kernel
theorem dX1_distance_46 : decode cX1_distance 46 = .ok (.goto (-39), 3) := by decide +kernel
theorem dX1_distance_49 : decode cX1_distance 49 = .ok (.iload_n 2, 1) := by decide +kernel
theorem dX1_distance_50 : decode cX1_distance 50 = .ok (.iload_n 3, 1) := by decide +kernel
theorem dX1_distance_51 : decode cX1_distance 51 = .ok (.iadd, 1) := by decide +kernel
theorem dX1_distance_52 : decode cX1_distance 52 = .ok (.ireturn, 1) := by decide +kernel
theorem dX1_needsAsPicked_0 : decode cX1_needsAsPicked 0 = .ok (.iconst 0, 1) := by decide +kernel
theorem dX1_needsAsPicked_1 : decode cX1_needsAsPicked 1 = .ok (.istore_n 2, 1) := by decide +kernel
theorem dX1_needsAsPicked_2 : decode cX1_needsAsPicked 2 = .ok (.iconst 0, 1) := by decide +kernel
theorem dX1_needsAsPicked_3 : decode cX1_needsAsPicked 3 = .ok (.istore_n 3, 1) := by decide +kernel
theorem dX1_needsAsPicked_4 : decode cX1_needsAsPicked 4 = .ok (.iconst 0, 1) := by decide +kernel
theorem dX1_needsAsPicked_5 : decode cX1_needsAsPicked 5 = .ok (.istore 4, 2) := by decide +kernel
theorem dX1_needsAsPicked_7 : decode cX1_needsAsPicked 7 = .ok (.iload 4, 2) := by decide +kernel
theorem dX1_needsAsPicked_9 : decode cX1_needsAsPicked 9 = .ok (.aload_n 0, 1) := by decide +kernel
theorem dX1_needsAsPicked_10 : decode cX1_needsAsPicked 10 = .ok (.getfield 15, 3) := by decide +kernel
theorem dX1_needsAsPicked_13 : decode cX1_needsAsPicked 13 = .ok (.if_icmp .ge 39, 3) := by decide +kernel
theorem dX1_needsAsPicked_16 : decode cX1_needsAsPicked 16 = .ok (.iload_n 2, 1) := by decide +kernel
theorem dX1_needsAsPicked_17 : decode cX1_needsAsPicked 17 = .ok (.aload_n 0, 1) := by decide +kernel
theorem dX1_needsAsPicked_18 : decode cX1_needsAsPicked 18 = .ok (.aload_n 1, 1) := by decide +kernel
theorem dX1_needsAsPicked_19 : decode cX1_needsAsPicked 19 = .ok (.iload_n 3, 1) := by decide +kernel
theorem dX1_needsAsPicked_20 : decode cX1_needsAsPicked 20 = .ok (.aload_n 0, 1) := by decide +kernel
theorem dX1_needsAsPicked_21 : decode cX1_needsAsPicked 21 = .ok (.getfield 18, 3) := by decide +kernel
theorem dX1_needsAsPicked_24 : decode cX1_needsAsPicked 24 = .ok (.iload 4, 2) := by decide +kernel
theorem dX1_needsAsPicked_26 : decode cX1_needsAsPicked 26 = .ok (.iaload, 1) := by decide +kernel
theorem dX1_needsAsPicked_27 : decode cX1_needsAsPicked 27 = .ok (.invokevirtual 99, 3) := by decide +kernel
theorem dX1_needsAsPicked_30 : decode cX1_needsAsPicked 30 = .ok (.invokestatic 103, 3) := by decide +kernel
theorem dX1_needsAsPicked_33 : decode cX1_needsAsPicked 33 = .ok (.istore_n 2, 1) := by decide +kernel
theorem dX1_needsAsPicked_34 : decode cX1_needsAsPicked 34 = .ok (.iload_n 3, 1) := by decide +kernel
theorem dX1_needsAsPicked_35 : decode cX1_needsAsPicked 35 = .ok (.iconst 1, 1) := by decide +kernel
theorem dX1_needsAsPicked_36 : decode cX1_needsAsPicked 36 = .ok (.aload_n 0, 1) := by decide +kernel
theorem dX1_needsAsPicked_37 : decode cX1_needsAsPicked 37 = .ok (.getfield 18, 3) := by decide +kernel
theorem dX1_needsAsPicked_40 : decode cX1_needsAsPicked 40 = .ok (.iload 4, 2) := by decide +kernel
theorem dX1_needsAsPicked_42 : decode cX1_needsAsPicked 42 = .ok (.iaload, 1) := by decide +kernel
theorem dX1_needsAsPicked_43 : decode cX1_needsAsPicked 43 = .ok (.ishl, 1) := by decide +kernel
theorem dX1_needsAsPicked_44 : decode cX1_needsAsPicked 44 = .ok (.ior, 1) := by decide +kernel
theorem dX1_needsAsPicked_45 : decode cX1_needsAsPicked 45 = .ok (.istore_n 3, 1) := by decide +kernel
theorem dX1_needsAsPicked_46 : decode cX1_needsAsPicked 46 = .ok (.iinc 4 1, 3) := by decide +kernel
theorem dX1_needsAsPicked_49 : decode cX1_needsAsPicked 49 = .ok (.goto (-42), 3) := by decide +kernel
theorem dX1_needsAsPicked_52 : decode cX1_needsAsPicked 52 = .ok (.iload_n 2, 1) := by decide +kernel
theorem dX1_needsAsPicked_53 : decode cX1_needsAsPicked 53 = .ok (.ireturn, 1) := by decide +kernel
theorem dX1_findBest_0 : decode cX1_findBest 0 = .ok (.aload_n 0, 1) := by decide +kernel
theorem dX1_findBest_1 : decode cX1_findBest 1 = .ok (.getfield 15, 3) := by decide +kernel
theorem dX1_findBest_4 : decode cX1_findBest 4 = .ok (.bipush 6, 2) := by decide +kernel
theorem dX1_findBest_6 : decode cX1_findBest 6 = .ok (.if_icmp .le 5, 3) := by decide +kernel
theorem dX1_findBest_9 : decode cX1_findBest 9 = .ok (.iconst (-1), 1) := by decide +kernel
theorem dX1_findBest_10 : decode cX1_findBest 10 = .ok (.ireturn, 1) := by decide +kernel
theorem dX1_findBest_11 : decode cX1_findBest 11 = .ok (.aload_n 0, 1) := by decide +kernel
theorem dX1_findBest_12 : decode cX1_findBest 12 = .ok (.invokevirtual 106, 3) := by decide +kernel
theorem dX1_findBest_15 : decode cX1_findBest 15 = .ok (.iconst 1, 1) := by decide +kernel
theorem dX1_findBest_16 : decode cX1_findBest 16 = .ok (.aload_n 0, 1) := by decide +kernel
theorem dX1_findBest_17 : decode cX1_findBest 17 = .ok (.getfield 15, 3) := by decide +kernel
theorem dX1_findBest_20 : decode cX1_findBest 20 = .ok (.ishl, 1) := by decide +kernel
theorem dX1_findBest_21 : decode cX1_findBest 21 = .ok (.iconst 1, 1) := by decide +kernel
theorem dX1_findBest_22 : decode cX1_findBest 22 = .ok (.isub, 1) := by decide +kernel
theorem dX1_findBest_23 : decode cX1_findBest 23 = .ok (.istore_n 2, 1) := by decide +kernel
theorem dX1_findBest_24 : decode cX1_findBest 24 = .ok (.aload_n 0, 1) := by decide +kernel
theorem dX1_findBest_25 : decode cX1_findBest 25 = .ok (.getfield 31, 3) := by decide +kernel
theorem dX1_findBest_28 : decode cX1_findBest 28 = .ok (.iload_n 2, 1) := by decide +kernel
theorem dX1_findBest_29 : decode cX1_findBest 29 = .ok (.iconst 0, 1) := by decide +kernel
theorem dX1_findBest_30 : decode cX1_findBest 30 = .ok (.iastore, 1) := by decide +kernel
theorem dX1_findBest_31 : decode cX1_findBest 31 = .ok (.iload_n 2, 1) := by decide +kernel
theorem dX1_findBest_32 : decode cX1_findBest 32 = .ok (.iconst 1, 1) := by decide +kernel
theorem dX1_findBest_33 : decode cX1_findBest 33 = .ok (.isub, 1) := by decide +kernel
theorem dX1_findBest_34 : decode cX1_findBest 34 = .ok (.istore_n 3, 1) := by decide +kernel
theorem dX1_findBest_35 : decode cX1_findBest 35 = .ok (.iload_n 3, 1) := by decide +kernel
theorem dX1_findBest_36 : decode cX1_findBest 36 = .ok (.ifCond .lt 72, 3) := by decide +kernel
theorem dX1_findBest_39 : decode cX1_findBest 39 = .ok (.aload_n 0, 1) := by decide +kernel
theorem dX1_findBest_40 : decode cX1_findBest 40 = .ok (.getfield 31, 3) := by decide +kernel
theorem dX1_findBest_43 : decode cX1_findBest 43 = .ok (.iload_n 3, 1) := by decide +kernel
theorem dX1_findBest_44 : decode cX1_findBest 44 = .ok (.aload_n 0, 1) := by decide +kernel
theorem dX1_findBest_45 : decode cX1_findBest 45 = .ok (.getfield 15, 3) := by decide +kernel
theorem dX1_findBest_48 : decode cX1_findBest 48 = .ok (.bipush 16, 2) := by decide +kernel
theorem dX1_findBest_50 : decode cX1_findBest 50 = .ok (.iadd, 1) := by decide +kernel
theorem dX1_findBest_51 : decode cX1_findBest 51 = .ok (.iastore, 1) := by decide +kernel
theorem dX1_findBest_52 : decode cX1_findBest 52 = .ok (.iconst 0, 1) := by decide +kernel
theorem dX1_findBest_53 : decode cX1_findBest 53 = .ok (.istore 4, 2) := by decide +kernel
theorem dX1_findBest_55 : decode cX1_findBest 55 = .ok (.iload 4, 2) := by decide +kernel
theorem dX1_findBest_57 : decode cX1_findBest 57 = .ok (.aload_n 0, 1) := by decide +kernel
theorem dX1_findBest_58 : decode cX1_findBest 58 = .ok (.getfield 15, 3) := by decide +kernel
theorem dX1_findBest_61 : decode cX1_findBest 61 = .ok (.if_icmp .ge 41, 3) := by decide +kernel
theorem dX1_findBest_64 : decode cX1_findBest 64 = .ok (.iload_n 3, 1) := by decide +kernel
theorem dX1_findBest_65 : decode cX1_findBest 65 = .ok (.iload 4, 2) := by decide +kernel
theorem dX1_findBest_67 : decode cX1_findBest 67 = .ok (.invokestatic 109, 3) := by decide +kernel
theorem dX1_findBest_70 : decode cX1_findBest 70 = .ok (.ifCond .ne 26, 3) := by decide +kernel
theorem dX1_findBest_73 : decode cX1_findBest 73 = .ok (.aload_n 0, 1) := by decide +kernel
theorem dX1_findBest_74 : decode cX1_findBest 74 = .ok (.getfield 31, 3) := by decide +kernel
theorem dX1_findBest_77 : decode cX1_findBest 77 = .ok (.iload_n 3, 1) := by decide +kernel
theorem dX1_findBest_78 : decode cX1_findBest 78 = .ok (.aload_n 0, 1) := by decide +kernel
theorem dX1_findBest_79 : decode cX1_findBest 79 = .ok (.getfield 31, 3) := by decide +kernel
theorem dX1_findBest_82 : decode cX1_findBest 82 = .ok (.iload_n 3, 1) := by decide +kernel
theorem dX1_findBest_83 : decode cX1_findBest 83 = .ok (.iaload, 1) := by decide +kernel
theorem dX1_findBest_84 : decode cX1_findBest 84 = .ok (.aload_n 0, 1) := by decide +kernel
theorem dX1_findBest_85 : decode cX1_findBest 85 = .ok (.aload_n 1, 1) := by decide +kernel
theorem dX1_findBest_86 : decode cX1_findBest 86 = .ok (.iload_n 3, 1) := by decide +kernel
theorem dX1_findBest_87 : decode cX1_findBest 87 = .ok (.iload 4, 2) := by decide +kernel
theorem dX1_findBest_89 : decode cX1_findBest 89 = .ok (.invokevirtual 113, 3) := by decide +kernel
theorem dX1_findBest_92 : decode cX1_findBest 92 = .ok (.invokestatic 75, 3) := by decide +kernel
theorem dX1_findBest_95 : decode cX1_findBest 95 = .ok (.iastore, 1) := by decide +kernel
theorem dX1_findBest_96 : decode cX1_findBest 96 = .ok (.iinc 4 1, 3) := by decide +kernel
theorem dX1_findBest_99 : decode cX1_findBest 99 = .ok (.goto (-44), 3) := by decide +kernel
theorem dX1_findBest_102 : decode cX1_findBest 102 = .ok (.iinc 3 (-1), 3) := by decide +kernel
theorem dX1_findBest_105 : decode cX1_findBest 105 = .ok (.goto (-70), 3) := by decide +kernel
theorem dX1_findBest_108 : decode cX1_findBest 108 = .ok (.iconst 0, 1) := by decide +kernel
theorem dX1_findBest_109 : decode cX1_findBest 109 = .ok (.istore_n 3, 1) := by decide +kernel
theorem dX1_findBest_110 : decode cX1_findBest 110 = .ok (.iconst 0, 1) := by decide +kernel
theorem dX1_findBest_111 : decode cX1_findBest 111 = .ok (.istore 4, 2) := by decide +kernel
theorem dX1_findBest_113 : decode cX1_findBest 113 = .ok (.iload 4, 2) := by decide +kernel
theorem dX1_findBest_115 : decode cX1_findBest 115 = .ok (.aload_n 0, 1) := by decide +kernel
theorem dX1_findBest_116 : decode cX1_findBest 116 = .ok (.getfield 15, 3) := by decide +kernel
theorem dX1_findBest_119 : decode cX1_findBest 119 = .ok (.if_icmp .ge 44, 3) := by decide +kernel
theorem dX1_findBest_122 : decode cX1_findBest 122 = .ok (.aload_n 0, 1) := by decide +kernel
theorem dX1_findBest_123 : decode cX1_findBest 123 = .ok (.aload_n 1, 1) := by decide +kernel
theorem dX1_findBest_124 : decode cX1_findBest 124 = .ok (.iload_n 3, 1) := by decide +kernel
theorem dX1_findBest_125 : decode cX1_findBest 125 = .ok (.aload_n 0, 1) := by decide +kernel
theorem dX1_findBest_126 : decode cX1_findBest 126 = .ok (.getfield 31, 3) := by decide +kernel
theorem dX1_findBest_129 : decode cX1_findBest 129 = .ok (.iconst 0, 1) := by decide +kernel
theorem dX1_findBest_130 : decode cX1_findBest 130 = .ok (.iaload, 1) := by decide +kernel
theorem dX1_findBest_131 : decode cX1_findBest 131 = .ok (.invokevirtual 116, 3) := by decide +kernel
theorem dX1_findBest_134 : decode cX1_findBest 134 = .ok (.istore 5, 2) := by decide +kernel
theorem dX1_findBest_136 : decode cX1_findBest 136 = .ok (.aload_n 0, 1) := by decide +kernel
theorem dX1_findBest_137 : decode cX1_findBest 137 = .ok (.getfield 28, 3) := by decide +kernel
theorem dX1_findBest_140 : decode cX1_findBest 140 = .ok (.iload 4, 2) := by decide +kernel
theorem dX1_findBest_142 : decode cX1_findBest 142 = .ok (.aload_n 0, 1) := by decide +kernel
theorem dX1_findBest_143 : decode cX1_findBest 143 = .ok (.getfield 34, 3) := by decide +kernel
theorem dX1_findBest_146 : decode cX1_findBest 146 = .ok (.iload 5, 2) := by decide +kernel
theorem dX1_findBest_148 : decode cX1_findBest 148 = .ok (.iaload, 1) := by decide +kernel
theorem dX1_findBest_149 : decode cX1_findBest 149 = .ok (.iastore, 1) := by decide +kernel
theorem dX1_findBest_150 : decode cX1_findBest 150 = .ok (.iload_n 3, 1) := by decide +kernel
theorem dX1_findBest_151 : decode cX1_findBest 151 = .ok (.iconst 1, 1) := by decide +kernel
theorem dX1_findBest_152 : decode cX1_findBest 152 = .ok (.iload 5, 2) := by decide +kernel
theorem dX1_findBest_154 : decode cX1_findBest 154 = .ok (.ishl, 1) := by decide +kernel
theorem dX1_findBest_155 : decode cX1_findBest 155 = .ok (.ior, 1) := by decide +kernel
theorem dX1_findBest_156 : decode cX1_findBest 156 = .ok (.istore_n 3, 1) := by decide +kernel
theorem dX1_findBest_157 : decode cX1_findBest 157 = .ok (.iinc 4 1, 3) := by decide +kernel
theorem dX1_findBest_160 : decode cX1_findBest 160 = .ok (.goto (-47), 3) := by decide +kernel
theorem dX1_findBest_163 : decode cX1_findBest 163 = .ok (.aload_n 0, 1) := by decide +kernel
theorem dX1_findBest_164 : decode cX1_findBest 164 = .ok (.getfield 31, 3) := by decide +kernel
theorem dX1_findBest_167 : decode cX1_findBest 167 = .ok (.iconst 0, 1) := by decide +kernel
theorem dX1_findBest_168 : decode cX1_findBest 168 = .ok (.iaload, 1) := by decide +kernel
theorem dX1_findBest_169 : decode cX1_findBest 169 = .ok (.ireturn, 1) := by decide +kernel
theorem dX1_needOf_0 : decode cX1_needOf 0 = .ok (.iconst 0, 1) := by decide +kernel
theorem dX1_needOf_1 : decode cX1_needOf 1 = .ok (.istore_n 3, 1) := by decide +kernel
theorem dX1_needOf_2 : decode cX1_needOf 2 = .ok (.iconst 0, 1) := by decide +kernel
theorem dX1_needOf_3 : decode cX1_needOf 3 = .ok (.istore 4, 2) := by decide +kernel
theorem dX1_needOf_5 : decode cX1_needOf 5 = .ok (.iload 4, 2) := by decide +kernel
theorem dX1_needOf_7 : decode cX1_needOf 7 = .ok (.aload_n 1, 1) := by decide +kernel
theorem dX1_needOf_8 : decode cX1_needOf 8 = .ok (.getfield 87, 3) := by decide +kernel
theorem dX1_needOf_11 : decode cX1_needOf 11 = .ok (.if_icmp .ge 35, 3) := by decide +kernel
theorem dX1_needOf_14 : decode cX1_needOf 14 = .ok (.aload_n 0, 1) := by decide +kernel
theorem dX1_needOf_15 : decode cX1_needOf 15 = .ok (.getfield 9, 3) := by decide +kernel
theorem dX1_needOf_18 : decode cX1_needOf 18 = .ok (.iload 4, 2) := by decide +kernel
theorem dX1_needOf_20 : decode cX1_needOf 20 = .ok (.invokestatic 109, 3) := by decide +kernel
theorem dX1_needOf_23 : decode cX1_needOf 23 = .ok (.ifCond .eq 17, 3) := by decide +kernel
theorem dX1_needOf_26 : decode cX1_needOf 26 = .ok (.iload_n 3, 1) := by decide +kernel
theorem dX1_needOf_27 : decode cX1_needOf 27 = .ok (.aload_n 1, 1) := by decide +kernel
theorem dX1_needOf_28 : decode cX1_needOf 28 = .ok (.getfield 119, 3) := by decide +kernel
theorem dX1_needOf_31 : decode cX1_needOf 31 = .ok (.iload 4, 2) := by decide +kernel
theorem dX1_needOf_33 : decode cX1_needOf 33 = .ok (.iload_n 2, 1) := by decide +kernel
theorem dX1_needOf_34 : decode cX1_needOf 34 = .ok (.invokestatic 122, 3) := by decide +kernel
theorem dX1_needOf_37 : decode cX1_needOf 37 = .ok (.iaload, 1) := by decide +kernel
theorem dX1_needOf_38 : decode cX1_needOf 38 = .ok (.iadd, 1) := by decide +kernel
theorem dX1_needOf_39 : decode cX1_needOf 39 = .ok (.istore_n 3, 1) := by decide +kernel
theorem dX1_needOf_40 : decode cX1_needOf 40 = .ok (.iinc 4 1, 3) := by decide +kernel
theorem dX1_needOf_43 : decode cX1_needOf 43 = .ok (.goto (-38), 3) := by decide +kernel
theorem dX1_needOf_46 : decode cX1_needOf 46 = .ok (.iload_n 3, 1) := by decide +kernel
theorem dX1_needOf_47 : decode cX1_needOf 47 = .ok (.ireturn, 1) := by decide +kernel
theorem dX1_addPick_0 : decode cX1_addPick 0 = .ok (.aload_n 0, 1) := by decide +kernel
theorem dX1_addPick_1 : decode cX1_addPick 1 = .ok (.getfield 15, 3) := by decide +kernel
theorem dX1_addPick_4 : decode cX1_addPick 4 = .ok (.istore 4, 2) := by decide +kernel
theorem dX1_addPick_6 : decode cX1_addPick 6 = .ok (.iload 4, 2) := by decide +kernel
theorem dX1_addPick_8 : decode cX1_addPick 8 = .ok (.ifCond .le 64, 3) := by decide +kernel
theorem dX1_addPick_11 : decode cX1_addPick 11 = .ok (.aload_n 1, 1) := by decide +kernel
theorem dX1_addPick_12 : decode cX1_addPick 12 = .ok (.getfield 92, 3) := by decide +kernel
theorem dX1_addPick_15 : decode cX1_addPick 15 = .ok (.aload_n 0, 1) := by decide +kernel
theorem dX1_addPick_16 : decode cX1_addPick 16 = .ok (.getfield 18, 3) := by decide +kernel
theorem dX1_addPick_19 : decode cX1_addPick 19 = .ok (.iload 4, 2) := by decide +kernel
theorem dX1_addPick_21 : decode cX1_addPick 21 = .ok (.iconst 1, 1) := by decide +kernel
theorem dX1_addPick_22 : decode cX1_addPick 22 = .ok (.isub, 1) := by decide +kernel
theorem dX1_addPick_23 : decode cX1_addPick 23 = .ok (.iaload, 1) := by decide +kernel
theorem dX1_addPick_24 : decode cX1_addPick 24 = .ok (.iaload, 1) := by decide +kernel
theorem dX1_addPick_25 : decode cX1_addPick 25 = .ok (.aload_n 1, 1) := by decide +kernel
theorem dX1_addPick_26 : decode cX1_addPick 26 = .ok (.getfield 92, 3) := by decide +kernel
theorem dX1_addPick_29 : decode cX1_addPick 29 = .ok (.iload_n 2, 1) := by decide +kernel
theorem dX1_addPick_30 : decode cX1_addPick 30 = .ok (.iaload, 1) := by decide +kernel
theorem dX1_addPick_31 : decode cX1_addPick 31 = .ok (.if_icmp .le 41, 3) := by decide +kernel
theorem dX1_addPick_34 : decode cX1_addPick 34 = .ok (.aload_n 0, 1) := by decide +kernel
theorem dX1_addPick_35 : decode cX1_addPick 35 = .ok (.getfield 18, 3) := by decide +kernel
theorem dX1_addPick_38 : decode cX1_addPick 38 = .ok (.iload 4, 2) := by decide +kernel
theorem dX1_addPick_40 : decode cX1_addPick 40 = .ok (.aload_n 0, 1) := by decide +kernel
theorem dX1_addPick_41 : decode cX1_addPick 41 = .ok (.getfield 18, 3) := by decide +kernel
theorem dX1_addPick_44 : decode cX1_addPick 44 = .ok (.iload 4, 2) := by decide +kernel
theorem dX1_addPick_46 : decode cX1_addPick 46 = .ok (.iconst 1, 1) := by decide +kernel
theorem dX1_addPick_47 : decode cX1_addPick 47 = .ok (.isub, 1) := by decide +kernel
theorem dX1_addPick_48 : decode cX1_addPick 48 = .ok (.iaload, 1) := by decide +kernel
theorem dX1_addPick_49 : decode cX1_addPick 49 = .ok (.iastore, 1) := by decide +kernel
theorem dX1_addPick_50 : decode cX1_addPick 50 = .ok (.aload_n 0, 1) := by decide +kernel
theorem dX1_addPick_51 : decode cX1_addPick 51 = .ok (.getfield 22, 3) := by decide +kernel
theorem dX1_addPick_54 : decode cX1_addPick 54 = .ok (.iload 4, 2) := by decide +kernel
theorem dX1_addPick_56 : decode cX1_addPick 56 = .ok (.aload_n 0, 1) := by decide +kernel
theorem dX1_addPick_57 : decode cX1_addPick 57 = .ok (.getfield 22, 3) := by decide +kernel
theorem dX1_addPick_60 : decode cX1_addPick 60 = .ok (.iload 4, 2) := by decide +kernel
theorem dX1_addPick_62 : decode cX1_addPick 62 = .ok (.iconst 1, 1) := by decide +kernel
theorem dX1_addPick_63 : decode cX1_addPick 63 = .ok (.isub, 1) := by decide +kernel
theorem dX1_addPick_64 : decode cX1_addPick 64 = .ok (.iaload, 1) := by decide +kernel
theorem dX1_addPick_65 : decode cX1_addPick 65 = .ok (.iastore, 1) := by decide +kernel
theorem dX1_addPick_66 : decode cX1_addPick 66 = .ok (.iinc 4 (-1), 3) := by decide +kernel
theorem dX1_addPick_69 : decode cX1_addPick 69 = .ok (.goto (-63), 3) := by decide +kernel
theorem dX1_addPick_72 : decode cX1_addPick 72 = .ok (.aload_n 0, 1) := by decide +kernel
theorem dX1_addPick_73 : decode cX1_addPick 73 = .ok (.getfield 18, 3) := by decide +kernel
theorem dX1_addPick_76 : decode cX1_addPick 76 = .ok (.iload 4, 2) := by decide +kernel
theorem dX1_addPick_78 : decode cX1_addPick 78 = .ok (.iload_n 2, 1) := by decide +kernel
theorem dX1_addPick_79 : decode cX1_addPick 79 = .ok (.iastore, 1) := by decide +kernel
theorem dX1_addPick_80 : decode cX1_addPick 80 = .ok (.aload_n 0, 1) := by decide +kernel
theorem dX1_addPick_81 : decode cX1_addPick 81 = .ok (.getfield 22, 3) := by decide +kernel
theorem dX1_addPick_84 : decode cX1_addPick 84 = .ok (.iload 4, 2) := by decide +kernel
theorem dX1_addPick_86 : decode cX1_addPick 86 = .ok (.iload_n 3, 1) := by decide +kernel
theorem dX1_addPick_87 : decode cX1_addPick 87 = .ok (.iastore, 1) := by decide +kernel
theorem dX1_addPick_88 : decode cX1_addPick 88 = .ok (.aload_n 0, 1) := by decide +kernel
theorem dX1_addPick_89 : decode cX1_addPick 89 = .ok (.dup, 1) := by decide +kernel
theorem dX1_addPick_90 : decode cX1_addPick 90 = .ok (.getfield 15, 3) := by decide +kernel
theorem dX1_addPick_93 : decode cX1_addPick 93 = .ok (.iconst 1, 1) := by decide +kernel
theorem dX1_addPick_94 : decode cX1_addPick 94 = .ok (.iadd, 1) := by decide +kernel
theorem dX1_addPick_95 : decode cX1_addPick 95 = .ok (.putfield 15, 3) := by decide +kernel
theorem dX1_addPick_98 : decode cX1_addPick 98 = .ok (.return_, 1) := by decide +kernel
theorem dX1_shareOut_0 : decode cX1_shareOut 0 = .ok (.iload_n 3, 1) := by decide +kernel
theorem dX1_shareOut_1 : decode cX1_shareOut 1 = .ok (.istore 4, 2) := by decide +kernel
theorem dX1_shareOut_3 : decode cX1_shareOut 3 = .ok (.iconst 0, 1) := by decide +kernel
theorem dX1_shareOut_4 : decode cX1_shareOut 4 = .ok (.istore 5, 2) := by decide +kernel
theorem dX1_shareOut_6 : decode cX1_shareOut 6 = .ok (.iload 5, 2) := by decide +kernel
theorem dX1_shareOut_8 : decode cX1_shareOut 8 = .ok (.aload_n 1, 1) := by decide +kernel
theorem dX1_shareOut_9 : decode cX1_shareOut 9 = .ok (.getfield 87, 3) := by decide +kernel
theorem dX1_shareOut_12 : decode cX1_shareOut 12 = .ok (.if_icmp .ge 68, 3) := by decide +kernel
theorem dX1_shareOut_15 : decode cX1_shareOut 15 = .ok (.aload_n 1, 1) := by decide +kernel
theorem dX1_shareOut_16 : decode cX1_shareOut 16 = .ok (.getfield 125, 3) := by decide +kernel
theorem dX1_shareOut_19 : decode cX1_shareOut 19 = .ok (.iload 5, 2) := by decide +kernel
theorem dX1_shareOut_21 : decode cX1_shareOut 21 = .ok (.iaload, 1) := by decide +kernel
theorem dX1_shareOut_22 : decode cX1_shareOut 22 = .ok (.istore 6, 2) := by decide +kernel
theorem dX1_shareOut_24 : decode cX1_shareOut 24 = .ok (.aload_n 0, 1) := by decide +kernel
theorem dX1_shareOut_25 : decode cX1_shareOut 25 = .ok (.getfield 9, 3) := by decide +kernel
theorem dX1_shareOut_28 : decode cX1_shareOut 28 = .ok (.iload 6, 2) := by decide +kernel
theorem dX1_shareOut_30 : decode cX1_shareOut 30 = .ok (.invokestatic 109, 3) := by decide +kernel
theorem dX1_shareOut_33 : decode cX1_shareOut 33 = .ok (.ifCond .eq 41, 3) := by decide +kernel
theorem dX1_shareOut_36 : decode cX1_shareOut 36 = .ok (.iload 4, 2) := by decide +kernel
theorem dX1_shareOut_38 : decode cX1_shareOut 38 = .ok (.aload_n 1, 1) := by decide +kernel
theorem dX1_shareOut_39 : decode cX1_shareOut 39 = .ok (.getfield 119, 3) := by decide +kernel
theorem dX1_shareOut_42 : decode cX1_shareOut 42 = .ok (.iload 6, 2) := by decide +kernel
theorem dX1_shareOut_44 : decode cX1_shareOut 44 = .ok (.iload_n 2, 1) := by decide +kernel
theorem dX1_shareOut_45 : decode cX1_shareOut 45 = .ok (.invokestatic 122, 3) := by decide +kernel
theorem dX1_shareOut_48 : decode cX1_shareOut 48 = .ok (.iaload, 1) := by decide +kernel
theorem dX1_shareOut_49 : decode cX1_shareOut 49 = .ok (.invokestatic 75, 3) := by decide +kernel
theorem dX1_shareOut_52 : decode cX1_shareOut 52 = .ok (.istore 7, 2) := by decide +kernel
theorem dX1_shareOut_54 : decode cX1_shareOut 54 = .ok (.aload_n 0, 1) := by decide +kernel
theorem dX1_shareOut_55 : decode cX1_shareOut 55 = .ok (.getfield 25, 3) := by decide +kernel
theorem dX1_shareOut_58 : decode cX1_shareOut 58 = .ok (.iload 6, 2) := by decide +kernel
theorem dX1_shareOut_60 : decode cX1_shareOut 60 = .ok (.iload_n 2, 1) := by decide +kernel
theorem dX1_shareOut_61 : decode cX1_shareOut 61 = .ok (.invokestatic 122, 3) := by decide +kernel
theorem dX1_shareOut_64 : decode cX1_shareOut 64 = .ok (.iload 7, 2) := by decide +kernel
theorem dX1_shareOut_66 : decode cX1_shareOut 66 = .ok (.iastore, 1) := by decide +kernel
theorem dX1_shareOut_67 : decode cX1_shareOut 67 = .ok (.iload 4, 2) := by decide +kernel
theorem dX1_shareOut_69 : decode cX1_shareOut 69 = .ok (.iload 7, 2) := by decide +kernel
theorem dX1_shareOut_71 : decode cX1_shareOut 71 = .ok (.isub, 1) := by decide +kernel
theorem dX1_shareOut_72 : decode cX1_shareOut 72 = .ok (.istore 4, 2) := by decide +kernel
theorem dX1_shareOut_74 : decode cX1_shareOut 74 = .ok (.iinc 5 1, 3) := by decide +kernel
theorem dX1_shareOut_77 : decode cX1_shareOut 77 = .ok (.goto (-71), 3) := by decide +kernel
theorem dX1_shareOut_80 : decode cX1_shareOut 80 = .ok (.return_, 1) := by decide +kernel
theorem dX1_lookAtShare_0 : decode cX1_lookAtShare 0 = .ok (.aload_n 0, 1) := by decide +kernel
theorem dX1_lookAtShare_1 : decode cX1_lookAtShare 1 = .ok (.getfield 37, 3) := by decide +kernel
theorem dX1_lookAtShare_4 : decode cX1_lookAtShare 4 = .ok (.iload_n 2, 1) := by decide +kernel
theorem dX1_lookAtShare_5 : decode cX1_lookAtShare 5 = .ok (.iconst 0, 1) := by decide +kernel
theorem dX1_lookAtShare_6 : decode cX1_lookAtShare 6 = .ok (.iastore, 1) := by decide +kernel
theorem dX1_lookAtShare_7 : decode cX1_lookAtShare 7 = .ok (.iconst 0, 1) := by decide +kernel
theorem dX1_lookAtShare_8 : decode cX1_lookAtShare 8 = .ok (.istore_n 3, 1) := by decide +kernel
theorem dX1_lookAtShare_9 : decode cX1_lookAtShare 9 = .ok (.iload_n 3, 1) := by decide +kernel
theorem dX1_lookAtShare_10 : decode cX1_lookAtShare 10 = .ok (.aload_n 1, 1) := by decide +kernel
theorem dX1_lookAtShare_11 : decode cX1_lookAtShare 11 = .ok (.getfield 65, 3) := by decide +kernel
theorem dX1_lookAtShare_14 : decode cX1_lookAtShare 14 = .ok (.if_icmp .ge 34, 3) := by decide +kernel
theorem dX1_lookAtShare_17 : decode cX1_lookAtShare 17 = .ok (.aload_n 0, 1) := by decide +kernel
theorem dX1_lookAtShare_18 : decode cX1_lookAtShare 18 = .ok (.getfield 25, 3) := by decide +kernel
theorem dX1_lookAtShare_21 : decode cX1_lookAtShare 21 = .ok (.iload_n 2, 1) := by decide +kernel
theorem dX1_lookAtShare_22 : decode cX1_lookAtShare 22 = .ok (.iload_n 3, 1) := by decide +kernel
theorem dX1_lookAtShare_23 : decode cX1_lookAtShare 23 = .ok (.invokestatic 122, 3) := by decide +kernel
theorem dX1_lookAtShare_26 : decode cX1_lookAtShare 26 = .ok (.iaload, 1) := by decide +kernel
theorem dX1_lookAtShare_27 : decode cX1_lookAtShare 27 = .ok (.ifCond .le 15, 3) := by decide +kernel
theorem dX1_lookAtShare_30 : decode cX1_lookAtShare 30 = .ok (.aload_n 0, 1) := by decide +kernel
theorem dX1_lookAtShare_31 : decode cX1_lookAtShare 31 = .ok (.getfield 37, 3) := by decide +kernel
theorem dX1_lookAtShare_34 : decode cX1_lookAtShare 34 = .ok (.iload_n 2, 1) := by decide +kernel
theorem dX1_lookAtShare_35 : decode cX1_lookAtShare 35 = .ok (.dup2, 1) := by decide +kernel
theorem dX1_lookAtShare_36 : decode cX1_lookAtShare 36 = .ok (.iaload, 1) := by decide +kernel
theorem dX1_lookAtShare_37 : decode cX1_lookAtShare 37 = .ok (.iconst 1, 1) := by decide +kernel
theorem dX1_lookAtShare_38 : decode cX1_lookAtShare 38 = .ok (.iload_n 3, 1) := by decide +kernel
theorem dX1_lookAtShare_39 : decode cX1_lookAtShare 39 = .ok (.ishl, 1) := by decide +kernel
theorem dX1_lookAtShare_40 : decode cX1_lookAtShare 40 = .ok (.ior, 1) := by decide +kernel
theorem dX1_lookAtShare_41 : decode cX1_lookAtShare 41 = .ok (.iastore, 1) := by decide +kernel
theorem dX1_lookAtShare_42 : decode cX1_lookAtShare 42 = .ok (.iinc 3 1, 3) := by decide +kernel
theorem dX1_lookAtShare_45 : decode cX1_lookAtShare 45 = .ok (.goto (-36), 3) := by decide +kernel
theorem dX1_lookAtShare_48 : decode cX1_lookAtShare 48 = .ok (.aload_n 0, 1) := by decide +kernel
theorem dX1_lookAtShare_49 : decode cX1_lookAtShare 49 = .ok (.getfield 40, 3) := by decide +kernel
theorem dX1_lookAtShare_52 : decode cX1_lookAtShare 52 = .ok (.iload_n 2, 1) := by decide +kernel
theorem dX1_lookAtShare_53 : decode cX1_lookAtShare 53 = .ok (.aload_n 0, 1) := by decide +kernel
theorem dX1_lookAtShare_54 : decode cX1_lookAtShare 54 = .ok (.getfield 25, 3) := by decide +kernel
theorem dX1_lookAtShare_57 : decode cX1_lookAtShare 57 = .ok (.iload_n 2, 1) := by decide +kernel
theorem dX1_lookAtShare_58 : decode cX1_lookAtShare 58 = .ok (.invokestatic 128, 3) := by decide +kernel
theorem dX1_lookAtShare_61 : decode cX1_lookAtShare 61 = .ok (.aload_n 1, 1) := by decide +kernel
theorem dX1_lookAtShare_62 : decode cX1_lookAtShare 62 = .ok (.getfield 132, 3) := by decide +kernel
theorem dX1_lookAtShare_65 : decode cX1_lookAtShare 65 = .ok (.iload_n 2, 1) := by decide +kernel
theorem dX1_lookAtShare_66 : decode cX1_lookAtShare 66 = .ok (.iaload, 1) := by decide +kernel
theorem dX1_lookAtShare_67 : decode cX1_lookAtShare 67 = .ok (.if_icmp .ne 7, 3) := by decide +kernel
theorem dX1_lookAtShare_70 : decode cX1_lookAtShare 70 = .ok (.iconst 1, 1) := by decide +kernel
theorem dX1_lookAtShare_71 : decode cX1_lookAtShare 71 = .ok (.goto 4, 3) := by decide +kernel
theorem dX1_lookAtShare_74 : decode cX1_lookAtShare 74 = .ok (.iconst 0, 1) := by decide +kernel
theorem dX1_lookAtShare_75 : decode cX1_lookAtShare 75 = .ok (.bastore, 1) := by decide +kernel
theorem dX1_lookAtShare_76 : decode cX1_lookAtShare 76 = .ok (.return_, 1) := by decide +kernel
theorem dX1_isWholeBehind_0 : decode cX1_isWholeBehind 0 = .ok (.aload_n 0, 1) := by decide +kernel
theorem dX1_isWholeBehind_1 : decode cX1_isWholeBehind 1 = .ok (.getfield 40, 3) := by decide +kernel
theorem dX1_isWholeBehind_4 : decode cX1_isWholeBehind 4 = .ok (.iload_n 1, 1) := by decide +kernel
theorem dX1_isWholeBehind_5 : decode cX1_isWholeBehind 5 = .ok (.baload, 1) := by decide +kernel
theorem dX1_isWholeBehind_6 : decode cX1_isWholeBehind 6 = .ok (.ifCond .eq 20, 3) := by decide +kernel
theorem dX1_isWholeBehind_9 : decode cX1_isWholeBehind 9 = .ok (.aload_n 0, 1) := by decide +kernel
theorem dX1_isWholeBehind_10 : decode cX1_isWholeBehind 10 = .ok (.getfield 37, 3) := by decide +kernel
theorem dX1_isWholeBehind_13 : decode cX1_isWholeBehind 13 = .ok (.iload_n 1, 1) := by decide +kernel
theorem dX1_isWholeBehind_14 : decode cX1_isWholeBehind 14 = .ok (.iaload, 1) := by decide +kernel
theorem dX1_isWholeBehind_15 : decode cX1_isWholeBehind 15 = .ok (.iload_n 2, 1) := by decide +kernel
theorem dX1_isWholeBehind_16 : decode cX1_isWholeBehind 16 = .ok (.iconst (-1), 1) := by decide +kernel
theorem dX1_isWholeBehind_17 : decode cX1_isWholeBehind 17 = .ok (.ixor, 1) := by decide +kernel
theorem dX1_isWholeBehind_18 : decode cX1_isWholeBehind 18 = .ok (.iand, 1) := by decide +kernel
theorem dX1_isWholeBehind_19 : decode cX1_isWholeBehind 19 = .ok (.ifCond .ne 7, 3) := by decide +kernel
theorem dX1_isWholeBehind_22 : decode cX1_isWholeBehind 22 = .ok (.iconst 1, 1) := by decide +kernel
theorem dX1_isWholeBehind_23 : decode cX1_isWholeBehind 23 = .ok (.goto 4, 3) := by decide +kernel
theorem dX1_isWholeBehind_26 : decode cX1_isWholeBehind 26 = .ok (.iconst 0, 1) := by decide +kernel
theorem dX1_isWholeBehind_27 : decode cX1_isWholeBehind 27 = .ok (.ireturn, 1) := by decide +kernel
theorem dX1_holdsBehind_0 : decode cX1_holdsBehind 0 = .ok (.aload_n 0, 1) := by decide +kernel
theorem dX1_holdsBehind_1 : decode cX1_holdsBehind 1 = .ok (.getfield 37, 3) := by decide +kernel
theorem dX1_holdsBehind_4 : decode cX1_holdsBehind 4 = .ok (.iload_n 1, 1) := by decide +kernel
theorem dX1_holdsBehind_5 : decode cX1_holdsBehind 5 = .ok (.iaload, 1) := by decide +kernel
theorem dX1_holdsBehind_6 : decode cX1_holdsBehind 6 = .ok (.iload_n 2, 1) := by decide +kernel
theorem dX1_holdsBehind_7 : decode cX1_holdsBehind 7 = .ok (.iand, 1) := by decide +kernel
theorem dX1_holdsBehind_8 : decode cX1_holdsBehind 8 = .ok (.ifCond .eq 16, 3) := by decide +kernel
theorem dX1_holdsBehind_11 : decode cX1_holdsBehind 11 = .ok (.aload_n 0, 1) := by decide +kernel
theorem dX1_holdsBehind_12 : decode cX1_holdsBehind 12 = .ok (.iload_n 1, 1) := by decide +kernel
theorem dX1_holdsBehind_13 : decode cX1_holdsBehind 13 = .ok (.iload_n 2, 1) := by decide +kernel
theorem dX1_holdsBehind_14 : decode cX1_holdsBehind 14 = .ok (.invokevirtual 135, 3) := by decide +kernel
theorem dX1_holdsBehind_17 : decode cX1_holdsBehind 17 = .ok (.ifCond .ne 7, 3) := by decide +kernel
theorem dX1_holdsBehind_20 : decode cX1_holdsBehind 20 = .ok (.iconst 1, 1) := by decide +kernel
theorem dX1_holdsBehind_21 : decode cX1_holdsBehind 21 = .ok (.goto 4, 3) := by decide +kernel
theorem dX1_holdsBehind_24 : decode cX1_holdsBehind 24 = .ok (.iconst 0, 1) := by decide +kernel
theorem dX1_holdsBehind_25 : decode cX1_holdsBehind 25 = .ok (.ireturn, 1) := by decide +kernel
theorem dX1_peak_0 : decode cX1_peak 0 = .ok (.iconst 0, 1) := by decide +kernel
theorem dX1_peak_1 : decode cX1_peak 1 = .ok (.istore 4, 2) := by decide +kernel
theorem dX1_peak_3 : decode cX1_peak 3 = .ok (.iconst 0, 1) := by decide +kernel
theorem dX1_peak_4 : decode cX1_peak 4 = .ok (.istore 5, 2) := by decide +kernel
theorem dX1_peak_6 : decode cX1_peak 6 = .ok (.iload 5, 2) := by decide +kernel
theorem dX1_peak_8 : decode cX1_peak 8 = .ok (.aload_n 1, 1) := by decide +kernel
theorem dX1_peak_9 : decode cX1_peak 9 = .ok (.getfield 87, 3) := by decide +kernel
theorem dX1_peak_12 : decode cX1_peak 12 = .ok (.if_icmp .ge 22, 3) := by decide +kernel
theorem dX1_peak_15 : decode cX1_peak 15 = .ok (.aload_n 0, 1) := by decide +kernel
theorem dX1_peak_16 : decode cX1_peak 16 = .ok (.iload 5, 2) := by decide +kernel
theorem dX1_peak_18 : decode cX1_peak 18 = .ok (.iload_n 2, 1) := by decide +kernel
theorem dX1_peak_19 : decode cX1_peak 19 = .ok (.invokevirtual 138, 3) := by decide +kernel
theorem dX1_peak_22 : decode cX1_peak 22 = .ok (.ifCond .eq 6, 3) := by decide +kernel
theorem dX1_peak_25 : decode cX1_peak 25 = .ok (.iinc 4 1, 3) := by decide +kernel
theorem dX1_peak_28 : decode cX1_peak 28 = .ok (.iinc 5 1, 3) := by decide +kernel
theorem dX1_peak_31 : decode cX1_peak 31 = .ok (.goto (-25), 3) := by decide +kernel
theorem dX1_peak_34 : decode cX1_peak 34 = .ok (.iload 4, 2) := by decide +kernel
theorem dX1_peak_36 : decode cX1_peak 36 = .ok (.istore 5, 2) := by decide +kernel
theorem dX1_peak_38 : decode cX1_peak 38 = .ok (.iconst 0, 1) := by decide +kernel
theorem dX1_peak_39 : decode cX1_peak 39 = .ok (.istore 6, 2) := by decide +kernel
theorem dX1_peak_41 : decode cX1_peak 41 = .ok (.iload 6, 2) := by decide +kernel
theorem dX1_peak_43 : decode cX1_peak 43 = .ok (.aload_n 1, 1) := by decide +kernel
theorem dX1_peak_44 : decode cX1_peak 44 = .ok (.getfield 87, 3) := by decide +kernel
theorem dX1_peak_47 : decode cX1_peak 47 = .ok (.if_icmp .ge 74, 3) := by decide +kernel
theorem dX1_peak_50 : decode cX1_peak 50 = .ok (.aload_n 1, 1) := by decide +kernel
theorem dX1_peak_51 : decode cX1_peak 51 = .ok (.getfield 125, 3) := by decide +kernel
theorem dX1_peak_54 : decode cX1_peak 54 = .ok (.iload 6, 2) := by decide +kernel
theorem dX1_peak_56 : decode cX1_peak 56 = .ok (.iaload, 1) := by decide +kernel
theorem dX1_peak_57 : decode cX1_peak 57 = .ok (.istore 7, 2) := by decide +kernel
theorem dX1_peak_59 : decode cX1_peak 59 = .ok (.aload_n 0, 1) := by decide +kernel
theorem dX1_peak_60 : decode cX1_peak 60 = .ok (.getfield 37, 3) := by decide +kernel
theorem dX1_peak_63 : decode cX1_peak 63 = .ok (.iload 7, 2) := by decide +kernel
theorem dX1_peak_65 : decode cX1_peak 65 = .ok (.iaload, 1) := by decide +kernel
theorem dX1_peak_66 : decode cX1_peak 66 = .ok (.iload_n 3, 1) := by decide +kernel
theorem dX1_peak_67 : decode cX1_peak 67 = .ok (.invokestatic 109, 3) := by decide +kernel
theorem dX1_peak_70 : decode cX1_peak 70 = .ok (.ifCond .ne 6, 3) := by decide +kernel
theorem dX1_peak_73 : decode cX1_peak 73 = .ok (.goto 42, 3) := by decide +kernel
theorem dX1_peak_76 : decode cX1_peak 76 = .ok (.aload_n 0, 1) := by decide +kernel
theorem dX1_peak_77 : decode cX1_peak 77 = .ok (.iload 7, 2) := by decide +kernel
theorem dX1_peak_79 : decode cX1_peak 79 = .ok (.iload_n 2, 1) := by decide +kernel
theorem dX1_peak_80 : decode cX1_peak 80 = .ok (.invokevirtual 138, 3) := by decide +kernel
theorem dX1_peak_83 : decode cX1_peak 83 = .ok (.ifCond .ne 6, 3) := by decide +kernel
theorem dX1_peak_86 : decode cX1_peak 86 = .ok (.iinc 4 1, 3) := by decide +kernel
theorem dX1_peak_89 : decode cX1_peak 89 = .ok (.iload 5, 2) := by decide +kernel
theorem dX1_peak_91 : decode cX1_peak 91 = .ok (.iload 4, 2) := by decide +kernel
theorem dX1_peak_93 : decode cX1_peak 93 = .ok (.invokestatic 103, 3) := by decide +kernel
theorem dX1_peak_96 : decode cX1_peak 96 = .ok (.istore 5, 2) := by decide +kernel
theorem dX1_peak_98 : decode cX1_peak 98 = .ok (.aload_n 0, 1) := by decide +kernel
theorem dX1_peak_99 : decode cX1_peak 99 = .ok (.iload 7, 2) := by decide +kernel
theorem dX1_peak_101 : decode cX1_peak 101 = .ok (.iload_n 2, 1) := by decide +kernel
theorem dX1_peak_102 : decode cX1_peak 102 = .ok (.iconst 1, 1) := by decide +kernel
theorem dX1_peak_103 : decode cX1_peak 103 = .ok (.iload_n 3, 1) := by decide +kernel
theorem dX1_peak_104 : decode cX1_peak 104 = .ok (.ishl, 1) := by decide +kernel
theorem dX1_peak_105 : decode cX1_peak 105 = .ok (.ior, 1) := by decide +kernel
theorem dX1_peak_106 : decode cX1_peak 106 = .ok (.invokevirtual 135, 3) := by decide +kernel
theorem dX1_peak_109 : decode cX1_peak 109 = .ok (.ifCond .eq 6, 3) := by decide +kernel
theorem dX1_peak_112 : decode cX1_peak 112 = .ok (.iinc 4 (-1), 3) := by decide +kernel
theorem dX1_peak_115 : decode cX1_peak 115 = .ok (.iinc 6 1, 3) := by decide +kernel
theorem dX1_peak_118 : decode cX1_peak 118 = .ok (.goto (-77), 3) := by decide +kernel
theorem dX1_peak_121 : decode cX1_peak 121 = .ok (.iload 5, 2) := by decide +kernel
theorem dX1_peak_123 : decode cX1_peak 123 = .ok (.ireturn, 1) := by decide +kernel
theorem dX1_sortByNumber_0 : decode cX1_sortByNumber 0 = .ok (.iconst 0, 1) := by decide +kernel
theorem dX1_sortByNumber_1 : decode cX1_sortByNumber 1 = .ok (.istore_n 1, 1) := by decide +kernel
theorem dX1_sortByNumber_2 : decode cX1_sortByNumber 2 = .ok (.iload_n 1, 1) := by decide +kernel
theorem dX1_sortByNumber_3 : decode cX1_sortByNumber 3 = .ok (.aload_n 0, 1) := by decide +kernel
theorem dX1_sortByNumber_4 : decode cX1_sortByNumber 4 = .ok (.getfield 15, 3) := by decide +kernel
theorem dX1_sortByNumber_7 : decode cX1_sortByNumber 7 = .ok (.if_icmp .ge 64, 3) := by decide +kernel
theorem dX1_sortByNumber_10 : decode cX1_sortByNumber 10 = .ok (.iload_n 1, 1) := by decide +kernel
theorem dX1_sortByNumber_11 : decode cX1_sortByNumber 11 = .ok (.istore_n 2, 1) := by decide +kernel
theorem dX1_sortByNumber_12 : decode cX1_sortByNumber 12 = .ok (.iload_n 2, 1) := by decide +kernel
theorem dX1_sortByNumber_13 : decode cX1_sortByNumber 13 = .ok (.ifCond .le 40, 3) := by decide +kernel
theorem dX1_sortByNumber_16 : decode cX1_sortByNumber 16 = .ok (.aload_n 0, 1) := by decide +kernel
theorem dX1_sortByNumber_17 : decode cX1_sortByNumber 17 = .ok (.getfield 34, 3) := by decide +kernel
theorem dX1_sortByNumber_20 : decode cX1_sortByNumber 20 = .ok (.iload_n 2, 1) := by decide +kernel
theorem dX1_sortByNumber_21 : decode cX1_sortByNumber 21 = .ok (.iconst 1, 1) := by decide +kernel
theorem dX1_sortByNumber_22 : decode cX1_sortByNumber 22 = .ok (.isub, 1) := by decide +kernel
theorem dX1_sortByNumber_23 : decode cX1_sortByNumber 23 = .ok (.iaload, 1) := by decide +kernel
theorem dX1_sortByNumber_24 : decode cX1_sortByNumber 24 = .ok (.aload_n 0, 1) := by decide +kernel
theorem dX1_sortByNumber_25 : decode cX1_sortByNumber 25 = .ok (.getfield 18, 3) := by decide +kernel
theorem dX1_sortByNumber_28 : decode cX1_sortByNumber 28 = .ok (.iload_n 1, 1) := by decide +kernel
theorem dX1_sortByNumber_29 : decode cX1_sortByNumber 29 = .ok (.iaload, 1) := by decide +kernel
theorem dX1_sortByNumber_30 : decode cX1_sortByNumber 30 = .ok (.if_icmp .le 23, 3) := by decide +kernel
theorem dX1_sortByNumber_33 : decode cX1_sortByNumber 33 = .ok (.aload_n 0, 1) := by decide +kernel
theorem dX1_sortByNumber_34 : decode cX1_sortByNumber 34 = .ok (.getfield 34, 3) := by decide +kernel
theorem dX1_sortByNumber_37 : decode cX1_sortByNumber 37 = .ok (.iload_n 2, 1) := by decide +kernel
theorem dX1_sortByNumber_38 : decode cX1_sortByNumber 38 = .ok (.aload_n 0, 1) := by decide +kernel
theorem dX1_sortByNumber_39 : decode cX1_sortByNumber 39 = .ok (.getfield 34, 3) := by decide +kernel
theorem dX1_sortByNumber_42 : decode cX1_sortByNumber 42 = .ok (.iload_n 2, 1) := by decide +kernel
theorem dX1_sortByNumber_43 : decode cX1_sortByNumber 43 = .ok (.iconst 1, 1) := by decide +kernel
theorem dX1_sortByNumber_44 : decode cX1_sortByNumber 44 = .ok (.isub, 1) := by decide +kernel
theorem dX1_sortByNumber_45 : decode cX1_sortByNumber 45 = .ok (.iaload, 1) := by decide +kernel
theorem dX1_sortByNumber_46 : decode cX1_sortByNumber 46 = .ok (.iastore, 1) := by decide +kernel
theorem dX1_sortByNumber_47 : decode cX1_sortByNumber 47 = .ok (.iinc 2 (-1), 3) := by decide +kernel
theorem dX1_sortByNumber_50 : decode cX1_sortByNumber 50 = .ok (.goto (-38), 3) := by decide +kernel
theorem dX1_sortByNumber_53 : decode cX1_sortByNumber 53 = .ok (.aload_n 0, 1) := by decide +kernel
theorem dX1_sortByNumber_54 : decode cX1_sortByNumber 54 = .ok (.getfield 34, 3) := by decide +kernel
theorem dX1_sortByNumber_57 : decode cX1_sortByNumber 57 = .ok (.iload_n 2, 1) := by decide +kernel
theorem dX1_sortByNumber_58 : decode cX1_sortByNumber 58 = .ok (.aload_n 0, 1) := by decide +kernel
theorem dX1_sortByNumber_59 : decode cX1_sortByNumber 59 = .ok (.getfield 18, 3) := by decide +kernel
theorem dX1_sortByNumber_62 : decode cX1_sortByNumber 62 = .ok (.iload_n 1, 1) := by decide +kernel
theorem dX1_sortByNumber_63 : decode cX1_sortByNumber 63 = .ok (.iaload, 1) := by decide +kernel
theorem dX1_sortByNumber_64 : decode cX1_sortByNumber 64 = .ok (.iastore, 1) := by decide +kernel
theorem dX1_sortByNumber_65 : decode cX1_sortByNumber 65 = .ok (.iinc 1 1, 3) := by decide +kernel
theorem dX1_sortByNumber_68 : decode cX1_sortByNumber 68 = .ok (.goto (-66), 3) := by decide +kernel
theorem dX1_sortByNumber_71 : decode cX1_sortByNumber 71 = .ok (.return_, 1) := by decide +kernel
theorem dX1_needsBy_0 : decode cX1_needsBy 0 = .ok (.iconst 0, 1) := by decide +kernel
theorem dX1_needsBy_1 : decode cX1_needsBy 1 = .ok (.istore 4, 2) := by decide +kernel
theorem dX1_needsBy_3 : decode cX1_needsBy 3 = .ok (.iconst 0, 1) := by decide +kernel
theorem dX1_needsBy_4 : decode cX1_needsBy 4 = .ok (.istore 5, 2) := by decide +kernel
theorem dX1_needsBy_6 : decode cX1_needsBy 6 = .ok (.iload 5, 2) := by decide +kernel
theorem dX1_needsBy_8 : decode cX1_needsBy 8 = .ok (.aload_n 0, 1) := by decide +kernel
theorem dX1_needsBy_9 : decode cX1_needsBy 9 = .ok (.getfield 15, 3) := by decide +kernel
theorem dX1_needsBy_12 : decode cX1_needsBy 12 = .ok (.if_icmp .ge 32, 3) := by decide +kernel
theorem dX1_needsBy_15 : decode cX1_needsBy 15 = .ok (.iload_n 2, 1) := by decide +kernel
theorem dX1_needsBy_16 : decode cX1_needsBy 16 = .ok (.iload 5, 2) := by decide +kernel
theorem dX1_needsBy_18 : decode cX1_needsBy 18 = .ok (.invokestatic 109, 3) := by decide +kernel
theorem dX1_needsBy_21 : decode cX1_needsBy 21 = .ok (.ifCond .eq 17, 3) := by decide +kernel
theorem dX1_needsBy_24 : decode cX1_needsBy 24 = .ok (.iload 4, 2) := by decide +kernel
theorem dX1_needsBy_26 : decode cX1_needsBy 26 = .ok (.iconst 1, 1) := by decide +kernel
theorem dX1_needsBy_27 : decode cX1_needsBy 27 = .ok (.aload_n 0, 1) := by decide +kernel
theorem dX1_needsBy_28 : decode cX1_needsBy 28 = .ok (.getfield 34, 3) := by decide +kernel
theorem dX1_needsBy_31 : decode cX1_needsBy 31 = .ok (.iload 5, 2) := by decide +kernel
theorem dX1_needsBy_33 : decode cX1_needsBy 33 = .ok (.iaload, 1) := by decide +kernel
theorem dX1_needsBy_34 : decode cX1_needsBy 34 = .ok (.ishl, 1) := by decide +kernel
theorem dX1_needsBy_35 : decode cX1_needsBy 35 = .ok (.ior, 1) := by decide +kernel
theorem dX1_needsBy_36 : decode cX1_needsBy 36 = .ok (.istore 4, 2) := by decide +kernel
theorem dX1_needsBy_38 : decode cX1_needsBy 38 = .ok (.iinc 5 1, 3) := by decide +kernel
theorem dX1_needsBy_41 : decode cX1_needsBy 41 = .ok (.goto (-35), 3) := by decide +kernel
theorem dX1_needsBy_44 : decode cX1_needsBy 44 = .ok (.aload_n 0, 1) := by decide +kernel
theorem dX1_needsBy_45 : decode cX1_needsBy 45 = .ok (.aload_n 1, 1) := by decide +kernel
theorem dX1_needsBy_46 : decode cX1_needsBy 46 = .ok (.iload 4, 2) := by decide +kernel
theorem dX1_needsBy_48 : decode cX1_needsBy 48 = .ok (.aload_n 0, 1) := by decide +kernel
theorem dX1_needsBy_49 : decode cX1_needsBy 49 = .ok (.getfield 34, 3) := by decide +kernel
theorem dX1_needsBy_52 : decode cX1_needsBy 52 = .ok (.iload_n 3, 1) := by decide +kernel
theorem dX1_needsBy_53 : decode cX1_needsBy 53 = .ok (.iaload, 1) := by decide +kernel
theorem dX1_needsBy_54 : decode cX1_needsBy 54 = .ok (.invokevirtual 99, 3) := by decide +kernel
theorem dX1_needsBy_57 : decode cX1_needsBy 57 = .ok (.aload_n 0, 1) := by decide +kernel
theorem dX1_needsBy_58 : decode cX1_needsBy 58 = .ok (.getfield 31, 3) := by decide +kernel
theorem dX1_needsBy_61 : decode cX1_needsBy 61 = .ok (.iload_n 2, 1) := by decide +kernel
theorem dX1_needsBy_62 : decode cX1_needsBy 62 = .ok (.iconst 1, 1) := by decide +kernel
theorem dX1_needsBy_63 : decode cX1_needsBy 63 = .ok (.iload_n 3, 1) := by decide +kernel
theorem dX1_needsBy_64 : decode cX1_needsBy 64 = .ok (.ishl, 1) := by decide +kernel
theorem dX1_needsBy_65 : decode cX1_needsBy 65 = .ok (.ior, 1) := by decide +kernel
theorem dX1_needsBy_66 : decode cX1_needsBy 66 = .ok (.iaload, 1) := by decide +kernel
theorem dX1_needsBy_67 : decode cX1_needsBy 67 = .ok (.invokestatic 103, 3) := by decide +kernel
theorem dX1_needsBy_70 : decode cX1_needsBy 70 = .ok (.ireturn, 1) := by decide +kernel
theorem dX1_firstWithin_0 : decode cX1_firstWithin 0 = .ok (.iconst 0, 1) := by decide +kernel
theorem dX1_firstWithin_1 : decode cX1_firstWithin 1 = .ok (.istore 4, 2) := by decide +kernel
theorem dX1_firstWithin_3 : decode cX1_firstWithin 3 = .ok (.iload 4, 2) := by decide +kernel
theorem dX1_firstWithin_5 : decode cX1_firstWithin 5 = .ok (.aload_n 0, 1) := by decide +kernel
theorem dX1_firstWithin_6 : decode cX1_firstWithin 6 = .ok (.getfield 15, 3) := by decide +kernel
theorem dX1_firstWithin_9 : decode cX1_firstWithin 9 = .ok (.if_icmp .ge 33, 3) := by decide +kernel
theorem dX1_firstWithin_12 : decode cX1_firstWithin 12 = .ok (.iload_n 2, 1) := by decide +kernel
theorem dX1_firstWithin_13 : decode cX1_firstWithin 13 = .ok (.iload 4, 2) := by decide +kernel
theorem dX1_firstWithin_15 : decode cX1_firstWithin 15 = .ok (.invokestatic 109, 3) := by decide +kernel
theorem dX1_firstWithin_18 : decode cX1_firstWithin 18 = .ok (.ifCond .ne 18, 3) := by decide +kernel
theorem dX1_firstWithin_21 : decode cX1_firstWithin 21 = .ok (.aload_n 0, 1) := by decide +kernel
theorem dX1_firstWithin_22 : decode cX1_firstWithin 22 = .ok (.aload_n 1, 1) := by decide +kernel
theorem dX1_firstWithin_23 : decode cX1_firstWithin 23 = .ok (.iload_n 2, 1) := by decide +kernel
theorem dX1_firstWithin_24 : decode cX1_firstWithin 24 = .ok (.iload 4, 2) := by decide +kernel
theorem dX1_firstWithin_26 : decode cX1_firstWithin 26 = .ok (.invokevirtual 113, 3) := by decide +kernel
theorem dX1_firstWithin_29 : decode cX1_firstWithin 29 = .ok (.iload_n 3, 1) := by decide +kernel
theorem dX1_firstWithin_30 : decode cX1_firstWithin 30 = .ok (.if_icmp .gt 6, 3) := by decide +kernel
theorem dX1_firstWithin_33 : decode cX1_firstWithin 33 = .ok (.iload 4, 2) := by decide +kernel
theorem dX1_firstWithin_35 : decode cX1_firstWithin 35 = .ok (.ireturn, 1) := by decide +kernel
theorem dX1_firstWithin_36 : decode cX1_firstWithin 36 = .ok (.iinc 4 1, 3) := by decide +kernel
theorem dX1_firstWithin_39 : decode cX1_firstWithin 39 = .ok (.goto (-36), 3) := by decide +kernel
theorem dX1_firstWithin_42 : decode cX1_firstWithin 42 = .ok (.iconst 0, 1) := by decide +kernel
theorem dX1_firstWithin_43 : decode cX1_firstWithin 43 = .ok (.ireturn, 1) := by decide +kernel
