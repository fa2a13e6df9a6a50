theorem dX12_init_0 : decode cX12_init 0 = .ok (.aload_n 0, 1) := by decide +kernel
theorem dX12_init_1 : decode cX12_init 1 = .ok (.invokespecial 1, 3) := by decide +kernel
theorem dX12_init_4 : decode cX12_init 4 = .ok (.aload_n 0, 1) := by decide +kernel
theorem dX12_init_5 : decode cX12_init 5 = .ok (.bipush 24, 2) := by decide +kernel
theorem dX12_init_7 : decode cX12_init 7 = .ok (.newarray .int, 2) := by decide +kernel
theorem dX12_init_9 : decode cX12_init 9 = .ok (.putfield 7, 3) := by decide +kernel
theorem dX12_init_12 : decode cX12_init 12 = .ok (.aload_n 0, 1) := by decide +kernel
theorem dX12_init_13 : decode cX12_init 13 = .ok (.sipush 258, 3) := by decide +kernel
theorem dX12_init_16 : decode cX12_init 16 = .ok (.newarray .int, 2) := by decide +kernel
theorem dX12_init_18 : decode cX12_init 18 = .ok (.putfield 13, 3) := by decide +kernel
theorem dX12_init_21 : decode cX12_init 21 = .ok (.aload_n 0, 1) := by decide +kernel
theorem dX12_init_22 : decode cX12_init 22 = .ok (.sipush 3096, 3) := by decide +kernel
theorem dX12_init_25 : decode cX12_init 25 = .ok (.newarray .int, 2) := by decide +kernel
theorem dX12_init_27 : decode cX12_init 27 = .ok (.putfield 16, 3) := by decide +kernel
theorem dX12_init_30 : decode cX12_init 30 = .ok (.aload_n 0, 1) := by decide +kernel
theorem dX12_init_31 : decode cX12_init 31 = .ok (.bipush 7, 2) := by decide +kernel
theorem dX12_init_33 : decode cX12_init 33 = .ok (.newarray .int, 2) := by decide +kernel
theorem dX12_init_35 : decode cX12_init 35 = .ok (.putfield 19, 3) := by decide +kernel
theorem dX12_init_38 : decode cX12_init 38 = .ok (.aload_n 0, 1) := by decide +kernel
theorem dX12_init_39 : decode cX12_init 39 = .ok (.bipush 24, 2) := by decide +kernel
theorem dX12_init_41 : decode cX12_init 41 = .ok (.newarray .long, 2) := by decide +kernel
theorem dX12_init_43 : decode cX12_init 43 = .ok (.putfield 22, 3) := by decide +kernel
theorem dX12_init_46 : decode cX12_init 46 = .ok (.aload_n 0, 1) := by decide +kernel
theorem dX12_init_47 : decode cX12_init 47 = .ok (.bipush 24, 2) := by decide +kernel
theorem dX12_init_49 : decode cX12_init 49 = .ok (.newarray .long, 2) := by decide +kernel
theorem dX12_init_51 : decode cX12_init 51 = .ok (.putfield 26, 3) := by decide +kernel
theorem dX12_init_54 : decode cX12_init 54 = .ok (.aload_n 0, 1) := by decide +kernel
theorem dX12_init_55 : decode cX12_init 55 = .ok (.bipush 24, 2) := by decide +kernel
theorem dX12_init_57 : decode cX12_init 57 = .ok (.newarray .long, 2) := by decide +kernel
theorem dX12_init_59 : decode cX12_init 59 = .ok (.putfield 29, 3) := by decide +kernel
theorem dX12_init_62 : decode cX12_init 62 = .ok (.aload_n 0, 1) := by decide +kernel
theorem dX12_init_63 : decode cX12_init 63 = .ok (.bipush 24, 2) := by decide +kernel
theorem dX12_init_65 : decode cX12_init 65 = .ok (.newarray .long, 2) := by decide +kernel
theorem dX12_init_67 : decode cX12_init 67 = .ok (.putfield 32, 3) := by decide +kernel
theorem dX12_init_70 : decode cX12_init 70 = .ok (.aload_n 0, 1) := by decide +kernel
theorem dX12_init_71 : decode cX12_init 71 = .ok (.sipush 768, 3) := by decide +kernel
theorem dX12_init_74 : decode cX12_init 74 = .ok (.newarray .int, 2) := by decide +kernel
theorem dX12_init_76 : decode cX12_init 76 = .ok (.putfield 35, 3) := by decide +kernel
theorem dX12_init_79 : decode cX12_init 79 = .ok (.aload_n 0, 1) := by decide +kernel
theorem dX12_init_80 : decode cX12_init 80 = .ok (.bipush 24, 2) := by decide +kernel
theorem dX12_init_82 : decode cX12_init 82 = .ok (.newarray .long, 2) := by decide +kernel
theorem dX12_init_84 : decode cX12_init 84 = .ok (.putfield 38, 3) := by decide +kernel
theorem dX12_init_87 : decode cX12_init 87 = .ok (.aload_n 0, 1) := by decide +kernel
theorem dX12_init_88 : decode cX12_init 88 = .ok (.iconst 3, 1) := by decide +kernel
theorem dX12_init_89 : decode cX12_init 89 = .ok (.newarray .int, 2) := by decide +kernel
theorem dX12_init_91 : decode cX12_init 91 = .ok (.putfield 41, 3) := by decide +kernel
theorem dX12_init_94 : decode cX12_init 94 = .ok (.aload_n 0, 1) := by decide +kernel
theorem dX12_init_95 : decode cX12_init 95 = .ok (.bipush 8, 2) := by decide +kernel
theorem dX12_init_97 : decode cX12_init 97 = .ok (.newarray .boolean, 2) := by decide +kernel
theorem dX12_init_99 : decode cX12_init 99 = .ok (.putfield 44, 3) := by decide +kernel
theorem dX12_init_102 : decode cX12_init 102 = .ok (.aload_n 0, 1) := by decide +kernel
theorem dX12_init_103 : decode cX12_init 103 = .ok (.bipush 8, 2) := by decide +kernel
theorem dX12_init_105 : decode cX12_init 105 = .ok (.newarray .int, 2) := by decide +kernel
theorem dX12_init_107 : decode cX12_init 107 = .ok (.putfield 48, 3) := by decide +kernel
theorem dX12_init_110 : decode cX12_init 110 = .ok (.aload_n 0, 1) := by decide +kernel
theorem dX12_init_111 : decode cX12_init 111 = .ok (.bipush 8, 2) := by decide +kernel
theorem dX12_init_113 : decode cX12_init 113 = .ok (.newarray .int, 2) := by decide +kernel
theorem dX12_init_115 : decode cX12_init 115 = .ok (.putfield 51, 3) := by decide +kernel
theorem dX12_init_118 : decode cX12_init 118 = .ok (.aload_n 0, 1) := by decide +kernel
theorem dX12_init_119 : decode cX12_init 119 = .ok (.bipush 8, 2) := by decide +kernel
theorem dX12_init_121 : decode cX12_init 121 = .ok (.newarray .int, 2) := by decide +kernel
theorem dX12_init_123 : decode cX12_init 123 = .ok (.putfield 54, 3) := by decide +kernel
theorem dX12_init_126 : decode cX12_init 126 = .ok (.aload_n 0, 1) := by decide +kernel
theorem dX12_init_127 : decode cX12_init 127 = .ok (.bipush 8, 2) := by decide +kernel
theorem dX12_init_129 : decode cX12_init 129 = .ok (.newarray .int, 2) := by decide +kernel
theorem dX12_init_131 : decode cX12_init 131 = .ok (.putfield 57, 3) := by decide +kernel
theorem dX12_init_134 : decode cX12_init 134 = .ok (.aload_n 0, 1) := by decide +kernel
theorem dX12_init_135 : decode cX12_init 135 = .ok (.bipush 40, 2) := by decide +kernel
theorem dX12_init_137 : decode cX12_init 137 = .ok (.newarray .char, 2) := by decide +kernel
theorem dX12_init_139 : decode cX12_init 139 = .ok (.putfield 60, 3) := by decide +kernel
theorem dX12_init_142 : decode cX12_init 142 = .ok (.aload_n 0, 1) := by decide +kernel
theorem dX12_init_143 : decode cX12_init 143 = .ok (.bipush 32, 2) := by decide +kernel
theorem dX12_init_145 : decode cX12_init 145 = .ok (.newarray .int, 2) := by decide +kernel
theorem dX12_init_147 : decode cX12_init 147 = .ok (.putfield 64, 3) := by decide +kernel
theorem dX12_init_150 : decode cX12_init 150 = .ok (.aload_n 0, 1) := by decide +kernel
theorem dX12_init_151 : decode cX12_init 151 = .ok (.iconst 4, 1) := by decide +kernel
theorem dX12_init_152 : decode cX12_init 152 = .ok (.putfield 67, 3) := by decide +kernel
theorem dX12_init_155 : decode cX12_init 155 = .ok (.aload_n 0, 1) := by decide +kernel
theorem dX12_init_156 : decode cX12_init 156 = .ok (.invokevirtual 71, 3) := by decide +kernel
theorem dX12_init_159 : decode cX12_init 159 = .ok (.return_, 1) := by decide +kernel
theorem dX12_in_0 : decode cX12_in 0 = .ok (.iload_n 0, 1) := by decide +kernel
theorem dX12_in_1 : decode cX12_in 1 = .ok (.iload_n 1, 1) := by decide +kernel
theorem dX12_in_2 : decode cX12_in 2 = .ok (.if_icmp .lt 12, 3) := by decide +kernel
theorem dX12_in_5 : decode cX12_in 5 = .ok (.iload_n 0, 1) := by decide +kernel
theorem dX12_in_6 : decode cX12_in 6 = .ok (.iload_n 2, 1) := by decide +kernel
theorem dX12_in_7 : decode cX12_in 7 = .ok (.if_icmp .gt 7, 3) := by decide +kernel
theorem dX12_in_10 : decode cX12_in 10 = .ok (.iconst 1, 1) := by decide +kernel
theorem dX12_in_11 : decode cX12_in 11 = .ok (.goto 4, 3) := by decide +kernel
theorem dX12_in_14 : decode cX12_in 14 = .ok (.iconst 0, 1) := by decide +kernel
theorem dX12_in_15 : decode cX12_in 15 = .ok (.ireturn, 1) := by decide +kernel
theorem dX12_lost_0 : decode cX12_lost 0 = .ok (.ldc2_w 74, 3) := by decide +kernel
theorem dX12_lost_3 : decode cX12_lost 3 = .ok (.lreturn, 1) := by decide +kernel
theorem dX12_begin_0 : decode cX12_begin 0 = .ok (.iconst 0, 1) := by decide +kernel
theorem dX12_begin_1 : decode cX12_begin 1 = .ok (.istore_n 1, 1) := by decide +kernel
theorem dX12_begin_2 : decode cX12_begin 2 = .ok (.iload_n 1, 1) := by decide +kernel
theorem dX12_begin_3 : decode cX12_begin 3 = .ok (.bipush 24, 2) := by decide +kernel
theorem dX12_begin_5 : decode cX12_begin 5 = .ok (.if_icmp .ge 16, 3) := by decide +kernel
theorem dX12_begin_8 : decode cX12_begin 8 = .ok (.aload_n 0, 1) := by decide +kernel
theorem dX12_begin_9 : decode cX12_begin 9 = .ok (.getfield 7, 3) := by decide +kernel
theorem dX12_begin_12 : decode cX12_begin 12 = .ok (.iload_n 1, 1) := by decide +kernel
theorem dX12_begin_13 : decode cX12_begin 13 = .ok (.iconst (-1), 1) := by decide +kernel
theorem dX12_begin_14 : decode cX12_begin 14 = .ok (.iastore, 1) := by decide +kernel
theorem dX12_begin_15 : decode cX12_begin 15 = .ok (.iinc 1 1, 3) := by decide +kernel
theorem dX12_begin_18 : decode cX12_begin 18 = .ok (.goto (-16), 3) := by decide +kernel
theorem dX12_begin_21 : decode cX12_begin 21 = .ok (.aload_n 0, 1) := by decide +kernel
theorem dX12_begin_22 : decode cX12_begin 22 = .ok (.iconst 0, 1) := by decide +kernel
theorem dX12_begin_23 : decode cX12_begin 23 = .ok (.putfield 76, 3) := by decide +kernel
theorem dX12_begin_26 : decode cX12_begin 26 = .ok (.iconst 0, 1) := by decide +kernel
theorem dX12_begin_27 : decode cX12_begin 27 = .ok (.istore_n 1, 1) := by decide +kernel
theorem dX12_begin_28 : decode cX12_begin 28 = .ok (.iload_n 1, 1) := by decide +kernel
theorem dX12_begin_29 : decode cX12_begin 29 = .ok (.bipush 6, 2) := by decide +kernel
theorem dX12_begin_31 : decode cX12_begin 31 = .ok (.if_icmp .ge 20, 3) := by decide +kernel
theorem dX12_begin_34 : decode cX12_begin 34 = .ok (.aload_n 0, 1) := by decide +kernel
theorem dX12_begin_35 : decode cX12_begin 35 = .ok (.getfield 13, 3) := by decide +kernel
theorem dX12_begin_38 : decode cX12_begin 38 = .ok (.sipush 252, 3) := by decide +kernel
theorem dX12_begin_41 : decode cX12_begin 41 = .ok (.iload_n 1, 1) := by decide +kernel
theorem dX12_begin_42 : decode cX12_begin 42 = .ok (.iadd, 1) := by decide +kernel
theorem dX12_begin_43 : decode cX12_begin 43 = .ok (.iconst 0, 1) := by decide +kernel
theorem dX12_begin_44 : decode cX12_begin 44 = .ok (.iastore, 1) := by decide +kernel
theorem dX12_begin_45 : decode cX12_begin 45 = .ok (.iinc 1 1, 3) := by decide +kernel
theorem dX12_begin_48 : decode cX12_begin 48 = .ok (.goto (-20), 3) := by decide +kernel
theorem dX12_begin_51 : decode cX12_begin 51 = .ok (.aload_n 0, 1) := by decide +kernel
theorem dX12_begin_52 : decode cX12_begin 52 = .ok (.iconst 0, 1) := by decide +kernel
theorem dX12_begin_53 : decode cX12_begin 53 = .ok (.putfield 79, 3) := by decide +kernel
theorem dX12_begin_56 : decode cX12_begin 56 = .ok (.aload_n 0, 1) := by decide +kernel
theorem dX12_begin_57 : decode cX12_begin 57 = .ok (.iconst 0, 1) := by decide +kernel
theorem dX12_begin_58 : decode cX12_begin 58 = .ok (.putfield 82, 3) := by decide +kernel
theorem dX12_begin_61 : decode cX12_begin 61 = .ok (.aload_n 0, 1) := by decide +kernel
theorem dX12_begin_62 : decode cX12_begin 62 = .ok (.iconst 0, 1) := by decide +kernel
theorem dX12_begin_63 : decode cX12_begin 63 = .ok (.putfield 85, 3) := by decide +kernel
theorem dX12_begin_66 : decode cX12_begin 66 = .ok (.aload_n 0, 1) := by decide +kernel
theorem dX12_begin_67 : decode cX12_begin 67 = .ok (.iconst 0, 1) := by decide +kernel
theorem dX12_begin_68 : decode cX12_begin 68 = .ok (.putfield 88, 3) := by decide +kernel
theorem dX12_begin_71 : decode cX12_begin 71 = .ok (.aload_n 0, 1) := by decide +kernel
theorem dX12_begin_72 : decode cX12_begin 72 = .ok (.iconst 0, 1) := by decide +kernel
theorem dX12_begin_73 : decode cX12_begin 73 = .ok (.putfield 91, 3) := by decide +kernel
theorem dX12_begin_76 : decode cX12_begin 76 = .ok (.return_, 1) := by decide +kernel
theorem dX12_reset_0 : decode cX12_reset 0 = .ok (.iload_n 1, 1) := by decide +kernel
theorem dX12_reset_1 : decode cX12_reset 1 = .ok (.iconst 1, 1) := by decide +kernel
theorem dX12_reset_2 : decode cX12_reset 2 = .ok (.iconst 5, 1) := by decide +kernel
theorem dX12_reset_3 : decode cX12_reset 3 = .ok (.invokestatic 94, 3) := by decide +kernel
theorem dX12_reset_6 : decode cX12_reset 6 = .ok (.ifCond .ne 6, 3) := by decide +kernel
theorem dX12_reset_9 : decode cX12_reset 9 = .ok (.bipush (-3), 2) := by decide +kernel
theorem dX12_reset_11 : decode cX12_reset 11 = .ok (.ireturn, 1) := by decide +kernel
theorem dX12_reset_12 : decode cX12_reset 12 = .ok (.aload_n 0, 1) := by decide +kernel
theorem dX12_reset_13 : decode cX12_reset 13 = .ok (.getfield 67, 3) := by decide +kernel
theorem dX12_reset_16 : decode cX12_reset 16 = .ok (.istore_n 2, 1) := by decide +kernel
theorem dX12_reset_17 : decode cX12_reset 17 = .ok (.aload_n 0, 1) := by decide +kernel
theorem dX12_reset_18 : decode cX12_reset 18 = .ok (.iload_n 1, 1) := by decide +kernel
theorem dX12_reset_19 : decode cX12_reset 19 = .ok (.putfield 67, 3) := by decide +kernel
theorem dX12_reset_22 : decode cX12_reset 22 = .ok (.aload_n 0, 1) := by decide +kernel
theorem dX12_reset_23 : decode cX12_reset 23 = .ok (.invokevirtual 71, 3) := by decide +kernel
theorem dX12_reset_26 : decode cX12_reset 26 = .ok (.iload_n 2, 1) := by decide +kernel
theorem dX12_reset_27 : decode cX12_reset 27 = .ok (.ireturn, 1) := by decide +kernel
theorem dX12_headers_0 : decode cX12_headers 0 = .ok (.iconst 1, 1) := by decide +kernel
theorem dX12_headers_1 : decode cX12_headers 1 = .ok (.aload_n 0, 1) := by decide +kernel
theorem dX12_headers_2 : decode cX12_headers 2 = .ok (.getfield 67, 3) := by decide +kernel
theorem dX12_headers_5 : decode cX12_headers 5 = .ok (.ishl, 1) := by decide +kernel
theorem dX12_headers_6 : decode cX12_headers 6 = .ok (.ireturn, 1) := by decide +kernel
theorem dX12_noHeader_0 : decode cX12_noHeader 0 = .ok (.iload_n 1, 1) := by decide +kernel
theorem dX12_noHeader_1 : decode cX12_noHeader 1 = .ok (.iconst 0, 1) := by decide +kernel
theorem dX12_noHeader_2 : decode cX12_noHeader 2 = .ok (.aload_n 0, 1) := by decide +kernel
theorem dX12_noHeader_3 : decode cX12_noHeader 3 = .ok (.invokevirtual 98, 3) := by decide +kernel
theorem dX12_noHeader_6 : decode cX12_noHeader 6 = .ok (.iconst 1, 1) := by decide +kernel
theorem dX12_noHeader_7 : decode cX12_noHeader 7 = .ok (.isub, 1) := by decide +kernel
theorem dX12_noHeader_8 : decode cX12_noHeader 8 = .ok (.invokestatic 94, 3) := by decide +kernel
theorem dX12_noHeader_11 : decode cX12_noHeader 11 = .ok (.ifCond .ne 7, 3) := by decide +kernel
theorem dX12_noHeader_14 : decode cX12_noHeader 14 = .ok (.iconst 1, 1) := by decide +kernel
theorem dX12_noHeader_15 : decode cX12_noHeader 15 = .ok (.goto 4, 3) := by decide +kernel
theorem dX12_noHeader_18 : decode cX12_noHeader 18 = .ok (.iconst 0, 1) := by decide +kernel
theorem dX12_noHeader_19 : decode cX12_noHeader 19 = .ok (.ireturn, 1) := by decide +kernel
theorem dX12_noBox_0 : decode cX12_noBox 0 = .ok (.iload_n 0, 1) := by decide +kernel
theorem dX12_noBox_1 : decode cX12_noBox 1 = .ok (.iconst 0, 1) := by decide +kernel
theorem dX12_noBox_2 : decode cX12_noBox 2 = .ok (.iconst 5, 1) := by decide +kernel
theorem dX12_noBox_3 : decode cX12_noBox 3 = .ok (.invokestatic 94, 3) := by decide +kernel
theorem dX12_noBox_6 : decode cX12_noBox 6 = .ok (.ifCond .ne 7, 3) := by decide +kernel
theorem dX12_noBox_9 : decode cX12_noBox 9 = .ok (.iconst 1, 1) := by decide +kernel
theorem dX12_noBox_10 : decode cX12_noBox 10 = .ok (.goto 4, 3) := by decide +kernel
theorem dX12_noBox_13 : decode cX12_noBox 13 = .ok (.iconst 0, 1) := by decide +kernel
theorem dX12_noBox_14 : decode cX12_noBox 14 = .ok (.ireturn, 1) := by decide +kernel
theorem dX12_noPlace_0 : decode cX12_noPlace 0 = .ok (.iload_n 0, 1) := by decide +kernel
theorem dX12_noPlace_1 : decode cX12_noPlace 1 = .ok (.invokestatic 102, 3) := by decide +kernel
theorem dX12_noPlace_4 : decode cX12_noPlace 4 = .ok (.ifCond .ne 12, 3) := by decide +kernel
theorem dX12_noPlace_7 : decode cX12_noPlace 7 = .ok (.iload_n 1, 1) := by decide +kernel
theorem dX12_noPlace_8 : decode cX12_noPlace 8 = .ok (.iconst 0, 1) := by decide +kernel
theorem dX12_noPlace_9 : decode cX12_noPlace 9 = .ok (.iconst 3, 1) := by decide +kernel
theorem dX12_noPlace_10 : decode cX12_noPlace 10 = .ok (.invokestatic 94, 3) := by decide +kernel
theorem dX12_noPlace_13 : decode cX12_noPlace 13 = .ok (.ifCond .ne 7, 3) := by decide +kernel
theorem dX12_noPlace_16 : decode cX12_noPlace 16 = .ok (.iconst 1, 1) := by decide +kernel
theorem dX12_noPlace_17 : decode cX12_noPlace 17 = .ok (.goto 4, 3) := by decide +kernel
theorem dX12_noPlace_20 : decode cX12_noPlace 20 = .ok (.iconst 0, 1) := by decide +kernel
theorem dX12_noPlace_21 : decode cX12_noPlace 21 = .ok (.ireturn, 1) := by decide +kernel
theorem dX12_connect_0 : decode cX12_connect 0 = .ok (.iload_n 1, 1) := by decide +kernel
theorem dX12_connect_1 : decode cX12_connect 1 = .ok (.iload_n 2, 1) := by decide +kernel
theorem dX12_connect_2 : decode cX12_connect 2 = .ok (.invokestatic 106, 3) := by decide +kernel
theorem dX12_connect_5 : decode cX12_connect 5 = .ok (.ifCond .ne 12, 3) := by decide +kernel
theorem dX12_connect_8 : decode cX12_connect 8 = .ok (.iload_n 3, 1) := by decide +kernel
theorem dX12_connect_9 : decode cX12_connect 9 = .ok (.iload 4, 2) := by decide +kernel
theorem dX12_connect_11 : decode cX12_connect 11 = .ok (.invokestatic 106, 3) := by decide +kernel
theorem dX12_connect_14 : decode cX12_connect 14 = .ok (.ifCond .eq 5, 3) := by decide +kernel
theorem dX12_connect_17 : decode cX12_connect 17 = .ok (.iconst (-1), 1) := by decide +kernel
theorem dX12_connect_18 : decode cX12_connect 18 = .ok (.ireturn, 1) := by decide +kernel
theorem dX12_connect_19 : decode cX12_connect 19 = .ok (.iconst 4, 1) := by decide +kernel
theorem dX12_connect_20 : decode cX12_connect 20 = .ok (.iload_n 1, 1) := by decide +kernel
theorem dX12_connect_21 : decode cX12_connect 21 = .ok (.imul, 1) := by decide +kernel
theorem dX12_connect_22 : decode cX12_connect 22 = .ok (.iload_n 2, 1) := by decide +kernel
theorem dX12_connect_23 : decode cX12_connect 23 = .ok (.iadd, 1) := by decide +kernel
theorem dX12_connect_24 : decode cX12_connect 24 = .ok (.istore 5, 2) := by decide +kernel
theorem dX12_connect_26 : decode cX12_connect 26 = .ok (.iconst 4, 1) := by decide +kernel
theorem dX12_connect_27 : decode cX12_connect 27 = .ok (.iload_n 3, 1) := by decide +kernel
theorem dX12_connect_28 : decode cX12_connect 28 = .ok (.imul, 1) := by decide +kernel
theorem dX12_connect_29 : decode cX12_connect 29 = .ok (.iload 4, 2) := by decide +kernel
theorem dX12_connect_31 : decode cX12_connect 31 = .ok (.iadd, 1) := by decide +kernel
theorem dX12_connect_32 : decode cX12_connect 32 = .ok (.istore 6, 2) := by decide +kernel
theorem dX12_connect_34 : decode cX12_connect 34 = .ok (.iload 5, 2) := by decide +kernel
theorem dX12_connect_36 : decode cX12_connect 36 = .ok (.iload 6, 2) := by decide +kernel
theorem dX12_connect_38 : decode cX12_connect 38 = .ok (.if_icmp .eq 23, 3) := by decide +kernel
theorem dX12_connect_41 : decode cX12_connect 41 = .ok (.aload_n 0, 1) := by decide +kernel
theorem dX12_connect_42 : decode cX12_connect 42 = .ok (.getfield 7, 3) := by decide +kernel
theorem dX12_connect_45 : decode cX12_connect 45 = .ok (.iload 5, 2) := by decide +kernel
theorem dX12_connect_47 : decode cX12_connect 47 = .ok (.iaload, 1) := by decide +kernel
theorem dX12_connect_48 : decode cX12_connect 48 = .ok (.ifCond .ge 13, 3) := by decide +kernel
theorem dX12_connect_51 : decode cX12_connect 51 = .ok (.aload_n 0, 1) := by decide +kernel
theorem dX12_connect_52 : decode cX12_connect 52 = .ok (.getfield 7, 3) := by decide +kernel
theorem dX12_connect_55 : decode cX12_connect 55 = .ok (.iload 6, 2) := by decide +kernel
theorem dX12_connect_57 : decode cX12_connect 57 = .ok (.iaload, 1) := by decide +kernel
theorem dX12_connect_58 : decode cX12_connect 58 = .ok (.ifCond .lt 6, 3) := by decide +kernel
theorem dX12_connect_61 : decode cX12_connect 61 = .ok (.bipush (-4), 2) := by decide +kernel
theorem dX12_connect_63 : decode cX12_connect 63 = .ok (.ireturn, 1) := by decide +kernel
theorem dX12_connect_64 : decode cX12_connect 64 = .ok (.aload_n 0, 1) := by decide +kernel
theorem dX12_connect_65 : decode cX12_connect 65 = .ok (.getfield 7, 3) := by decide +kernel
theorem dX12_connect_68 : decode cX12_connect 68 = .ok (.iload 5, 2) := by decide +kernel
theorem dX12_connect_70 : decode cX12_connect 70 = .ok (.iload 6, 2) := by decide +kernel
theorem dX12_connect_72 : decode cX12_connect 72 = .ok (.iastore, 1) := by decide +kernel
theorem dX12_connect_73 : decode cX12_connect 73 = .ok (.aload_n 0, 1) := by decide +kernel
theorem dX12_connect_74 : decode cX12_connect 74 = .ok (.getfield 7, 3) := by decide +kernel
theorem dX12_connect_77 : decode cX12_connect 77 = .ok (.iload 6, 2) := by decide +kernel
theorem dX12_connect_79 : decode cX12_connect 79 = .ok (.iload 5, 2) := by decide +kernel
theorem dX12_connect_81 : decode cX12_connect 81 = .ok (.iastore, 1) := by decide +kernel
theorem dX12_connect_82 : decode cX12_connect 82 = .ok (.aload_n 0, 1) := by decide +kernel
theorem dX12_connect_83 : decode cX12_connect 83 = .ok (.dup, 1) := by decide +kernel
theorem dX12_connect_84 : decode cX12_connect 84 = .ok (.getfield 76, 3) := by decide +kernel
theorem dX12_connect_87 : decode cX12_connect 87 = .ok (.iconst 1, 1) := by decide +kernel
theorem dX12_connect_88 : decode cX12_connect 88 = .ok (.iadd, 1) := by decide +kernel
theorem dX12_connect_89 : decode cX12_connect 89 = .ok (.putfield 76, 3) := by decide +kernel
theorem dX12_connect_92 : decode cX12_connect 92 = .ok (.aload_n 0, 1) := by decide +kernel
theorem dX12_connect_93 : decode cX12_connect 93 = .ok (.getfield 76, 3) := by decide +kernel
theorem dX12_connect_96 : decode cX12_connect 96 = .ok (.ireturn, 1) := by decide +kernel
theorem dX12_disconnect_0 : decode cX12_disconnect 0 = .ok (.iload_n 1, 1) := by decide +kernel
theorem dX12_disconnect_1 : decode cX12_disconnect 1 = .ok (.iload_n 2, 1) := by decide +kernel
theorem dX12_disconnect_2 : decode cX12_disconnect 2 = .ok (.invokestatic 106, 3) := by decide +kernel
theorem dX12_disconnect_5 : decode cX12_disconnect 5 = .ok (.ifCond .eq 5, 3) := by decide +kernel
theorem dX12_disconnect_8 : decode cX12_disconnect 8 = .ok (.iconst (-1), 1) := by decide +kernel
theorem dX12_disconnect_9 : decode cX12_disconnect 9 = .ok (.ireturn, 1) := by decide +kernel
theorem dX12_disconnect_10 : decode cX12_disconnect 10 = .ok (.iconst 4, 1) := by decide +kernel
theorem dX12_disconnect_11 : decode cX12_disconnect 11 = .ok (.iload_n 1, 1) := by decide +kernel
theorem dX12_disconnect_12 : decode cX12_disconnect 12 = .ok (.imul, 1) := by decide +kernel
theorem dX12_disconnect_13 : decode cX12_disconnect 13 = .ok (.iload_n 2, 1) := by decide +kernel
theorem dX12_disconnect_14 : decode cX12_disconnect 14 = .ok (.iadd, 1) := by decide +kernel
theorem dX12_disconnect_15 : decode cX12_disconnect 15 = .ok (.istore_n 3, 1) := by decide +kernel
theorem dX12_disconnect_16 : decode cX12_disconnect 16 = .ok (.aload_n 0, 1) := by decide +kernel
theorem dX12_disconnect_17 : decode cX12_disconnect 17 = .ok (.getfield 7, 3) := by decide +kernel
theorem dX12_disconnect_20 : decode cX12_disconnect 20 = .ok (.iload_n 3, 1) := by decide +kernel
theorem dX12_disconnect_21 : decode cX12_disconnect 21 = .ok (.iaload, 1) := by decide +kernel
theorem dX12_disconnect_22 : decode cX12_disconnect 22 = .ok (.ifCond .ge 6, 3) := by decide +kernel
theorem dX12_disconnect_25 : decode cX12_disconnect 25 = .ok (.bipush (-6), 2) := by decide +kernel
theorem dX12_disconnect_27 : decode cX12_disconnect 27 = .ok (.ireturn, 1) := by decide +kernel
theorem dX12_disconnect_28 : decode cX12_disconnect 28 = .ok (.aload_n 0, 1) := by decide +kernel
theorem dX12_disconnect_29 : decode cX12_disconnect 29 = .ok (.getfield 7, 3) := by decide +kernel
theorem dX12_disconnect_32 : decode cX12_disconnect 32 = .ok (.aload_n 0, 1) := by decide +kernel
theorem dX12_disconnect_33 : decode cX12_disconnect 33 = .ok (.getfield 7, 3) := by decide +kernel
theorem dX12_disconnect_36 : decode cX12_disconnect 36 = .ok (.iload_n 3, 1) := by decide +kernel
theorem dX12_disconnect_37 : decode cX12_disconnect 37 = .ok (.iaload, 1) := by decide +kernel
theorem dX12_disconnect_38 : decode cX12_disconnect 38 = .ok (.iconst (-1), 1) := by decide +kernel
theorem dX12_disconnect_39 : decode cX12_disconnect 39 = .ok (.iastore, 1) := by decide +kernel
theorem dX12_disconnect_40 : decode cX12_disconnect 40 = .ok (.aload_n 0, 1) := by decide +kernel
theorem dX12_disconnect_41 : decode cX12_disconnect 41 = .ok (.getfield 7, 3) := by decide +kernel
theorem dX12_disconnect_44 : decode cX12_disconnect 44 = .ok (.iload_n 3, 1) := by decide +kernel
theorem dX12_disconnect_45 : decode cX12_disconnect 45 = .ok (.iconst (-1), 1) := by decide +kernel
theorem dX12_disconnect_46 : decode cX12_disconnect 46 = .ok (.iastore, 1) := by decide +kernel
theorem dX12_disconnect_47 : decode cX12_disconnect 47 = .ok (.aload_n 0, 1) := by decide +kernel
theorem dX12_disconnect_48 : decode cX12_disconnect 48 = .ok (.dup, 1) := by decide +kernel
theorem dX12_disconnect_49 : decode cX12_disconnect 49 = .ok (.getfield 76, 3) := by decide +kernel
theorem dX12_disconnect_52 : decode cX12_disconnect 52 = .ok (.iconst 1, 1) := by decide +kernel
theorem dX12_disconnect_53 : decode cX12_disconnect 53 = .ok (.isub, 1) := by decide +kernel
theorem dX12_disconnect_54 : decode cX12_disconnect 54 = .ok (.putfield 76, 3) := by decide +kernel
theorem dX12_disconnect_57 : decode cX12_disconnect 57 = .ok (.aload_n 0, 1) := by decide +kernel
theorem dX12_disconnect_58 : decode cX12_disconnect 58 = .ok (.getfield 76, 3) := by decide +kernel
theorem dX12_disconnect_61 : decode cX12_disconnect 61 = .ok (.ireturn, 1) := by decide +kernel
theorem dX12_other_0 : decode cX12_other 0 = .ok (.iload_n 1, 1) := by decide +kernel
theorem dX12_other_1 : decode cX12_other 1 = .ok (.iload_n 2, 1) := by decide +kernel
theorem dX12_other_2 : decode cX12_other 2 = .ok (.invokestatic 106, 3) := by decide +kernel
theorem dX12_other_5 : decode cX12_other 5 = .ok (.ifCond .eq 5, 3) := by decide +kernel
theorem dX12_other_8 : decode cX12_other 8 = .ok (.iconst (-1), 1) := by decide +kernel
theorem dX12_other_9 : decode cX12_other 9 = .ok (.ireturn, 1) := by decide +kernel
theorem dX12_other_10 : decode cX12_other 10 = .ok (.aload_n 0, 1) := by decide +kernel
theorem dX12_other_11 : decode cX12_other 11 = .ok (.getfield 7, 3) := by decide +kernel
theorem dX12_other_14 : decode cX12_other 14 = .ok (.iconst 4, 1) := by decide +kernel
theorem dX12_other_15 : decode cX12_other 15 = .ok (.iload_n 1, 1) := by decide +kernel
theorem dX12_other_16 : decode cX12_other 16 = .ok (.imul, 1) := by decide +kernel
theorem dX12_other_17 : decode cX12_other 17 = .ok (.iload_n 2, 1) := by decide +kernel
theorem dX12_other_18 : decode cX12_other 18 = .ok (.iadd, 1) := by decide +kernel
theorem dX12_other_19 : decode cX12_other 19 = .ok (.iaload, 1) := by decide +kernel
theorem dX12_other_20 : decode cX12_other 20 = .ok (.istore_n 3, 1) := by decide +kernel
theorem dX12_other_21 : decode cX12_other 21 = .ok (.iload_n 3, 1) := by decide +kernel
theorem dX12_other_22 : decode cX12_other 22 = .ok (.ifCond .ge 8, 3) := by decide +kernel
theorem dX12_other_25 : decode cX12_other 25 = .ok (.bipush (-6), 2) := by decide +kernel
theorem dX12_other_27 : decode cX12_other 27 = .ok (.goto 13, 3) := by decide +kernel
theorem dX12_other_30 : decode cX12_other 30 = .ok (.bipush 10, 2) := by decide +kernel
theorem dX12_other_32 : decode cX12_other 32 = .ok (.iload_n 3, 1) := by decide +kernel
theorem dX12_other_33 : decode cX12_other 33 = .ok (.iconst 4, 1) := by decide +kernel
theorem dX12_other_34 : decode cX12_other 34 = .ok (.idiv, 1) := by decide +kernel
theorem dX12_other_35 : decode cX12_other 35 = .ok (.imul, 1) := by decide +kernel
theorem dX12_other_36 : decode cX12_other 36 = .ok (.iload_n 3, 1) := by decide +kernel
theorem dX12_other_37 : decode cX12_other 37 = .ok (.iconst 4, 1) := by decide +kernel
theorem dX12_other_38 : decode cX12_other 38 = .ok (.irem, 1) := by decide +kernel
theorem dX12_other_39 : decode cX12_other 39 = .ok (.iadd, 1) := by decide +kernel
theorem dX12_other_40 : decode cX12_other 40 = .ok (.ireturn, 1) := by decide +kernel
theorem dX12_many_0 : decode cX12_many 0 = .ok (.aload_n 0, 1) := by decide +kernel
theorem dX12_many_1 : decode cX12_many 1 = .ok (.getfield 13, 3) := by decide +kernel
theorem dX12_many_4 : decode cX12_many 4 = .ok (.sipush 252, 3) := by decide +kernel
theorem dX12_many_7 : decode cX12_many 7 = .ok (.iload_n 1, 1) := by decide +kernel
theorem dX12_many_8 : decode cX12_many 8 = .ok (.iadd, 1) := by decide +kernel
theorem dX12_many_9 : decode cX12_many 9 = .ok (.iaload, 1) := by decide +kernel
theorem dX12_many_10 : decode cX12_many 10 = .ok (.ireturn, 1) := by decide +kernel
theorem dX12_of_0 : decode cX12_of 0 = .ok (.aload_n 0, 1) := by decide +kernel
theorem dX12_of_1 : decode cX12_of 1 = .ok (.getfield 13, 3) := by decide +kernel
theorem dX12_of_4 : decode cX12_of 4 = .ok (.bipush 7, 2) := by decide +kernel
theorem dX12_of_6 : decode cX12_of 6 = .ok (.bipush 6, 2) := by decide +kernel
theorem dX12_of_8 : decode cX12_of 8 = .ok (.iload_n 1, 1) := by decide +kernel
theorem dX12_of_9 : decode cX12_of 9 = .ok (.imul, 1) := by decide +kernel
theorem dX12_of_10 : decode cX12_of 10 = .ok (.iload_n 2, 1) := by decide +kernel
theorem dX12_of_11 : decode cX12_of 11 = .ok (.iadd, 1) := by decide +kernel
theorem dX12_of_12 : decode cX12_of 12 = .ok (.imul, 1) := by decide +kernel
theorem dX12_of_13 : decode cX12_of 13 = .ok (.iload_n 3, 1) := by decide +kernel
theorem dX12_of_14 : decode cX12_of 14 = .ok (.iadd, 1) := by decide +kernel
theorem dX12_of_15 : decode cX12_of 15 = .ok (.iaload, 1) := by decide +kernel
theorem dX12_of_16 : decode cX12_of 16 = .ok (.ireturn, 1) := by decide +kernel
theorem dX12_put_0 : decode cX12_put 0 = .ok (.aload_n 0, 1) := by decide +kernel
theorem dX12_put_1 : decode cX12_put 1 = .ok (.getfield 13, 3) := by decide +kernel
theorem dX12_put_4 : decode cX12_put 4 = .ok (.bipush 7, 2) := by decide +kernel
theorem dX12_put_6 : decode cX12_put 6 = .ok (.bipush 6, 2) := by decide +kernel
theorem dX12_put_8 : decode cX12_put 8 = .ok (.iload_n 1, 1) := by decide +kernel
theorem dX12_put_9 : decode cX12_put 9 = .ok (.imul, 1) := by decide +kernel
theorem dX12_put_10 : decode cX12_put 10 = .ok (.iload_n 2, 1) := by decide +kernel
theorem dX12_put_11 : decode cX12_put 11 = .ok (.iadd, 1) := by decide +kernel
theorem dX12_put_12 : decode cX12_put 12 = .ok (.imul, 1) := by decide +kernel
theorem dX12_put_13 : decode cX12_put 13 = .ok (.iload_n 3, 1) := by decide +kernel
theorem dX12_put_14 : decode cX12_put 14 = .ok (.iadd, 1) := by decide +kernel
theorem dX12_put_15 : decode cX12_put 15 = .ok (.iload 4, 2) := by decide +kernel
theorem dX12_put_17 : decode cX12_put 17 = .ok (.iastore, 1) := by decide +kernel
theorem dX12_put_18 : decode cX12_put 18 = .ok (.return_, 1) := by decide +kernel
theorem dX12_noRule_0 : decode cX12_noRule 0 = .ok (.iload_n 2, 1) := by decide +kernel
theorem dX12_noRule_1 : decode cX12_noRule 1 = .ok (.iconst 0, 1) := by decide +kernel
theorem dX12_noRule_2 : decode cX12_noRule 2 = .ok (.aload_n 0, 1) := by decide +kernel
theorem dX12_noRule_3 : decode cX12_noRule 3 = .ok (.iload_n 1, 1) := by decide +kernel
theorem dX12_noRule_4 : decode cX12_noRule 4 = .ok (.invokevirtual 110, 3) := by decide +kernel
theorem dX12_noRule_7 : decode cX12_noRule 7 = .ok (.iconst 1, 1) := by decide +kernel
theorem dX12_noRule_8 : decode cX12_noRule 8 = .ok (.isub, 1) := by decide +kernel
theorem dX12_noRule_9 : decode cX12_noRule 9 = .ok (.invokestatic 94, 3) := by decide +kernel
theorem dX12_noRule_12 : decode cX12_noRule 12 = .ok (.ifCond .ne 7, 3) := by decide +kernel
theorem dX12_noRule_15 : decode cX12_noRule 15 = .ok (.iconst 1, 1) := by decide +kernel
theorem dX12_noRule_16 : decode cX12_noRule 16 = .ok (.goto 4, 3) := by decide +kernel
theorem dX12_noRule_19 : decode cX12_noRule 19 = .ok (.iconst 0, 1) := by decide +kernel
theorem dX12_noRule_20 : decode cX12_noRule 20 = .ok (.ireturn, 1) := by decide +kernel
theorem dX12_keep_0 : decode cX12_keep 0 = .ok (.aload_n 0, 1) := by decide +kernel
theorem dX12_keep_1 : decode cX12_keep 1 = .ok (.getfield 91, 3) := by decide +kernel
theorem dX12_keep_4 : decode cX12_keep 4 = .ok (.bipush 12, 2) := by decide +kernel
theorem dX12_keep_6 : decode cX12_keep 6 = .ok (.if_icmp .ne 49, 3) := by decide +kernel
theorem dX12_keep_9 : decode cX12_keep 9 = .ok (.aload_n 0, 1) := by decide +kernel
theorem dX12_keep_10 : decode cX12_keep 10 = .ok (.dup, 1) := by decide +kernel
theorem dX12_keep_11 : decode cX12_keep 11 = .ok (.getfield 91, 3) := by decide +kernel
theorem dX12_keep_14 : decode cX12_keep 14 = .ok (.iconst 1, 1) := by decide +kernel
theorem dX12_keep_15 : decode cX12_keep 15 = .ok (.isub, 1) := by decide +kernel
theorem dX12_keep_16 : decode cX12_keep 16 = .ok (.putfield 91, 3) := by decide +kernel
theorem dX12_keep_19 : decode cX12_keep 19 = .ok (.iconst 0, 1) := by decide +kernel
theorem dX12_keep_20 : decode cX12_keep 20 = .ok (.istore_n 1, 1) := by decide +kernel
theorem dX12_keep_21 : decode cX12_keep 21 = .ok (.iload_n 1, 1) := by decide +kernel
theorem dX12_keep_22 : decode cX12_keep 22 = .ok (.sipush 258, 3) := by decide +kernel
theorem dX12_keep_25 : decode cX12_keep 25 = .ok (.aload_n 0, 1) := by decide +kernel
theorem dX12_keep_26 : decode cX12_keep 26 = .ok (.getfield 91, 3) := by decide +kernel
theorem dX12_keep_29 : decode cX12_keep 29 = .ok (.imul, 1) := by decide +kernel
theorem dX12_keep_30 : decode cX12_keep 30 = .ok (.if_icmp .ge 25, 3) := by decide +kernel
theorem dX12_keep_33 : decode cX12_keep 33 = .ok (.aload_n 0, 1) := by decide +kernel
theorem dX12_keep_34 : decode cX12_keep 34 = .ok (.getfield 16, 3) := by decide +kernel
theorem dX12_keep_37 : decode cX12_keep 37 = .ok (.iload_n 1, 1) := by decide +kernel
theorem dX12_keep_38 : decode cX12_keep 38 = .ok (.aload_n 0, 1) := by decide +kernel
theorem dX12_keep_39 : decode cX12_keep 39 = .ok (.getfield 16, 3) := by decide +kernel
theorem dX12_keep_42 : decode cX12_keep 42 = .ok (.iload_n 1, 1) := by decide +kernel
theorem dX12_keep_43 : decode cX12_keep 43 = .ok (.sipush 258, 3) := by decide +kernel
theorem dX12_keep_46 : decode cX12_keep 46 = .ok (.iadd, 1) := by decide +kernel
theorem dX12_keep_47 : decode cX12_keep 47 = .ok (.iaload, 1) := by decide +kernel
theorem dX12_keep_48 : decode cX12_keep 48 = .ok (.iastore, 1) := by decide +kernel
theorem dX12_keep_49 : decode cX12_keep 49 = .ok (.iinc 1 1, 3) := by decide +kernel
theorem dX12_keep_52 : decode cX12_keep 52 = .ok (.goto (-31), 3) := by decide +kernel
theorem dX12_keep_55 : decode cX12_keep 55 = .ok (.iconst 0, 1) := by decide +kernel
theorem dX12_keep_56 : decode cX12_keep 56 = .ok (.istore_n 1, 1) := by decide +kernel
theorem dX12_keep_57 : decode cX12_keep 57 = .ok (.iload_n 1, 1) := by decide +kernel
theorem dX12_keep_58 : decode cX12_keep 58 = .ok (.sipush 258, 3) := by decide +kernel
theorem dX12_keep_61 : decode cX12_keep 61 = .ok (.if_icmp .ge 30, 3) := by decide +kernel
theorem dX12_keep_64 : decode cX12_keep 64 = .ok (.aload_n 0, 1) := by decide +kernel
theorem dX12_keep_65 : decode cX12_keep 65 = .ok (.getfield 16, 3) := by decide +kernel
theorem dX12_keep_68 : decode cX12_keep 68 = .ok (.sipush 258, 3) := by decide +kernel
theorem dX12_keep_71 : decode cX12_keep 71 = .ok (.aload_n 0, 1) := by decide +kernel
theorem dX12_keep_72 : decode cX12_keep 72 = .ok (.getfield 91, 3) := by decide +kernel
theorem dX12_keep_75 : decode cX12_keep 75 = .ok (.imul, 1) := by decide +kernel
theorem dX12_keep_76 : decode cX12_keep 76 = .ok (.iload_n 1, 1) := by decide +kernel
theorem dX12_keep_77 : decode cX12_keep 77 = .ok (.iadd, 1) := by decide +kernel
theorem dX12_keep_78 : decode cX12_keep 78 = .ok (.aload_n 0, 1) := by decide +kernel
theorem dX12_keep_79 : decode cX12_keep 79 = .ok (.getfield 13, 3) := by decide +kernel
theorem dX12_keep_82 : decode cX12_keep 82 = .ok (.iload_n 1, 1) := by decide +kernel
theorem dX12_keep_83 : decode cX12_keep 83 = .ok (.iaload, 1) := by decide +kernel
theorem dX12_keep_84 : decode cX12_keep 84 = .ok (.iastore, 1) := by decide +kernel
theorem dX12_keep_85 : decode cX12_keep 85 = .ok (.iinc 1 1, 3) := by decide +kernel
theorem dX12_keep_88 : decode cX12_keep 88 = .ok (.goto (-31), 3) := by decide +kernel
theorem dX12_keep_91 : decode cX12_keep 91 = .ok (.aload_n 0, 1) := by decide +kernel
theorem dX12_keep_92 : decode cX12_keep 92 = .ok (.dup, 1) := by decide +kernel
theorem dX12_keep_93 : decode cX12_keep 93 = .ok (.getfield 91, 3) := by decide +kernel
theorem dX12_keep_96 : decode cX12_keep 96 = .ok (.iconst 1, 1) := by decide +kernel
theorem dX12_keep_97 : decode cX12_keep 97 = .ok (.iadd, 1) := by decide +kernel
theorem dX12_keep_98 : decode cX12_keep 98 = .ok (.putfield 91, 3) := by decide +kernel
theorem dX12_keep_101 : decode cX12_keep 101 = .ok (.return_, 1) := by decide +kernel
theorem dX12_undo_0 : decode cX12_undo 0 = .ok (.aload_n 0, 1) := by decide +kernel
theorem dX12_undo_1 : decode cX12_undo 1 = .ok (.getfield 91, 3) := by decide +kernel
theorem dX12_undo_4 : decode cX12_undo 4 = .ok (.ifCond .ne 6, 3) := by decide +kernel
theorem dX12_undo_7 : decode cX12_undo 7 = .ok (.bipush (-6), 2) := by decide +kernel
theorem dX12_undo_9 : decode cX12_undo 9 = .ok (.ireturn, 1) := by decide +kernel
theorem dX12_undo_10 : decode cX12_undo 10 = .ok (.aload_n 0, 1) := by decide +kernel
theorem dX12_undo_11 : decode cX12_undo 11 = .ok (.dup, 1) := by decide +kernel
theorem dX12_undo_12 : decode cX12_undo 12 = .ok (.getfield 91, 3) := by decide +kernel
theorem dX12_undo_15 : decode cX12_undo 15 = .ok (.iconst 1, 1) := by decide +kernel
theorem dX12_undo_16 : decode cX12_undo 16 = .ok (.isub, 1) := by decide +kernel
theorem dX12_undo_17 : decode cX12_undo 17 = .ok (.putfield 91, 3) := by decide +kernel
theorem dX12_undo_20 : decode cX12_undo 20 = .ok (.iconst 0, 1) := by decide +kernel
theorem dX12_undo_21 : decode cX12_undo 21 = .ok (.istore_n 1, 1) := by decide +kernel
theorem dX12_undo_22 : decode cX12_undo 22 = .ok (.iload_n 1, 1) := by decide +kernel
theorem dX12_undo_23 : decode cX12_undo 23 = .ok (.sipush 258, 3) := by decide +kernel
theorem dX12_undo_26 : decode cX12_undo 26 = .ok (.if_icmp .ge 30, 3) := by decide +kernel
theorem dX12_undo_29 : decode cX12_undo 29 = .ok (.aload_n 0, 1) := by decide +kernel
theorem dX12_undo_30 : decode cX12_undo 30 = .ok (.getfield 13, 3) := by decide +kernel
theorem dX12_undo_33 : decode cX12_undo 33 = .ok (.iload_n 1, 1) := by decide +kernel
theorem dX12_undo_34 : decode cX12_undo 34 = .ok (.aload_n 0, 1) := by decide +kernel
theorem dX12_undo_35 : decode cX12_undo 35 = .ok (.getfield 16, 3) := by decide +kernel
theorem dX12_undo_38 : decode cX12_undo 38 = .ok (.sipush 258, 3) := by decide +kernel
theorem dX12_undo_41 : decode cX12_undo 41 = .ok (.aload_n 0, 1) := by decide +kernel
theorem dX12_undo_42 : decode cX12_undo 42 = .ok (.getfield 91, 3) := by decide +kernel
theorem dX12_undo_45 : decode cX12_undo 45 = .ok (.imul, 1) := by decide +kernel
theorem dX12_undo_46 : decode cX12_undo 46 = .ok (.iload_n 1, 1) := by decide +kernel
theorem dX12_undo_47 : decode cX12_undo 47 = .ok (.iadd, 1) := by decide +kernel
theorem dX12_undo_48 : decode cX12_undo 48 = .ok (.iaload, 1) := by decide +kernel
theorem dX12_undo_49 : decode cX12_undo 49 = .ok (.iastore, 1) := by decide +kernel
theorem dX12_undo_50 : decode cX12_undo 50 = .ok (.iinc 1 1, 3) := by decide +kernel
theorem dX12_undo_53 : decode cX12_undo 53 = .ok (.goto (-31), 3) := by decide +kernel
theorem dX12_undo_56 : decode cX12_undo 56 = .ok (.aload_n 0, 1) := by decide +kernel
theorem dX12_undo_57 : decode cX12_undo 57 = .ok (.getfield 91, 3) := by decide +kernel
theorem dX12_undo_60 : decode cX12_undo 60 = .ok (.ireturn, 1) := by decide +kernel
theorem dX12_open_0 : decode cX12_open 0 = .ok (.aload_n 0, 1) := by decide +kernel
theorem dX12_open_1 : decode cX12_open 1 = .ok (.iload_n 1, 1) := by decide +kernel
theorem dX12_open_2 : decode cX12_open 2 = .ok (.invokevirtual 110, 3) := by decide +kernel
theorem dX12_open_5 : decode cX12_open 5 = .ok (.istore_n 3, 1) := by decide +kernel
theorem dX12_open_6 : decode cX12_open 6 = .ok (.iload_n 3, 1) := by decide +kernel
theorem dX12_open_7 : decode cX12_open 7 = .ok (.iload_n 2, 1) := by decide +kernel
theorem dX12_open_8 : decode cX12_open 8 = .ok (.if_icmp .le 43, 3) := by decide +kernel
theorem dX12_open_11 : decode cX12_open 11 = .ok (.iconst 0, 1) := by decide +kernel
theorem dX12_open_12 : decode cX12_open 12 = .ok (.istore 4, 2) := by decide +kernel
theorem dX12_open_14 : decode cX12_open 14 = .ok (.iload 4, 2) := by decide +kernel
theorem dX12_open_16 : decode cX12_open 16 = .ok (.bipush 7, 2) := by decide +kernel
theorem dX12_open_18 : decode cX12_open 18 = .ok (.if_icmp .ge 27, 3) := by decide +kernel
theorem dX12_open_21 : decode cX12_open 21 = .ok (.aload_n 0, 1) := by decide +kernel
theorem dX12_open_22 : decode cX12_open 22 = .ok (.iload_n 1, 1) := by decide +kernel
theorem dX12_open_23 : decode cX12_open 23 = .ok (.iload_n 3, 1) := by decide +kernel
theorem dX12_open_24 : decode cX12_open 24 = .ok (.iload 4, 2) := by decide +kernel
theorem dX12_open_26 : decode cX12_open 26 = .ok (.aload_n 0, 1) := by decide +kernel
theorem dX12_open_27 : decode cX12_open 27 = .ok (.iload_n 1, 1) := by decide +kernel
theorem dX12_open_28 : decode cX12_open 28 = .ok (.iload_n 3, 1) := by decide +kernel
theorem dX12_open_29 : decode cX12_open 29 = .ok (.iconst 1, 1) := by decide +kernel
theorem dX12_open_30 : decode cX12_open 30 = .ok (.isub, 1) := by decide +kernel
theorem dX12_open_31 : decode cX12_open 31 = .ok (.iload 4, 2) := by decide +kernel
theorem dX12_open_33 : decode cX12_open 33 = .ok (.invokevirtual 114, 3) := by decide +kernel
theorem dX12_open_36 : decode cX12_open 36 = .ok (.invokevirtual 118, 3) := by decide +kernel
theorem dX12_open_39 : decode cX12_open 39 = .ok (.iinc 4 1, 3) := by decide +kernel
theorem dX12_open_42 : decode cX12_open 42 = .ok (.goto (-28), 3) := by decide +kernel
theorem dX12_open_45 : decode cX12_open 45 = .ok (.iinc 3 (-1), 3) := by decide +kernel
theorem dX12_open_48 : decode cX12_open 48 = .ok (.goto (-42), 3) := by decide +kernel
theorem dX12_open_51 : decode cX12_open 51 = .ok (.aload_n 0, 1) := by decide +kernel
theorem dX12_open_52 : decode cX12_open 52 = .ok (.getfield 13, 3) := by decide +kernel
theorem dX12_open_55 : decode cX12_open 55 = .ok (.sipush 252, 3) := by decide +kernel
theorem dX12_open_58 : decode cX12_open 58 = .ok (.iload_n 1, 1) := by decide +kernel
theorem dX12_open_59 : decode cX12_open 59 = .ok (.iadd, 1) := by decide +kernel
theorem dX12_open_60 : decode cX12_open 60 = .ok (.dup2, 1) := by decide +kernel
theorem dX12_open_61 : decode cX12_open 61 = .ok (.iaload, 1) := by decide +kernel
theorem dX12_open_62 : decode cX12_open 62 = .ok (.iconst 1, 1) := by decide +kernel
theorem dX12_open_63 : decode cX12_open 63 = .ok (.iadd, 1) := by decide +kernel
theorem dX12_open_64 : decode cX12_open 64 = .ok (.iastore, 1) := by decide +kernel
theorem dX12_open_65 : decode cX12_open 65 = .ok (.return_, 1) := by decide +kernel
theorem dX12_close_0 : decode cX12_close 0 = .ok (.aload_n 0, 1) := by decide +kernel
theorem dX12_close_1 : decode cX12_close 1 = .ok (.getfield 13, 3) := by decide +kernel
theorem dX12_close_4 : decode cX12_close 4 = .ok (.sipush 252, 3) := by decide +kernel
theorem dX12_close_7 : decode cX12_close 7 = .ok (.iload_n 1, 1) := by decide +kernel
theorem dX12_close_8 : decode cX12_close 8 = .ok (.iadd, 1) := by decide +kernel
theorem dX12_close_9 : decode cX12_close 9 = .ok (.dup2, 1) := by decide +kernel
theorem dX12_close_10 : decode cX12_close 10 = .ok (.iaload, 1) := by decide +kernel
theorem dX12_close_11 : decode cX12_close 11 = .ok (.iconst 1, 1) := by decide +kernel
theorem dX12_close_12 : decode cX12_close 12 = .ok (.isub, 1) := by decide +kernel
theorem dX12_close_13 : decode cX12_close 13 = .ok (.iastore, 1) := by decide +kernel
theorem dX12_close_14 : decode cX12_close 14 = .ok (.iload_n 2, 1) := by decide +kernel
theorem dX12_close_15 : decode cX12_close 15 = .ok (.istore_n 3, 1) := by decide +kernel
theorem dX12_close_16 : decode cX12_close 16 = .ok (.iload_n 3, 1) := by decide +kernel
theorem dX12_close_17 : decode cX12_close 17 = .ok (.aload_n 0, 1) := by decide +kernel
theorem dX12_close_18 : decode cX12_close 18 = .ok (.iload_n 1, 1) := by decide +kernel
theorem dX12_close_19 : decode cX12_close 19 = .ok (.invokevirtual 110, 3) := by decide +kernel
theorem dX12_close_22 : decode cX12_close 22 = .ok (.if_icmp .ge 43, 3) := by decide +kernel
theorem dX12_close_25 : decode cX12_close 25 = .ok (.iconst 0, 1) := by decide +kernel
theorem dX12_close_26 : decode cX12_close 26 = .ok (.istore 4, 2) := by decide +kernel
theorem dX12_close_28 : decode cX12_close 28 = .ok (.iload 4, 2) := by decide +kernel
theorem dX12_close_30 : decode cX12_close 30 = .ok (.bipush 7, 2) := by decide +kernel
theorem dX12_close_32 : decode cX12_close 32 = .ok (.if_icmp .ge 27, 3) := by decide +kernel
theorem dX12_close_35 : decode cX12_close 35 = .ok (.aload_n 0, 1) := by decide +kernel
theorem dX12_close_36 : decode cX12_close 36 = .ok (.iload_n 1, 1) := by decide +kernel
theorem dX12_close_37 : decode cX12_close 37 = .ok (.iload_n 3, 1) := by decide +kernel
theorem dX12_close_38 : decode cX12_close 38 = .ok (.iload 4, 2) := by decide +kernel
theorem dX12_close_40 : decode cX12_close 40 = .ok (.aload_n 0, 1) := by decide +kernel
theorem dX12_close_41 : decode cX12_close 41 = .ok (.iload_n 1, 1) := by decide +kernel
theorem dX12_close_42 : decode cX12_close 42 = .ok (.iload_n 3, 1) := by decide +kernel
theorem dX12_close_43 : decode cX12_close 43 = .ok (.iconst 1, 1) := by decide +kernel
theorem dX12_close_44 : decode cX12_close 44 = .ok (.iadd, 1) := by decide +kernel
theorem dX12_close_45 : decode cX12_close 45 = .ok (.iload 4, 2) := by decide +kernel
theorem dX12_close_47 : decode cX12_close 47 = .ok (.invokevirtual 114, 3) := by decide +kernel
theorem dX12_close_50 : decode cX12_close 50 = .ok (.invokevirtual 118, 3) := by decide +kernel
theorem dX12_close_53 : decode cX12_close 53 = .ok (.iinc 4 1, 3) := by decide +kernel
theorem dX12_close_56 : decode cX12_close 56 = .ok (.goto (-28), 3) := by decide +kernel
theorem dX12_close_59 : decode cX12_close 59 = .ok (.iinc 3 1, 3) := by decide +kernel
theorem dX12_close_62 : decode cX12_close 62 = .ok (.goto (-46), 3) := by decide +kernel
theorem dX12_close_65 : decode cX12_close 65 = .ok (.return_, 1) := by decide +kernel
theorem dX12_insert_0 : decode cX12_insert 0 = .ok (.iload_n 1, 1) := by decide +kernel
theorem dX12_insert_1 : decode cX12_insert 1 = .ok (.invokestatic 102, 3) := by decide +kernel
theorem dX12_insert_4 : decode cX12_insert 4 = .ok (.ifCond .eq 5, 3) := by decide +kernel
theorem dX12_insert_7 : decode cX12_insert 7 = .ok (.iconst (-1), 1) := by decide +kernel
theorem dX12_insert_8 : decode cX12_insert 8 = .ok (.ireturn, 1) := by decide +kernel
theorem dX12_insert_9 : decode cX12_insert 9 = .ok (.iload_n 2, 1) := by decide +kernel
theorem dX12_insert_10 : decode cX12_insert 10 = .ok (.iconst 0, 1) := by decide +kernel
theorem dX12_insert_11 : decode cX12_insert 11 = .ok (.aload_n 0, 1) := by decide +kernel
theorem dX12_insert_12 : decode cX12_insert 12 = .ok (.iload_n 1, 1) := by decide +kernel
theorem dX12_insert_13 : decode cX12_insert 13 = .ok (.invokevirtual 110, 3) := by decide +kernel
theorem dX12_insert_16 : decode cX12_insert 16 = .ok (.invokestatic 94, 3) := by decide +kernel
theorem dX12_insert_19 : decode cX12_insert 19 = .ok (.ifCond .eq 42, 3) := by decide +kernel
theorem dX12_insert_22 : decode cX12_insert 22 = .ok (.iload_n 3, 1) := by decide +kernel
theorem dX12_insert_23 : decode cX12_insert 23 = .ok (.iconst 1, 1) := by decide +kernel
theorem dX12_insert_24 : decode cX12_insert 24 = .ok (.bipush 15, 2) := by decide +kernel
theorem dX12_insert_26 : decode cX12_insert 26 = .ok (.invokestatic 94, 3) := by decide +kernel
theorem dX12_insert_29 : decode cX12_insert 29 = .ok (.ifCond .eq 32, 3) := by decide +kernel
theorem dX12_insert_32 : decode cX12_insert 32 = .ok (.aload_n 0, 1) := by decide +kernel
theorem dX12_insert_33 : decode cX12_insert 33 = .ok (.iload 4, 2) := by decide +kernel
theorem dX12_insert_35 : decode cX12_insert 35 = .ok (.invokevirtual 122, 3) := by decide +kernel
theorem dX12_insert_38 : decode cX12_insert 38 = .ok (.ifCond .ne 23, 3) := by decide +kernel
theorem dX12_insert_41 : decode cX12_insert 41 = .ok (.aload_n 0, 1) := by decide +kernel
theorem dX12_insert_42 : decode cX12_insert 42 = .ok (.iload 5, 2) := by decide +kernel
theorem dX12_insert_44 : decode cX12_insert 44 = .ok (.invokevirtual 122, 3) := by decide +kernel
theorem dX12_insert_47 : decode cX12_insert 47 = .ok (.ifCond .ne 14, 3) := by decide +kernel
theorem dX12_insert_50 : decode cX12_insert 50 = .ok (.iload 6, 2) := by decide +kernel
theorem dX12_insert_52 : decode cX12_insert 52 = .ok (.iconst 0, 1) := by decide +kernel
theorem dX12_insert_53 : decode cX12_insert 53 = .ok (.bipush 15, 2) := by decide +kernel
theorem dX12_insert_55 : decode cX12_insert 55 = .ok (.invokestatic 94, 3) := by decide +kernel
theorem dX12_insert_58 : decode cX12_insert 58 = .ok (.ifCond .ne 6, 3) := by decide +kernel
theorem dX12_insert_61 : decode cX12_insert 61 = .ok (.bipush (-3), 2) := by decide +kernel
theorem dX12_insert_63 : decode cX12_insert 63 = .ok (.ireturn, 1) := by decide +kernel
theorem dX12_insert_64 : decode cX12_insert 64 = .ok (.aload_n 0, 1) := by decide +kernel
theorem dX12_insert_65 : decode cX12_insert 65 = .ok (.iload_n 1, 1) := by decide +kernel
theorem dX12_insert_66 : decode cX12_insert 66 = .ok (.invokevirtual 110, 3) := by decide +kernel
theorem dX12_insert_69 : decode cX12_insert 69 = .ok (.bipush 6, 2) := by decide +kernel
theorem dX12_insert_71 : decode cX12_insert 71 = .ok (.if_icmp .ne 6, 3) := by decide +kernel
theorem dX12_insert_74 : decode cX12_insert 74 = .ok (.bipush (-5), 2) := by decide +kernel
theorem dX12_insert_76 : decode cX12_insert 76 = .ok (.ireturn, 1) := by decide +kernel
theorem dX12_insert_77 : decode cX12_insert 77 = .ok (.aload_n 0, 1) := by decide +kernel
theorem dX12_insert_78 : decode cX12_insert 78 = .ok (.invokevirtual 125, 3) := by decide +kernel
theorem dX12_insert_81 : decode cX12_insert 81 = .ok (.aload_n 0, 1) := by decide +kernel
theorem dX12_insert_82 : decode cX12_insert 82 = .ok (.iload_n 1, 1) := by decide +kernel
theorem dX12_insert_83 : decode cX12_insert 83 = .ok (.iload_n 2, 1) := by decide +kernel
theorem dX12_insert_84 : decode cX12_insert 84 = .ok (.invokevirtual 128, 3) := by decide +kernel
theorem dX12_insert_87 : decode cX12_insert 87 = .ok (.aload_n 0, 1) := by decide +kernel
theorem dX12_insert_88 : decode cX12_insert 88 = .ok (.iload_n 1, 1) := by decide +kernel
theorem dX12_insert_89 : decode cX12_insert 89 = .ok (.iload_n 2, 1) := by decide +kernel
theorem dX12_insert_90 : decode cX12_insert 90 = .ok (.iconst 0, 1) := by decide +kernel
theorem dX12_insert_91 : decode cX12_insert 91 = .ok (.iload_n 3, 1) := by decide +kernel
theorem dX12_insert_92 : decode cX12_insert 92 = .ok (.invokevirtual 118, 3) := by decide +kernel
theorem dX12_insert_95 : decode cX12_insert 95 = .ok (.aload_n 0, 1) := by decide +kernel
theorem dX12_insert_96 : decode cX12_insert 96 = .ok (.iload_n 1, 1) := by decide +kernel
theorem dX12_insert_97 : decode cX12_insert 97 = .ok (.iload_n 2, 1) := by decide +kernel
theorem dX12_insert_98 : decode cX12_insert 98 = .ok (.iconst 1, 1) := by decide +kernel
theorem dX12_insert_99 : decode cX12_insert 99 = .ok (.iload 4, 2) := by decide +kernel
theorem dX12_insert_101 : decode cX12_insert 101 = .ok (.invokevirtual 118, 3) := by decide +kernel
theorem dX12_insert_104 : decode cX12_insert 104 = .ok (.aload_n 0, 1) := by decide +kernel
theorem dX12_insert_105 : decode cX12_insert 105 = .ok (.iload_n 1, 1) := by decide +kernel
theorem dX12_insert_106 : decode cX12_insert 106 = .ok (.iload_n 2, 1) := by decide +kernel
theorem dX12_insert_107 : decode cX12_insert 107 = .ok (.iconst 2, 1) := by decide +kernel
theorem dX12_insert_108 : decode cX12_insert 108 = .ok (.iload 5, 2) := by decide +kernel
theorem dX12_insert_110 : decode cX12_insert 110 = .ok (.iload 4, 2) := by decide +kernel
theorem dX12_insert_112 : decode cX12_insert 112 = .ok (.iand, 1) := by decide +kernel
theorem dX12_insert_113 : decode cX12_insert 113 = .ok (.invokevirtual 118, 3) := by decide +kernel
theorem dX12_insert_116 : decode cX12_insert 116 = .ok (.aload_n 0, 1) := by decide +kernel
theorem dX12_insert_117 : decode cX12_insert 117 = .ok (.iload_n 1, 1) := by decide +kernel
theorem dX12_insert_118 : decode cX12_insert 118 = .ok (.iload_n 2, 1) := by decide +kernel
theorem dX12_insert_119 : decode cX12_insert 119 = .ok (.iconst 3, 1) := by decide +kernel
theorem dX12_insert_120 : decode cX12_insert 120 = .ok (.iload 6, 2) := by decide +kernel
theorem dX12_insert_122 : decode cX12_insert 122 = .ok (.invokevirtual 118, 3) := by decide +kernel
theorem dX12_insert_125 : decode cX12_insert 125 = .ok (.aload_n 0, 1) := by decide +kernel
theorem dX12_insert_126 : decode cX12_insert 126 = .ok (.iload_n 1, 1) := by decide +kernel
theorem dX12_insert_127 : decode cX12_insert 127 = .ok (.iload_n 2, 1) := by decide +kernel
theorem dX12_insert_128 : decode cX12_insert 128 = .ok (.iconst 4, 1) := by decide +kernel
theorem dX12_insert_129 : decode cX12_insert 129 = .ok (.iconst 0, 1) := by decide +kernel
theorem dX12_insert_130 : decode cX12_insert 130 = .ok (.invokevirtual 118, 3) := by decide +kernel
theorem dX12_insert_133 : decode cX12_insert 133 = .ok (.aload_n 0, 1) := by decide +kernel
theorem dX12_insert_134 : decode cX12_insert 134 = .ok (.iload_n 1, 1) := by decide +kernel
theorem dX12_insert_135 : decode cX12_insert 135 = .ok (.iload_n 2, 1) := by decide +kernel
theorem dX12_insert_136 : decode cX12_insert 136 = .ok (.iconst 5, 1) := by decide +kernel
theorem dX12_insert_137 : decode cX12_insert 137 = .ok (.iconst 0, 1) := by decide +kernel
theorem dX12_insert_138 : decode cX12_insert 138 = .ok (.invokevirtual 118, 3) := by decide +kernel
theorem dX12_insert_141 : decode cX12_insert 141 = .ok (.aload_n 0, 1) := by decide +kernel
theorem dX12_insert_142 : decode cX12_insert 142 = .ok (.iload_n 1, 1) := by decide +kernel
theorem dX12_insert_143 : decode cX12_insert 143 = .ok (.iload_n 2, 1) := by decide +kernel
theorem dX12_insert_144 : decode cX12_insert 144 = .ok (.bipush 6, 2) := by decide +kernel
theorem dX12_insert_146 : decode cX12_insert 146 = .ok (.iconst 1, 1) := by decide +kernel
theorem dX12_insert_147 : decode cX12_insert 147 = .ok (.invokevirtual 118, 3) := by decide +kernel
theorem dX12_insert_150 : decode cX12_insert 150 = .ok (.aload_n 0, 1) := by decide +kernel
theorem dX12_insert_151 : decode cX12_insert 151 = .ok (.iload_n 1, 1) := by decide +kernel
theorem dX12_insert_152 : decode cX12_insert 152 = .ok (.invokevirtual 110, 3) := by decide +kernel
theorem dX12_insert_155 : decode cX12_insert 155 = .ok (.ireturn, 1) := by decide +kernel
theorem dX12_insertDrop_0 : decode cX12_insertDrop 0 = .ok (.aload_n 0, 1) := by decide +kernel
theorem dX12_insertDrop_1 : decode cX12_insertDrop 1 = .ok (.iload_n 1, 1) := by decide +kernel
theorem dX12_insertDrop_2 : decode cX12_insertDrop 2 = .ok (.iload_n 2, 1) := by decide +kernel
theorem dX12_insertDrop_3 : decode cX12_insertDrop 3 = .ok (.iload_n 3, 1) := by decide +kernel
theorem dX12_insertDrop_4 : decode cX12_insertDrop 4 = .ok (.iload 4, 2) := by decide +kernel
theorem dX12_insertDrop_6 : decode cX12_insertDrop 6 = .ok (.iload 5, 2) := by decide +kernel
theorem dX12_insertDrop_8 : decode cX12_insertDrop 8 = .ok (.iconst 0, 1) := by decide +kernel
theorem dX12_insertDrop_9 : decode cX12_insertDrop 9 = .ok (.invokevirtual 132, 3) := by decide +kernel
theorem dX12_insertDrop_12 : decode cX12_insertDrop 12 = .ok (.ireturn, 1) := by decide +kernel
theorem dX12_insertForward_0 : decode cX12_insertForward 0 = .ok (.aload_n 0, 1) := by decide +kernel
theorem dX12_insertForward_1 : decode cX12_insertForward 1 = .ok (.iload_n 1, 1) := by decide +kernel
theorem dX12_insertForward_2 : decode cX12_insertForward 2 = .ok (.iload_n 2, 1) := by decide +kernel
theorem dX12_insertForward_3 : decode cX12_insertForward 3 = .ok (.iload_n 3, 1) := by decide +kernel
theorem dX12_insertForward_4 : decode cX12_insertForward 4 = .ok (.iload 4, 2) := by decide +kernel
theorem dX12_insertForward_6 : decode cX12_insertForward 6 = .ok (.iload 5, 2) := by decide +kernel
theorem dX12_insertForward_8 : decode cX12_insertForward 8 = .ok (.iload 6, 2) := by decide +kernel
theorem dX12_insertForward_10 : decode cX12_insertForward 10 = .ok (.ifCond .ne 8, 3) := by decide +kernel
theorem dX12_insertForward_13 : decode cX12_insertForward 13 = .ok (.bipush 99, 2) := by decide +kernel
theorem dX12_insertForward_15 : decode cX12_insertForward 15 = .ok (.goto 5, 3) := by decide +kernel
theorem dX12_insertForward_18 : decode cX12_insertForward 18 = .ok (.iload 6, 2) := by decide +kernel
theorem dX12_insertForward_20 : decode cX12_insertForward 20 = .ok (.invokevirtual 132, 3) := by decide +kernel
theorem dX12_insertForward_23 : decode cX12_insertForward 23 = .ok (.ireturn, 1) := by decide +kernel
theorem dX12_ruleBarred_0 : decode cX12_ruleBarred 0 = .ok (.iload_n 1, 1) := by decide +kernel
theorem dX12_ruleBarred_1 : decode cX12_ruleBarred 1 = .ok (.invokestatic 102, 3) := by decide +kernel
theorem dX12_ruleBarred_4 : decode cX12_ruleBarred 4 = .ok (.ifCond .eq 7, 3) := by decide +kernel
theorem dX12_ruleBarred_7 : decode cX12_ruleBarred 7 = .ok (.iconst (-1), 1) := by decide +kernel
theorem dX12_ruleBarred_8 : decode cX12_ruleBarred 8 = .ok (.goto 18, 3) := by decide +kernel
theorem dX12_ruleBarred_11 : decode cX12_ruleBarred 11 = .ok (.aload_n 0, 1) := by decide +kernel
theorem dX12_ruleBarred_12 : decode cX12_ruleBarred 12 = .ok (.iload_n 1, 1) := by decide +kernel
theorem dX12_ruleBarred_13 : decode cX12_ruleBarred 13 = .ok (.iload_n 2, 1) := by decide +kernel
theorem dX12_ruleBarred_14 : decode cX12_ruleBarred 14 = .ok (.invokevirtual 136, 3) := by decide +kernel
theorem dX12_ruleBarred_17 : decode cX12_ruleBarred 17 = .ok (.ifCond .eq 8, 3) := by decide +kernel
theorem dX12_ruleBarred_20 : decode cX12_ruleBarred 20 = .ok (.bipush (-2), 2) := by decide +kernel
theorem dX12_ruleBarred_22 : decode cX12_ruleBarred 22 = .ok (.goto 4, 3) := by decide +kernel
theorem dX12_ruleBarred_25 : decode cX12_ruleBarred 25 = .ok (.iconst 0, 1) := by decide +kernel
theorem dX12_ruleBarred_26 : decode cX12_ruleBarred 26 = .ok (.ireturn, 1) := by decide +kernel
theorem dX12_setRewriting_0 : decode cX12_setRewriting 0 = .ok (.aload_n 0, 1) := by decide +kernel
theorem dX12_setRewriting_1 : decode cX12_setRewriting 1 = .ok (.iload_n 1, 1) := by decide +kernel
theorem dX12_setRewriting_2 : decode cX12_setRewriting 2 = .ok (.iload_n 2, 1) := by decide +kernel
theorem dX12_setRewriting_3 : decode cX12_setRewriting 3 = .ok (.invokevirtual 139, 3) := by decide +kernel
theorem dX12_setRewriting_6 : decode cX12_setRewriting 6 = .ok (.istore 5, 2) := by decide +kernel
theorem dX12_setRewriting_8 : decode cX12_setRewriting 8 = .ok (.iload 5, 2) := by decide +kernel
theorem dX12_setRewriting_10 : decode cX12_setRewriting 10 = .ok (.ifCond .ge 6, 3) := by decide +kernel
theorem dX12_setRewriting_13 : decode cX12_setRewriting 13 = .ok (.iload 5, 2) := by decide +kernel
theorem dX12_setRewriting_15 : decode cX12_setRewriting 15 = .ok (.ireturn, 1) := by decide +kernel
theorem dX12_setRewriting_16 : decode cX12_setRewriting 16 = .ok (.aload_n 0, 1) := by decide +kernel
theorem dX12_setRewriting_17 : decode cX12_setRewriting 17 = .ok (.iload_n 3, 1) := by decide +kernel
theorem dX12_setRewriting_18 : decode cX12_setRewriting 18 = .ok (.invokevirtual 122, 3) := by decide +kernel
theorem dX12_setRewriting_21 : decode cX12_setRewriting 21 = .ok (.ifCond .ne 12, 3) := by decide +kernel
theorem dX12_setRewriting_24 : decode cX12_setRewriting 24 = .ok (.aload_n 0, 1) := by decide +kernel
theorem dX12_setRewriting_25 : decode cX12_setRewriting 25 = .ok (.iload 4, 2) := by decide +kernel
theorem dX12_setRewriting_27 : decode cX12_setRewriting 27 = .ok (.invokevirtual 122, 3) := by decide +kernel
theorem dX12_setRewriting_30 : decode cX12_setRewriting 30 = .ok (.ifCond .eq 6, 3) := by decide +kernel
theorem dX12_setRewriting_33 : decode cX12_setRewriting 33 = .ok (.bipush (-3), 2) := by decide +kernel
theorem dX12_setRewriting_35 : decode cX12_setRewriting 35 = .ok (.ireturn, 1) := by decide +kernel
theorem dX12_setRewriting_36 : decode cX12_setRewriting 36 = .ok (.aload_n 0, 1) := by decide +kernel
theorem dX12_setRewriting_37 : decode cX12_setRewriting 37 = .ok (.iload_n 1, 1) := by decide +kernel
theorem dX12_setRewriting_38 : decode cX12_setRewriting 38 = .ok (.iload_n 2, 1) := by decide +kernel
theorem dX12_setRewriting_39 : decode cX12_setRewriting 39 = .ok (.iconst 3, 1) := by decide +kernel
theorem dX12_setRewriting_40 : decode cX12_setRewriting 40 = .ok (.invokevirtual 114, 3) := by decide +kernel
theorem dX12_setRewriting_43 : decode cX12_setRewriting 43 = .ok (.ifCond .ne 6, 3) := by decide +kernel
theorem dX12_setRewriting_46 : decode cX12_setRewriting 46 = .ok (.bipush (-4), 2) := by decide +kernel
theorem dX12_setRewriting_48 : decode cX12_setRewriting 48 = .ok (.ireturn, 1) := by decide +kernel
theorem dX12_setRewriting_49 : decode cX12_setRewriting 49 = .ok (.aload_n 0, 1) := by decide +kernel
theorem dX12_setRewriting_50 : decode cX12_setRewriting 50 = .ok (.invokevirtual 125, 3) := by decide +kernel
theorem dX12_setRewriting_53 : decode cX12_setRewriting 53 = .ok (.aload_n 0, 1) := by decide +kernel
theorem dX12_setRewriting_54 : decode cX12_setRewriting 54 = .ok (.iload_n 1, 1) := by decide +kernel
theorem dX12_setRewriting_55 : decode cX12_setRewriting 55 = .ok (.iload_n 2, 1) := by decide +kernel
theorem dX12_setRewriting_56 : decode cX12_setRewriting 56 = .ok (.iconst 4, 1) := by decide +kernel
theorem dX12_setRewriting_57 : decode cX12_setRewriting 57 = .ok (.invokevirtual 114, 3) := by decide +kernel
theorem dX12_setRewriting_60 : decode cX12_setRewriting 60 = .ok (.iload_n 3, 1) := by decide +kernel
theorem dX12_setRewriting_61 : decode cX12_setRewriting 61 = .ok (.if_icmp .ne 17, 3) := by decide +kernel
theorem dX12_setRewriting_64 : decode cX12_setRewriting 64 = .ok (.aload_n 0, 1) := by decide +kernel
theorem dX12_setRewriting_65 : decode cX12_setRewriting 65 = .ok (.iload_n 1, 1) := by decide +kernel
theorem dX12_setRewriting_66 : decode cX12_setRewriting 66 = .ok (.iload_n 2, 1) := by decide +kernel
theorem dX12_setRewriting_67 : decode cX12_setRewriting 67 = .ok (.iconst 5, 1) := by decide +kernel
theorem dX12_setRewriting_68 : decode cX12_setRewriting 68 = .ok (.invokevirtual 114, 3) := by decide +kernel
theorem dX12_setRewriting_71 : decode cX12_setRewriting 71 = .ok (.iload 4, 2) := by decide +kernel
theorem dX12_setRewriting_73 : decode cX12_setRewriting 73 = .ok (.iload_n 3, 1) := by decide +kernel
theorem dX12_setRewriting_74 : decode cX12_setRewriting 74 = .ok (.iand, 1) := by decide +kernel
theorem dX12_setRewriting_75 : decode cX12_setRewriting 75 = .ok (.if_icmp .eq 7, 3) := by decide +kernel
theorem dX12_setRewriting_78 : decode cX12_setRewriting 78 = .ok (.iconst 1, 1) := by decide +kernel
theorem dX12_setRewriting_79 : decode cX12_setRewriting 79 = .ok (.goto 4, 3) := by decide +kernel
theorem dX12_setRewriting_82 : decode cX12_setRewriting 82 = .ok (.iconst 0, 1) := by decide +kernel
theorem dX12_setRewriting_83 : decode cX12_setRewriting 83 = .ok (.istore 6, 2) := by decide +kernel
theorem dX12_setRewriting_85 : decode cX12_setRewriting 85 = .ok (.aload_n 0, 1) := by decide +kernel
theorem dX12_setRewriting_86 : decode cX12_setRewriting 86 = .ok (.iload_n 1, 1) := by decide +kernel
theorem dX12_setRewriting_87 : decode cX12_setRewriting 87 = .ok (.iload_n 2, 1) := by decide +kernel
theorem dX12_setRewriting_88 : decode cX12_setRewriting 88 = .ok (.iconst 4, 1) := by decide +kernel
theorem dX12_setRewriting_89 : decode cX12_setRewriting 89 = .ok (.iload_n 3, 1) := by decide +kernel
theorem dX12_setRewriting_90 : decode cX12_setRewriting 90 = .ok (.invokevirtual 118, 3) := by decide +kernel
theorem dX12_setRewriting_93 : decode cX12_setRewriting 93 = .ok (.aload_n 0, 1) := by decide +kernel
theorem dX12_setRewriting_94 : decode cX12_setRewriting 94 = .ok (.iload_n 1, 1) := by decide +kernel
theorem dX12_setRewriting_95 : decode cX12_setRewriting 95 = .ok (.iload_n 2, 1) := by decide +kernel
theorem dX12_setRewriting_96 : decode cX12_setRewriting 96 = .ok (.iconst 5, 1) := by decide +kernel
theorem dX12_setRewriting_97 : decode cX12_setRewriting 97 = .ok (.iload 4, 2) := by decide +kernel
theorem dX12_setRewriting_99 : decode cX12_setRewriting 99 = .ok (.iload_n 3, 1) := by decide +kernel
theorem dX12_setRewriting_100 : decode cX12_setRewriting 100 = .ok (.iand, 1) := by decide +kernel
theorem dX12_setRewriting_101 : decode cX12_setRewriting 101 = .ok (.invokevirtual 118, 3) := by decide +kernel
theorem dX12_setRewriting_104 : decode cX12_setRewriting 104 = .ok (.iload 6, 2) := by decide +kernel
theorem dX12_setRewriting_106 : decode cX12_setRewriting 106 = .ok (.ireturn, 1) := by decide +kernel
theorem dX12_removeRule_0 : decode cX12_removeRule 0 = .ok (.aload_n 0, 1) := by decide +kernel
theorem dX12_removeRule_1 : decode cX12_removeRule 1 = .ok (.iload_n 1, 1) := by decide +kernel
theorem dX12_removeRule_2 : decode cX12_removeRule 2 = .ok (.iload_n 2, 1) := by decide +kernel
theorem dX12_removeRule_3 : decode cX12_removeRule 3 = .ok (.invokevirtual 139, 3) := by decide +kernel
theorem dX12_removeRule_6 : decode cX12_removeRule 6 = .ok (.istore_n 3, 1) := by decide +kernel
theorem dX12_removeRule_7 : decode cX12_removeRule 7 = .ok (.iload_n 3, 1) := by decide +kernel
theorem dX12_removeRule_8 : decode cX12_removeRule 8 = .ok (.ifCond .ge 5, 3) := by decide +kernel
theorem dX12_removeRule_11 : decode cX12_removeRule 11 = .ok (.iload_n 3, 1) := by decide +kernel
theorem dX12_removeRule_12 : decode cX12_removeRule 12 = .ok (.ireturn, 1) := by decide +kernel
theorem dX12_removeRule_13 : decode cX12_removeRule 13 = .ok (.aload_n 0, 1) := by decide +kernel
theorem dX12_removeRule_14 : decode cX12_removeRule 14 = .ok (.invokevirtual 125, 3) := by decide +kernel
theorem dX12_removeRule_17 : decode cX12_removeRule 17 = .ok (.aload_n 0, 1) := by decide +kernel
theorem dX12_removeRule_18 : decode cX12_removeRule 18 = .ok (.iload_n 1, 1) := by decide +kernel
theorem dX12_removeRule_19 : decode cX12_removeRule 19 = .ok (.iload_n 2, 1) := by decide +kernel
theorem dX12_removeRule_20 : decode cX12_removeRule 20 = .ok (.invokevirtual 143, 3) := by decide +kernel
theorem dX12_removeRule_23 : decode cX12_removeRule 23 = .ok (.aload_n 0, 1) := by decide +kernel
theorem dX12_removeRule_24 : decode cX12_removeRule 24 = .ok (.iload_n 1, 1) := by decide +kernel
theorem dX12_removeRule_25 : decode cX12_removeRule 25 = .ok (.invokevirtual 110, 3) := by decide +kernel
theorem dX12_removeRule_28 : decode cX12_removeRule 28 = .ok (.ireturn, 1) := by decide +kernel
theorem dX12_moveRule_0 : decode cX12_moveRule 0 = .ok (.aload_n 0, 1) := by decide +kernel
theorem dX12_moveRule_1 : decode cX12_moveRule 1 = .ok (.iload_n 1, 1) := by decide +kernel
theorem dX12_moveRule_2 : decode cX12_moveRule 2 = .ok (.iload_n 2, 1) := by decide +kernel
theorem dX12_moveRule_3 : decode cX12_moveRule 3 = .ok (.invokevirtual 139, 3) := by decide +kernel
theorem dX12_moveRule_6 : decode cX12_moveRule 6 = .ok (.istore 4, 2) := by decide +kernel
theorem dX12_moveRule_8 : decode cX12_moveRule 8 = .ok (.iload 4, 2) := by decide +kernel
theorem dX12_moveRule_10 : decode cX12_moveRule 10 = .ok (.ifCond .ge 6, 3) := by decide +kernel
theorem dX12_moveRule_13 : decode cX12_moveRule 13 = .ok (.iload 4, 2) := by decide +kernel
theorem dX12_moveRule_15 : decode cX12_moveRule 15 = .ok (.ireturn, 1) := by decide +kernel
theorem dX12_moveRule_16 : decode cX12_moveRule 16 = .ok (.aload_n 0, 1) := by decide +kernel
theorem dX12_moveRule_17 : decode cX12_moveRule 17 = .ok (.iload_n 1, 1) := by decide +kernel
theorem dX12_moveRule_18 : decode cX12_moveRule 18 = .ok (.iload_n 3, 1) := by decide +kernel
theorem dX12_moveRule_19 : decode cX12_moveRule 19 = .ok (.invokevirtual 136, 3) := by decide +kernel
theorem dX12_moveRule_22 : decode cX12_moveRule 22 = .ok (.ifCond .eq 6, 3) := by decide +kernel
theorem dX12_moveRule_25 : decode cX12_moveRule 25 = .ok (.bipush (-2), 2) := by decide +kernel
theorem dX12_moveRule_27 : decode cX12_moveRule 27 = .ok (.ireturn, 1) := by decide +kernel
theorem dX12_moveRule_28 : decode cX12_moveRule 28 = .ok (.aload_n 0, 1) := by decide +kernel
theorem dX12_moveRule_29 : decode cX12_moveRule 29 = .ok (.invokevirtual 125, 3) := by decide +kernel
theorem dX12_moveRule_32 : decode cX12_moveRule 32 = .ok (.iconst 0, 1) := by decide +kernel
theorem dX12_moveRule_33 : decode cX12_moveRule 33 = .ok (.istore 5, 2) := by decide +kernel
theorem dX12_moveRule_35 : decode cX12_moveRule 35 = .ok (.iload 5, 2) := by decide +kernel
theorem dX12_moveRule_37 : decode cX12_moveRule 37 = .ok (.bipush 7, 2) := by decide +kernel
theorem dX12_moveRule_39 : decode cX12_moveRule 39 = .ok (.if_icmp .ge 24, 3) := by decide +kernel
theorem dX12_moveRule_42 : decode cX12_moveRule 42 = .ok (.aload_n 0, 1) := by decide +kernel
theorem dX12_moveRule_43 : decode cX12_moveRule 43 = .ok (.getfield 19, 3) := by decide +kernel
theorem dX12_moveRule_46 : decode cX12_moveRule 46 = .ok (.iload 5, 2) := by decide +kernel
theorem dX12_moveRule_48 : decode cX12_moveRule 48 = .ok (.aload_n 0, 1) := by decide +kernel
theorem dX12_moveRule_49 : decode cX12_moveRule 49 = .ok (.iload_n 1, 1) := by decide +kernel
theorem dX12_moveRule_50 : decode cX12_moveRule 50 = .ok (.iload_n 2, 1) := by decide +kernel
theorem dX12_moveRule_51 : decode cX12_moveRule 51 = .ok (.iload 5, 2) := by decide +kernel
theorem dX12_moveRule_53 : decode cX12_moveRule 53 = .ok (.invokevirtual 114, 3) := by decide +kernel
theorem dX12_moveRule_56 : decode cX12_moveRule 56 = .ok (.iastore, 1) := by decide +kernel
theorem dX12_moveRule_57 : decode cX12_moveRule 57 = .ok (.iinc 5 1, 3) := by decide +kernel
theorem dX12_moveRule_60 : decode cX12_moveRule 60 = .ok (.goto (-25), 3) := by decide +kernel
theorem dX12_moveRule_63 : decode cX12_moveRule 63 = .ok (.aload_n 0, 1) := by decide +kernel
theorem dX12_moveRule_64 : decode cX12_moveRule 64 = .ok (.iload_n 1, 1) := by decide +kernel
theorem dX12_moveRule_65 : decode cX12_moveRule 65 = .ok (.iload_n 2, 1) := by decide +kernel
theorem dX12_moveRule_66 : decode cX12_moveRule 66 = .ok (.invokevirtual 143, 3) := by decide +kernel
theorem dX12_moveRule_69 : decode cX12_moveRule 69 = .ok (.aload_n 0, 1) := by decide +kernel
theorem dX12_moveRule_70 : decode cX12_moveRule 70 = .ok (.iload_n 1, 1) := by decide +kernel
theorem dX12_moveRule_71 : decode cX12_moveRule 71 = .ok (.iload_n 3, 1) := by decide +kernel
theorem dX12_moveRule_72 : decode cX12_moveRule 72 = .ok (.invokevirtual 128, 3) := by decide +kernel
theorem dX12_moveRule_75 : decode cX12_moveRule 75 = .ok (.iconst 0, 1) := by decide +kernel
theorem dX12_moveRule_76 : decode cX12_moveRule 76 = .ok (.istore 5, 2) := by decide +kernel
theorem dX12_moveRule_78 : decode cX12_moveRule 78 = .ok (.iload 5, 2) := by decide +kernel
theorem dX12_moveRule_80 : decode cX12_moveRule 80 = .ok (.bipush 7, 2) := by decide +kernel
theorem dX12_moveRule_82 : decode cX12_moveRule 82 = .ok (.if_icmp .ge 24, 3) := by decide +kernel
theorem dX12_moveRule_85 : decode cX12_moveRule 85 = .ok (.aload_n 0, 1) := by decide +kernel
theorem dX12_moveRule_86 : decode cX12_moveRule 86 = .ok (.iload_n 1, 1) := by decide +kernel
theorem dX12_moveRule_87 : decode cX12_moveRule 87 = .ok (.iload_n 3, 1) := by decide +kernel
theorem dX12_moveRule_88 : decode cX12_moveRule 88 = .ok (.iload 5, 2) := by decide +kernel
theorem dX12_moveRule_90 : decode cX12_moveRule 90 = .ok (.aload_n 0, 1) := by decide +kernel
theorem dX12_moveRule_91 : decode cX12_moveRule 91 = .ok (.getfield 19, 3) := by decide +kernel
theorem dX12_moveRule_94 : decode cX12_moveRule 94 = .ok (.iload 5, 2) := by decide +kernel
theorem dX12_moveRule_96 : decode cX12_moveRule 96 = .ok (.iaload, 1) := by decide +kernel
theorem dX12_moveRule_97 : decode cX12_moveRule 97 = .ok (.invokevirtual 118, 3) := by decide +kernel
theorem dX12_moveRule_100 : decode cX12_moveRule 100 = .ok (.iinc 5 1, 3) := by decide +kernel
theorem dX12_moveRule_103 : decode cX12_moveRule 103 = .ok (.goto (-25), 3) := by decide +kernel
theorem dX12_moveRule_106 : decode cX12_moveRule 106 = .ok (.iload_n 2, 1) := by decide +kernel
theorem dX12_moveRule_107 : decode cX12_moveRule 107 = .ok (.iload_n 3, 1) := by decide +kernel
theorem dX12_moveRule_108 : decode cX12_moveRule 108 = .ok (.if_icmp .ne 7, 3) := by decide +kernel
theorem dX12_moveRule_111 : decode cX12_moveRule 111 = .ok (.iconst 0, 1) := by decide +kernel
theorem dX12_moveRule_112 : decode cX12_moveRule 112 = .ok (.goto 4, 3) := by decide +kernel
theorem dX12_moveRule_115 : decode cX12_moveRule 115 = .ok (.iconst 1, 1) := by decide +kernel
theorem dX12_moveRule_116 : decode cX12_moveRule 116 = .ok (.ireturn, 1) := by decide +kernel
theorem dX12_switchRule_0 : decode cX12_switchRule 0 = .ok (.aload_n 0, 1) := by decide +kernel
theorem dX12_switchRule_1 : decode cX12_switchRule 1 = .ok (.iload_n 1, 1) := by decide +kernel
theorem dX12_switchRule_2 : decode cX12_switchRule 2 = .ok (.iload_n 2, 1) := by decide +kernel
theorem dX12_switchRule_3 : decode cX12_switchRule 3 = .ok (.invokevirtual 139, 3) := by decide +kernel
theorem dX12_switchRule_6 : decode cX12_switchRule 6 = .ok (.istore 4, 2) := by decide +kernel
theorem dX12_switchRule_8 : decode cX12_switchRule 8 = .ok (.iload 4, 2) := by decide +kernel
theorem dX12_switchRule_10 : decode cX12_switchRule 10 = .ok (.ifCond .ge 6, 3) := by decide +kernel
theorem dX12_switchRule_13 : decode cX12_switchRule 13 = .ok (.iload 4, 2) := by decide +kernel
theorem dX12_switchRule_15 : decode cX12_switchRule 15 = .ok (.ireturn, 1) := by decide +kernel
theorem dX12_switchRule_16 : decode cX12_switchRule 16 = .ok (.aload_n 0, 1) := by decide +kernel
theorem dX12_switchRule_17 : decode cX12_switchRule 17 = .ok (.invokevirtual 125, 3) := by decide +kernel
theorem dX12_switchRule_20 : decode cX12_switchRule 20 = .ok (.iload_n 3, 1) := by decide +kernel
theorem dX12_switchRule_21 : decode cX12_switchRule 21 = .ok (.ifCond .eq 7, 3) := by decide +kernel
theorem dX12_switchRule_24 : decode cX12_switchRule 24 = .ok (.iconst 1, 1) := by decide +kernel
theorem dX12_switchRule_25 : decode cX12_switchRule 25 = .ok (.goto 4, 3) := by decide +kernel
theorem dX12_switchRule_28 : decode cX12_switchRule 28 = .ok (.iconst 0, 1) := by decide +kernel
theorem dX12_switchRule_29 : decode cX12_switchRule 29 = .ok (.istore 5, 2) := by decide +kernel
theorem dX12_switchRule_31 : decode cX12_switchRule 31 = .ok (.aload_n 0, 1) := by decide +kernel
theorem dX12_switchRule_32 : decode cX12_switchRule 32 = .ok (.iload_n 1, 1) := by decide +kernel
theorem dX12_switchRule_33 : decode cX12_switchRule 33 = .ok (.iload_n 2, 1) := by decide +kernel
theorem dX12_switchRule_34 : decode cX12_switchRule 34 = .ok (.bipush 6, 2) := by decide +kernel
theorem dX12_switchRule_36 : decode cX12_switchRule 36 = .ok (.invokevirtual 114, 3) := by decide +kernel
theorem dX12_switchRule_39 : decode cX12_switchRule 39 = .ok (.iload 5, 2) := by decide +kernel
theorem dX12_switchRule_41 : decode cX12_switchRule 41 = .ok (.if_icmp .ne 7, 3) := by decide +kernel
theorem dX12_switchRule_44 : decode cX12_switchRule 44 = .ok (.iconst 0, 1) := by decide +kernel
theorem dX12_switchRule_45 : decode cX12_switchRule 45 = .ok (.goto 4, 3) := by decide +kernel
theorem dX12_switchRule_48 : decode cX12_switchRule 48 = .ok (.iconst 1, 1) := by decide +kernel
theorem dX12_switchRule_49 : decode cX12_switchRule 49 = .ok (.istore 6, 2) := by decide +kernel
theorem dX12_switchRule_51 : decode cX12_switchRule 51 = .ok (.aload_n 0, 1) := by decide +kernel
theorem dX12_switchRule_52 : decode cX12_switchRule 52 = .ok (.iload_n 1, 1) := by decide +kernel
theorem dX12_switchRule_53 : decode cX12_switchRule 53 = .ok (.iload_n 2, 1) := by decide +kernel
theorem dX12_switchRule_54 : decode cX12_switchRule 54 = .ok (.bipush 6, 2) := by decide +kernel
theorem dX12_switchRule_56 : decode cX12_switchRule 56 = .ok (.iload 5, 2) := by decide +kernel
theorem dX12_switchRule_58 : decode cX12_switchRule 58 = .ok (.invokevirtual 118, 3) := by decide +kernel
theorem dX12_switchRule_61 : decode cX12_switchRule 61 = .ok (.iload 6, 2) := by decide +kernel
theorem dX12_switchRule_63 : decode cX12_switchRule 63 = .ok (.ireturn, 1) := by decide +kernel
theorem dX12_rule_0 : decode cX12_rule 0 = .ok (.aload_n 0, 1) := by decide +kernel
theorem dX12_rule_1 : decode cX12_rule 1 = .ok (.iload_n 1, 1) := by decide +kernel
theorem dX12_rule_2 : decode cX12_rule 2 = .ok (.iload_n 2, 1) := by decide +kernel
theorem dX12_rule_3 : decode cX12_rule 3 = .ok (.invokevirtual 139, 3) := by decide +kernel
theorem dX12_rule_6 : decode cX12_rule 6 = .ok (.istore 4, 2) := by decide +kernel
theorem dX12_rule_8 : decode cX12_rule 8 = .ok (.iload 4, 2) := by decide +kernel
theorem dX12_rule_10 : decode cX12_rule 10 = .ok (.ifCond .ge 6, 3) := by decide +kernel
theorem dX12_rule_13 : decode cX12_rule 13 = .ok (.iload 4, 2) := by decide +kernel
theorem dX12_rule_15 : decode cX12_rule 15 = .ok (.ireturn, 1) := by decide +kernel
theorem dX12_rule_16 : decode cX12_rule 16 = .ok (.iload_n 3, 1) := by decide +kernel
theorem dX12_rule_17 : decode cX12_rule 17 = .ok (.iconst 0, 1) := by decide +kernel
theorem dX12_rule_18 : decode cX12_rule 18 = .ok (.bipush 6, 2) := by decide +kernel
theorem dX12_rule_20 : decode cX12_rule 20 = .ok (.invokestatic 94, 3) := by decide +kernel
theorem dX12_rule_23 : decode cX12_rule 23 = .ok (.ifCond .eq 13, 3) := by decide +kernel
theorem dX12_rule_26 : decode cX12_rule 26 = .ok (.aload_n 0, 1) := by decide +kernel
theorem dX12_rule_27 : decode cX12_rule 27 = .ok (.iload_n 1, 1) := by decide +kernel
theorem dX12_rule_28 : decode cX12_rule 28 = .ok (.iload_n 2, 1) := by decide +kernel
theorem dX12_rule_29 : decode cX12_rule 29 = .ok (.iload_n 3, 1) := by decide +kernel
theorem dX12_rule_30 : decode cX12_rule 30 = .ok (.invokevirtual 114, 3) := by decide +kernel
theorem dX12_rule_33 : decode cX12_rule 33 = .ok (.goto 5, 3) := by decide +kernel
theorem dX12_rule_36 : decode cX12_rule 36 = .ok (.bipush (-3), 2) := by decide +kernel
theorem dX12_rule_38 : decode cX12_rule 38 = .ok (.ireturn, 1) := by decide +kernel
theorem dX12_count_0 : decode cX12_count 0 = .ok (.iconst 0, 1) := by decide +kernel
theorem dX12_count_1 : decode cX12_count 1 = .ok (.istore_n 2, 1) := by decide +kernel
theorem dX12_count_2 : decode cX12_count 2 = .ok (.iconst 0, 1) := by decide +kernel
theorem dX12_count_3 : decode cX12_count 3 = .ok (.istore_n 3, 1) := by decide +kernel
theorem dX12_count_4 : decode cX12_count 4 = .ok (.iload_n 3, 1) := by decide +kernel
theorem dX12_count_5 : decode cX12_count 5 = .ok (.bipush 6, 2) := by decide +kernel
theorem dX12_count_7 : decode cX12_count 7 = .ok (.if_icmp .ge 17, 3) := by decide +kernel
theorem dX12_count_10 : decode cX12_count 10 = .ok (.iload_n 2, 1) := by decide +kernel
theorem dX12_count_11 : decode cX12_count 11 = .ok (.aload_n 0, 1) := by decide +kernel
theorem dX12_count_12 : decode cX12_count 12 = .ok (.iload_n 3, 1) := by decide +kernel
theorem dX12_count_13 : decode cX12_count 13 = .ok (.invokevirtual 110, 3) := by decide +kernel
theorem dX12_count_16 : decode cX12_count 16 = .ok (.iadd, 1) := by decide +kernel
theorem dX12_count_17 : decode cX12_count 17 = .ok (.istore_n 2, 1) := by decide +kernel
theorem dX12_count_18 : decode cX12_count 18 = .ok (.iinc 3 1, 3) := by decide +kernel
theorem dX12_count_21 : decode cX12_count 21 = .ok (.goto (-17), 3) := by decide +kernel
theorem dX12_count_24 : decode cX12_count 24 = .ok (.iload_n 1, 1) := by decide +kernel
theorem dX12_count_25 : decode cX12_count 25 = .ok (.tableswitch 57 0 4 #[35, 40, 45, 47, 52], 35) := by decide +kernel
theorem dX12_count_60 : decode cX12_count 60 = .ok (.aload_n 0, 1) := by decide +kernel
theorem dX12_count_61 : decode cX12_count 61 = .ok (.getfield 67, 3) := by decide +kernel
theorem dX12_count_64 : decode cX12_count 64 = .ok (.ireturn, 1) := by decide +kernel
theorem dX12_count_65 : decode cX12_count 65 = .ok (.aload_n 0, 1) := by decide +kernel
theorem dX12_count_66 : decode cX12_count 66 = .ok (.getfield 76, 3) := by decide +kernel
theorem dX12_count_69 : decode cX12_count 69 = .ok (.ireturn, 1) := by decide +kernel
theorem dX12_count_70 : decode cX12_count 70 = .ok (.iload_n 2, 1) := by decide +kernel
theorem dX12_count_71 : decode cX12_count 71 = .ok (.ireturn, 1) := by decide +kernel
theorem dX12_count_72 : decode cX12_count 72 = .ok (.aload_n 0, 1) := by decide +kernel
theorem dX12_count_73 : decode cX12_count 73 = .ok (.getfield 88, 3) := by decide +kernel
theorem dX12_count_76 : decode cX12_count 76 = .ok (.ireturn, 1) := by decide +kernel
theorem dX12_count_77 : decode cX12_count 77 = .ok (.aload_n 0, 1) := by decide +kernel
theorem dX12_count_78 : decode cX12_count 78 = .ok (.getfield 91, 3) := by decide +kernel
theorem dX12_count_81 : decode cX12_count 81 = .ok (.ireturn, 1) := by decide +kernel
theorem dX12_count_82 : decode cX12_count 82 = .ok (.bipush (-3), 2) := by decide +kernel
theorem dX12_count_84 : decode cX12_count 84 = .ok (.ireturn, 1) := by decide +kernel
theorem dX12_matches_0 : decode cX12_matches 0 = .ok (.aload_n 0, 1) := by decide +kernel
theorem dX12_matches_1 : decode cX12_matches 1 = .ok (.iload_n 1, 1) := by decide +kernel
theorem dX12_matches_2 : decode cX12_matches 2 = .ok (.iload_n 2, 1) := by decide +kernel
theorem dX12_matches_3 : decode cX12_matches 3 = .ok (.bipush 6, 2) := by decide +kernel
theorem dX12_matches_5 : decode cX12_matches 5 = .ok (.invokevirtual 114, 3) := by decide +kernel
theorem dX12_matches_8 : decode cX12_matches 8 = .ok (.iconst 1, 1) := by decide +kernel
theorem dX12_matches_9 : decode cX12_matches 9 = .ok (.if_icmp .ne 42, 3) := by decide +kernel
theorem dX12_matches_12 : decode cX12_matches 12 = .ok (.aload_n 0, 1) := by decide +kernel
theorem dX12_matches_13 : decode cX12_matches 13 = .ok (.iload_n 1, 1) := by decide +kernel
theorem dX12_matches_14 : decode cX12_matches 14 = .ok (.iload_n 2, 1) := by decide +kernel
theorem dX12_matches_15 : decode cX12_matches 15 = .ok (.iconst 0, 1) := by decide +kernel
theorem dX12_matches_16 : decode cX12_matches 16 = .ok (.invokevirtual 114, 3) := by decide +kernel
theorem dX12_matches_19 : decode cX12_matches 19 = .ok (.iload_n 3, 1) := by decide +kernel
theorem dX12_matches_20 : decode cX12_matches 20 = .ok (.ishr, 1) := by decide +kernel
theorem dX12_matches_21 : decode cX12_matches 21 = .ok (.iconst 1, 1) := by decide +kernel
theorem dX12_matches_22 : decode cX12_matches 22 = .ok (.iand, 1) := by decide +kernel
theorem dX12_matches_23 : decode cX12_matches 23 = .ok (.iconst 1, 1) := by decide +kernel
theorem dX12_matches_24 : decode cX12_matches 24 = .ok (.if_icmp .ne 27, 3) := by decide +kernel
theorem dX12_matches_27 : decode cX12_matches 27 = .ok (.iload 4, 2) := by decide +kernel
theorem dX12_matches_29 : decode cX12_matches 29 = .ok (.aload_n 0, 1) := by decide +kernel
theorem dX12_matches_30 : decode cX12_matches 30 = .ok (.iload_n 1, 1) := by decide +kernel
theorem dX12_matches_31 : decode cX12_matches 31 = .ok (.iload_n 2, 1) := by decide +kernel
theorem dX12_matches_32 : decode cX12_matches 32 = .ok (.iconst 1, 1) := by decide +kernel
theorem dX12_matches_33 : decode cX12_matches 33 = .ok (.invokevirtual 114, 3) := by decide +kernel
theorem dX12_matches_36 : decode cX12_matches 36 = .ok (.iand, 1) := by decide +kernel
theorem dX12_matches_37 : decode cX12_matches 37 = .ok (.aload_n 0, 1) := by decide +kernel
theorem dX12_matches_38 : decode cX12_matches 38 = .ok (.iload_n 1, 1) := by decide +kernel
theorem dX12_matches_39 : decode cX12_matches 39 = .ok (.iload_n 2, 1) := by decide +kernel
theorem dX12_matches_40 : decode cX12_matches 40 = .ok (.iconst 2, 1) := by decide +kernel
theorem dX12_matches_41 : decode cX12_matches 41 = .ok (.invokevirtual 114, 3) := by decide +kernel
theorem dX12_matches_44 : decode cX12_matches 44 = .ok (.if_icmp .ne 7, 3) := by decide +kernel
theorem dX12_matches_47 : decode cX12_matches 47 = .ok (.iconst 1, 1) := by decide +kernel
theorem dX12_matches_48 : decode cX12_matches 48 = .ok (.goto 4, 3) := by decide +kernel
theorem dX12_matches_51 : decode cX12_matches 51 = .ok (.iconst 0, 1) := by decide +kernel
theorem dX12_matches_52 : decode cX12_matches 52 = .ok (.ireturn, 1) := by decide +kernel
theorem dX12_handler_0 : decode cX12_handler 0 = .ok (.iconst 0, 1) := by decide +kernel
theorem dX12_handler_1 : decode cX12_handler 1 = .ok (.istore 4, 2) := by decide +kernel
theorem dX12_handler_3 : decode cX12_handler 3 = .ok (.iload 4, 2) := by decide +kernel
theorem dX12_handler_5 : decode cX12_handler 5 = .ok (.aload_n 0, 1) := by decide +kernel
theorem dX12_handler_6 : decode cX12_handler 6 = .ok (.iload_n 1, 1) := by decide +kernel
theorem dX12_handler_7 : decode cX12_handler 7 = .ok (.invokevirtual 110, 3) := by decide +kernel
theorem dX12_handler_10 : decode cX12_handler 10 = .ok (.if_icmp .ge 24, 3) := by decide +kernel
theorem dX12_handler_13 : decode cX12_handler 13 = .ok (.aload_n 0, 1) := by decide +kernel
theorem dX12_handler_14 : decode cX12_handler 14 = .ok (.iload_n 1, 1) := by decide +kernel
theorem dX12_handler_15 : decode cX12_handler 15 = .ok (.iload 4, 2) := by decide +kernel
theorem dX12_handler_17 : decode cX12_handler 17 = .ok (.iload_n 2, 1) := by decide +kernel
theorem dX12_handler_18 : decode cX12_handler 18 = .ok (.iload_n 3, 1) := by decide +kernel
theorem dX12_handler_19 : decode cX12_handler 19 = .ok (.invokevirtual 146, 3) := by decide +kernel
theorem dX12_handler_22 : decode cX12_handler 22 = .ok (.ifCond .eq 6, 3) := by decide +kernel
theorem dX12_handler_25 : decode cX12_handler 25 = .ok (.iload 4, 2) := by decide +kernel
theorem dX12_handler_27 : decode cX12_handler 27 = .ok (.ireturn, 1) := by decide +kernel
theorem dX12_handler_28 : decode cX12_handler 28 = .ok (.iinc 4 1, 3) := by decide +kernel
theorem dX12_handler_31 : decode cX12_handler 31 = .ok (.goto (-28), 3) := by decide +kernel
theorem dX12_handler_34 : decode cX12_handler 34 = .ok (.iconst (-1), 1) := by decide +kernel
theorem dX12_handler_35 : decode cX12_handler 35 = .ok (.ireturn, 1) := by decide +kernel
theorem dX12_shadowed_0 : decode cX12_shadowed 0 = .ok (.iload_n 1, 1) := by decide +kernel
theorem dX12_shadowed_1 : decode cX12_shadowed 1 = .ok (.invokestatic 102, 3) := by decide +kernel
theorem dX12_shadowed_4 : decode cX12_shadowed 4 = .ok (.ifCond .eq 5, 3) := by decide +kernel
theorem dX12_shadowed_7 : decode cX12_shadowed 7 = .ok (.iconst (-1), 1) := by decide +kernel
theorem dX12_shadowed_8 : decode cX12_shadowed 8 = .ok (.ireturn, 1) := by decide +kernel
theorem dX12_shadowed_9 : decode cX12_shadowed 9 = .ok (.iconst 0, 1) := by decide +kernel
theorem dX12_shadowed_10 : decode cX12_shadowed 10 = .ok (.istore_n 2, 1) := by decide +kernel
theorem dX12_shadowed_11 : decode cX12_shadowed 11 = .ok (.iconst 0, 1) := by decide +kernel
theorem dX12_shadowed_12 : decode cX12_shadowed 12 = .ok (.istore_n 3, 1) := by decide +kernel
theorem dX12_shadowed_13 : decode cX12_shadowed 13 = .ok (.iload_n 3, 1) := by decide +kernel
theorem dX12_shadowed_14 : decode cX12_shadowed 14 = .ok (.aload_n 0, 1) := by decide +kernel
theorem dX12_shadowed_15 : decode cX12_shadowed 15 = .ok (.iload_n 1, 1) := by decide +kernel
theorem dX12_shadowed_16 : decode cX12_shadowed 16 = .ok (.invokevirtual 110, 3) := by decide +kernel
theorem dX12_shadowed_19 : decode cX12_shadowed 19 = .ok (.if_icmp .ge 22, 3) := by decide +kernel
theorem dX12_shadowed_22 : decode cX12_shadowed 22 = .ok (.iload_n 2, 1) := by decide +kernel
theorem dX12_shadowed_23 : decode cX12_shadowed 23 = .ok (.aload_n 0, 1) := by decide +kernel
theorem dX12_shadowed_24 : decode cX12_shadowed 24 = .ok (.iload_n 1, 1) := by decide +kernel
theorem dX12_shadowed_25 : decode cX12_shadowed 25 = .ok (.iload_n 3, 1) := by decide +kernel
theorem dX12_shadowed_26 : decode cX12_shadowed 26 = .ok (.bipush 6, 2) := by decide +kernel
theorem dX12_shadowed_28 : decode cX12_shadowed 28 = .ok (.invokevirtual 114, 3) := by decide +kernel
theorem dX12_shadowed_31 : decode cX12_shadowed 31 = .ok (.iload_n 3, 1) := by decide +kernel
theorem dX12_shadowed_32 : decode cX12_shadowed 32 = .ok (.ishl, 1) := by decide +kernel
theorem dX12_shadowed_33 : decode cX12_shadowed 33 = .ok (.ior, 1) := by decide +kernel
theorem dX12_shadowed_34 : decode cX12_shadowed 34 = .ok (.istore_n 2, 1) := by decide +kernel
theorem dX12_shadowed_35 : decode cX12_shadowed 35 = .ok (.iinc 3 1, 3) := by decide +kernel
theorem dX12_shadowed_38 : decode cX12_shadowed 38 = .ok (.goto (-25), 3) := by decide +kernel
theorem dX12_shadowed_41 : decode cX12_shadowed 41 = .ok (.iconst 0, 1) := by decide +kernel
theorem dX12_shadowed_42 : decode cX12_shadowed 42 = .ok (.istore_n 3, 1) := by decide +kernel
theorem dX12_shadowed_43 : decode cX12_shadowed 43 = .ok (.iload_n 3, 1) := by decide +kernel
theorem dX12_shadowed_44 : decode cX12_shadowed 44 = .ok (.iconst 4, 1) := by decide +kernel
theorem dX12_shadowed_45 : decode cX12_shadowed 45 = .ok (.if_icmp .ge 55, 3) := by decide +kernel
theorem dX12_shadowed_48 : decode cX12_shadowed 48 = .ok (.iconst 0, 1) := by decide +kernel
theorem dX12_shadowed_49 : decode cX12_shadowed 49 = .ok (.istore 4, 2) := by decide +kernel
theorem dX12_shadowed_51 : decode cX12_shadowed 51 = .ok (.iload 4, 2) := by decide +kernel
theorem dX12_shadowed_53 : decode cX12_shadowed 53 = .ok (.aload_n 0, 1) := by decide +kernel
theorem dX12_shadowed_54 : decode cX12_shadowed 54 = .ok (.invokevirtual 98, 3) := by decide +kernel
theorem dX12_shadowed_57 : decode cX12_shadowed 57 = .ok (.if_icmp .ge 37, 3) := by decide +kernel
theorem dX12_shadowed_60 : decode cX12_shadowed 60 = .ok (.aload_n 0, 1) := by decide +kernel
theorem dX12_shadowed_61 : decode cX12_shadowed 61 = .ok (.iload_n 1, 1) := by decide +kernel
theorem dX12_shadowed_62 : decode cX12_shadowed 62 = .ok (.iload_n 3, 1) := by decide +kernel
theorem dX12_shadowed_63 : decode cX12_shadowed 63 = .ok (.iload 4, 2) := by decide +kernel
theorem dX12_shadowed_65 : decode cX12_shadowed 65 = .ok (.invokevirtual 150, 3) := by decide +kernel
theorem dX12_shadowed_68 : decode cX12_shadowed 68 = .ok (.istore 5, 2) := by decide +kernel
theorem dX12_shadowed_70 : decode cX12_shadowed 70 = .ok (.iload_n 2, 1) := by decide +kernel
theorem dX12_shadowed_71 : decode cX12_shadowed 71 = .ok (.iload 5, 2) := by decide +kernel
theorem dX12_shadowed_73 : decode cX12_shadowed 73 = .ok (.ifCond .ge 7, 3) := by decide +kernel
theorem dX12_shadowed_76 : decode cX12_shadowed 76 = .ok (.iconst (-1), 1) := by decide +kernel
theorem dX12_shadowed_77 : decode cX12_shadowed 77 = .ok (.goto 9, 3) := by decide +kernel
theorem dX12_shadowed_80 : decode cX12_shadowed 80 = .ok (.iconst 1, 1) := by decide +kernel
theorem dX12_shadowed_81 : decode cX12_shadowed 81 = .ok (.iload 5, 2) := by decide +kernel
theorem dX12_shadowed_83 : decode cX12_shadowed 83 = .ok (.ishl, 1) := by decide +kernel
theorem dX12_shadowed_84 : decode cX12_shadowed 84 = .ok (.iconst (-1), 1) := by decide +kernel
theorem dX12_shadowed_85 : decode cX12_shadowed 85 = .ok (.ixor, 1) := by decide +kernel
theorem dX12_shadowed_86 : decode cX12_shadowed 86 = .ok (.iand, 1) := by decide +kernel
theorem dX12_shadowed_87 : decode cX12_shadowed 87 = .ok (.istore_n 2, 1) := by decide +kernel
theorem dX12_shadowed_88 : decode cX12_shadowed 88 = .ok (.iinc 4 1, 3) := by decide +kernel
theorem dX12_shadowed_91 : decode cX12_shadowed 91 = .ok (.goto (-40), 3) := by decide +kernel
theorem dX12_shadowed_94 : decode cX12_shadowed 94 = .ok (.iinc 3 1, 3) := by decide +kernel
theorem dX12_shadowed_97 : decode cX12_shadowed 97 = .ok (.goto (-54), 3) := by decide +kernel
theorem dX12_shadowed_100 : decode cX12_shadowed 100 = .ok (.iload_n 2, 1) := by decide +kernel
theorem dX12_shadowed_101 : decode cX12_shadowed 101 = .ok (.ireturn, 1) := by decide +kernel
theorem dX12_injected_0 : decode cX12_injected 0 = .ok (.lconst 0, 1) := by decide +kernel
theorem dX12_injected_1 : decode cX12_injected 1 = .ok (.lstore_n 1, 1) := by decide +kernel
theorem dX12_injected_2 : decode cX12_injected 2 = .ok (.iconst 0, 1) := by decide +kernel
theorem dX12_injected_3 : decode cX12_injected 3 = .ok (.istore_n 3, 1) := by decide +kernel
theorem dX12_injected_4 : decode cX12_injected 4 = .ok (.iload_n 3, 1) := by decide +kernel
theorem dX12_injected_5 : decode cX12_injected 5 = .ok (.aload_n 0, 1) := by decide +kernel
theorem dX12_injected_6 : decode cX12_injected 6 = .ok (.invokevirtual 98, 3) := by decide +kernel
theorem dX12_injected_9 : decode cX12_injected 9 = .ok (.if_icmp .ge 27, 3) := by decide +kernel
theorem dX12_injected_12 : decode cX12_injected 12 = .ok (.lload_n 1, 1) := by decide +kernel
theorem dX12_injected_13 : decode cX12_injected 13 = .ok (.aload_n 0, 1) := by decide +kernel
theorem dX12_injected_14 : decode cX12_injected 14 = .ok (.iload_n 3, 1) := by decide +kernel
theorem dX12_injected_15 : decode cX12_injected 15 = .ok (.invokevirtual 153, 3) := by decide +kernel
theorem dX12_injected_18 : decode cX12_injected 18 = .ok (.ifCond .eq 9, 3) := by decide +kernel
theorem dX12_injected_21 : decode cX12_injected 21 = .ok (.lconst 1, 1) := by decide +kernel
theorem dX12_injected_22 : decode cX12_injected 22 = .ok (.iload_n 3, 1) := by decide +kernel
theorem dX12_injected_23 : decode cX12_injected 23 = .ok (.lshl, 1) := by decide +kernel
theorem dX12_injected_24 : decode cX12_injected 24 = .ok (.goto 4, 3) := by decide +kernel
theorem dX12_injected_27 : decode cX12_injected 27 = .ok (.lconst 0, 1) := by decide +kernel
theorem dX12_injected_28 : decode cX12_injected 28 = .ok (.lor, 1) := by decide +kernel
theorem dX12_injected_29 : decode cX12_injected 29 = .ok (.lstore_n 1, 1) := by decide +kernel
theorem dX12_injected_30 : decode cX12_injected 30 = .ok (.iinc 3 1, 3) := by decide +kernel
theorem dX12_injected_33 : decode cX12_injected 33 = .ok (.goto (-29), 3) := by decide +kernel
theorem dX12_injected_36 : decode cX12_injected 36 = .ok (.lload_n 1, 1) := by decide +kernel
theorem dX12_injected_37 : decode cX12_injected 37 = .ok (.lreturn, 1) := by decide +kernel
theorem dX12_isInjected_0 : decode cX12_isInjected 0 = .ok (.aload_n 0, 1) := by decide +kernel
theorem dX12_isInjected_1 : decode cX12_isInjected 1 = .ok (.iload_n 1, 1) := by decide +kernel
theorem dX12_isInjected_2 : decode cX12_isInjected 2 = .ok (.invokevirtual 122, 3) := by decide +kernel
theorem dX12_isInjected_5 : decode cX12_isInjected 5 = .ok (.ifCond .ne 20, 3) := by decide +kernel
theorem dX12_isInjected_8 : decode cX12_isInjected 8 = .ok (.iload_n 1, 1) := by decide +kernel
theorem dX12_isInjected_9 : decode cX12_isInjected 9 = .ok (.aload_n 0, 1) := by decide +kernel
theorem dX12_isInjected_10 : decode cX12_isInjected 10 = .ok (.getfield 82, 3) := by decide +kernel
theorem dX12_isInjected_13 : decode cX12_isInjected 13 = .ok (.iand, 1) := by decide +kernel
theorem dX12_isInjected_14 : decode cX12_isInjected 14 = .ok (.aload_n 0, 1) := by decide +kernel
theorem dX12_isInjected_15 : decode cX12_isInjected 15 = .ok (.getfield 85, 3) := by decide +kernel
theorem dX12_isInjected_18 : decode cX12_isInjected 18 = .ok (.if_icmp .ne 7, 3) := by decide +kernel
theorem dX12_isInjected_21 : decode cX12_isInjected 21 = .ok (.iconst 1, 1) := by decide +kernel
theorem dX12_isInjected_22 : decode cX12_isInjected 22 = .ok (.goto 4, 3) := by decide +kernel
theorem dX12_isInjected_25 : decode cX12_isInjected 25 = .ok (.iconst 0, 1) := by decide +kernel
theorem dX12_isInjected_26 : decode cX12_isInjected 26 = .ok (.ireturn, 1) := by decide +kernel
theorem dX12_rewritten_0 : decode cX12_rewritten 0 = .ok (.iload_n 3, 1) := by decide +kernel
theorem dX12_rewritten_1 : decode cX12_rewritten 1 = .ok (.aload_n 0, 1) := by decide +kernel
theorem dX12_rewritten_2 : decode cX12_rewritten 2 = .ok (.iload_n 1, 1) := by decide +kernel
theorem dX12_rewritten_3 : decode cX12_rewritten 3 = .ok (.iload_n 2, 1) := by decide +kernel
theorem dX12_rewritten_4 : decode cX12_rewritten 4 = .ok (.iconst 4, 1) := by decide +kernel
theorem dX12_rewritten_5 : decode cX12_rewritten 5 = .ok (.invokevirtual 114, 3) := by decide +kernel
theorem dX12_rewritten_8 : decode cX12_rewritten 8 = .ok (.iconst (-1), 1) := by decide +kernel
theorem dX12_rewritten_9 : decode cX12_rewritten 9 = .ok (.ixor, 1) := by decide +kernel
theorem dX12_rewritten_10 : decode cX12_rewritten 10 = .ok (.iand, 1) := by decide +kernel
theorem dX12_rewritten_11 : decode cX12_rewritten 11 = .ok (.aload_n 0, 1) := by decide +kernel
theorem dX12_rewritten_12 : decode cX12_rewritten 12 = .ok (.iload_n 1, 1) := by decide +kernel
theorem dX12_rewritten_13 : decode cX12_rewritten 13 = .ok (.iload_n 2, 1) := by decide +kernel
theorem dX12_rewritten_14 : decode cX12_rewritten 14 = .ok (.iconst 5, 1) := by decide +kernel
theorem dX12_rewritten_15 : decode cX12_rewritten 15 = .ok (.invokevirtual 114, 3) := by decide +kernel
theorem dX12_rewritten_18 : decode cX12_rewritten 18 = .ok (.ior, 1) := by decide +kernel
theorem dX12_rewritten_19 : decode cX12_rewritten 19 = .ok (.ireturn, 1) := by decide +kernel
theorem dX12_goOn_0 : decode cX12_goOn 0 = .ok (.iload_n 1, 1) := by decide +kernel
theorem dX12_goOn_1 : decode cX12_goOn 1 = .ok (.iconst 4, 1) := by decide +kernel
theorem dX12_goOn_2 : decode cX12_goOn 2 = .ok (.idiv, 1) := by decide +kernel
theorem dX12_goOn_3 : decode cX12_goOn 3 = .ok (.istore_n 3, 1) := by decide +kernel
theorem dX12_goOn_4 : decode cX12_goOn 4 = .ok (.aload_n 0, 1) := by decide +kernel
theorem dX12_goOn_5 : decode cX12_goOn 5 = .ok (.iload_n 3, 1) := by decide +kernel
theorem dX12_goOn_6 : decode cX12_goOn 6 = .ok (.iload_n 1, 1) := by decide +kernel
theorem dX12_goOn_7 : decode cX12_goOn 7 = .ok (.iconst 4, 1) := by decide +kernel
theorem dX12_goOn_8 : decode cX12_goOn 8 = .ok (.irem, 1) := by decide +kernel
theorem dX12_goOn_9 : decode cX12_goOn 9 = .ok (.iload_n 2, 1) := by decide +kernel
theorem dX12_goOn_10 : decode cX12_goOn 10 = .ok (.invokevirtual 150, 3) := by decide +kernel
theorem dX12_goOn_13 : decode cX12_goOn 13 = .ok (.istore 4, 2) := by decide +kernel
theorem dX12_goOn_15 : decode cX12_goOn 15 = .ok (.iload 4, 2) := by decide +kernel
theorem dX12_goOn_17 : decode cX12_goOn 17 = .ok (.ifCond .ge 4, 3) := by decide +kernel
theorem dX12_goOn_20 : decode cX12_goOn 20 = .ok (.return_, 1) := by decide +kernel
theorem dX12_goOn_21 : decode cX12_goOn 21 = .ok (.lconst 1, 1) := by decide +kernel
theorem dX12_goOn_22 : decode cX12_goOn 22 = .ok (.aload_n 0, 1) := by decide +kernel
theorem dX12_goOn_23 : decode cX12_goOn 23 = .ok (.iload_n 3, 1) := by decide +kernel
theorem dX12_goOn_24 : decode cX12_goOn 24 = .ok (.iload 4, 2) := by decide +kernel
theorem dX12_goOn_26 : decode cX12_goOn 26 = .ok (.iload_n 2, 1) := by decide +kernel
theorem dX12_goOn_27 : decode cX12_goOn 27 = .ok (.invokevirtual 156, 3) := by decide +kernel
theorem dX12_goOn_30 : decode cX12_goOn 30 = .ok (.lshl, 1) := by decide +kernel
theorem dX12_goOn_31 : decode cX12_goOn 31 = .ok (.lstore 5, 2) := by decide +kernel
theorem dX12_goOn_33 : decode cX12_goOn 33 = .ok (.iconst 0, 1) := by decide +kernel
theorem dX12_goOn_34 : decode cX12_goOn 34 = .ok (.istore 7, 2) := by decide +kernel
theorem dX12_goOn_36 : decode cX12_goOn 36 = .ok (.iload 7, 2) := by decide +kernel
theorem dX12_goOn_38 : decode cX12_goOn 38 = .ok (.iconst 4, 1) := by decide +kernel
theorem dX12_goOn_39 : decode cX12_goOn 39 = .ok (.if_icmp .ge 76, 3) := by decide +kernel
theorem dX12_goOn_42 : decode cX12_goOn 42 = .ok (.aload_n 0, 1) := by decide +kernel
theorem dX12_goOn_43 : decode cX12_goOn 43 = .ok (.iload_n 3, 1) := by decide +kernel
theorem dX12_goOn_44 : decode cX12_goOn 44 = .ok (.iload 4, 2) := by decide +kernel
theorem dX12_goOn_46 : decode cX12_goOn 46 = .ok (.iconst 3, 1) := by decide +kernel
theorem dX12_goOn_47 : decode cX12_goOn 47 = .ok (.invokevirtual 114, 3) := by decide +kernel
theorem dX12_goOn_50 : decode cX12_goOn 50 = .ok (.iload 7, 2) := by decide +kernel
theorem dX12_goOn_52 : decode cX12_goOn 52 = .ok (.ishr, 1) := by decide +kernel
theorem dX12_goOn_53 : decode cX12_goOn 53 = .ok (.iconst 1, 1) := by decide +kernel
theorem dX12_goOn_54 : decode cX12_goOn 54 = .ok (.iand, 1) := by decide +kernel
theorem dX12_goOn_55 : decode cX12_goOn 55 = .ok (.iconst 1, 1) := by decide +kernel
theorem dX12_goOn_56 : decode cX12_goOn 56 = .ok (.if_icmp .ne 53, 3) := by decide +kernel
theorem dX12_goOn_59 : decode cX12_goOn 59 = .ok (.iconst 4, 1) := by decide +kernel
theorem dX12_goOn_60 : decode cX12_goOn 60 = .ok (.iload_n 3, 1) := by decide +kernel
theorem dX12_goOn_61 : decode cX12_goOn 61 = .ok (.imul, 1) := by decide +kernel
theorem dX12_goOn_62 : decode cX12_goOn 62 = .ok (.iload 7, 2) := by decide +kernel
theorem dX12_goOn_64 : decode cX12_goOn 64 = .ok (.iadd, 1) := by decide +kernel
theorem dX12_goOn_65 : decode cX12_goOn 65 = .ok (.istore 8, 2) := by decide +kernel
theorem dX12_goOn_67 : decode cX12_goOn 67 = .ok (.aload_n 0, 1) := by decide +kernel
theorem dX12_goOn_68 : decode cX12_goOn 68 = .ok (.getfield 7, 3) := by decide +kernel
theorem dX12_goOn_71 : decode cX12_goOn 71 = .ok (.iload 8, 2) := by decide +kernel
theorem dX12_goOn_73 : decode cX12_goOn 73 = .ok (.iaload, 1) := by decide +kernel
theorem dX12_goOn_74 : decode cX12_goOn 74 = .ok (.ifCond .ge 18, 3) := by decide +kernel
theorem dX12_goOn_77 : decode cX12_goOn 77 = .ok (.aload_n 0, 1) := by decide +kernel
theorem dX12_goOn_78 : decode cX12_goOn 78 = .ok (.getfield 29, 3) := by decide +kernel
theorem dX12_goOn_81 : decode cX12_goOn 81 = .ok (.iload 8, 2) := by decide +kernel
theorem dX12_goOn_83 : decode cX12_goOn 83 = .ok (.dup2, 1) := by decide +kernel
theorem dX12_goOn_84 : decode cX12_goOn 84 = .ok (.laload, 1) := by decide +kernel
theorem dX12_goOn_85 : decode cX12_goOn 85 = .ok (.lload 5, 2) := by decide +kernel
theorem dX12_goOn_87 : decode cX12_goOn 87 = .ok (.lor, 1) := by decide +kernel
theorem dX12_goOn_88 : decode cX12_goOn 88 = .ok (.lastore, 1) := by decide +kernel
theorem dX12_goOn_89 : decode cX12_goOn 89 = .ok (.goto 20, 3) := by decide +kernel
theorem dX12_goOn_92 : decode cX12_goOn 92 = .ok (.aload_n 0, 1) := by decide +kernel
theorem dX12_goOn_93 : decode cX12_goOn 93 = .ok (.getfield 22, 3) := by decide +kernel
theorem dX12_goOn_96 : decode cX12_goOn 96 = .ok (.aload_n 0, 1) := by decide +kernel
theorem dX12_goOn_97 : decode cX12_goOn 97 = .ok (.getfield 7, 3) := by decide +kernel
theorem dX12_goOn_100 : decode cX12_goOn 100 = .ok (.iload 8, 2) := by decide +kernel
theorem dX12_goOn_102 : decode cX12_goOn 102 = .ok (.iaload, 1) := by decide +kernel
theorem dX12_goOn_103 : decode cX12_goOn 103 = .ok (.dup2, 1) := by decide +kernel
theorem dX12_goOn_104 : decode cX12_goOn 104 = .ok (.laload, 1) := by decide +kernel
theorem dX12_goOn_105 : decode cX12_goOn 105 = .ok (.lload 5, 2) := by decide +kernel
theorem dX12_goOn_107 : decode cX12_goOn 107 = .ok (.lor, 1) := by decide +kernel
theorem dX12_goOn_108 : decode cX12_goOn 108 = .ok (.lastore, 1) := by decide +kernel
theorem dX12_goOn_109 : decode cX12_goOn 109 = .ok (.iinc 7 1, 3) := by decide +kernel
theorem dX12_goOn_112 : decode cX12_goOn 112 = .ok (.goto (-76), 3) := by decide +kernel
theorem dX12_goOn_115 : decode cX12_goOn 115 = .ok (.return_, 1) := by decide +kernel
theorem dX12_spread_0 : decode cX12_spread 0 = .ok (.iconst 0, 1) := by decide +kernel
theorem dX12_spread_1 : decode cX12_spread 1 = .ok (.istore 4, 2) := by decide +kernel
theorem dX12_spread_3 : decode cX12_spread 3 = .ok (.iload 4, 2) := by decide +kernel
theorem dX12_spread_5 : decode cX12_spread 5 = .ok (.bipush 24, 2) := by decide +kernel
theorem dX12_spread_7 : decode cX12_spread 7 = .ok (.if_icmp .ge 33, 3) := by decide +kernel
theorem dX12_spread_10 : decode cX12_spread 10 = .ok (.aload_n 0, 1) := by decide +kernel
theorem dX12_spread_11 : decode cX12_spread 11 = .ok (.getfield 22, 3) := by decide +kernel
theorem dX12_spread_14 : decode cX12_spread 14 = .ok (.iload 4, 2) := by decide +kernel
theorem dX12_spread_16 : decode cX12_spread 16 = .ok (.lconst 0, 1) := by decide +kernel
theorem dX12_spread_17 : decode cX12_spread 17 = .ok (.lastore, 1) := by decide +kernel
theorem dX12_spread_18 : decode cX12_spread 18 = .ok (.aload_n 0, 1) := by decide +kernel
theorem dX12_spread_19 : decode cX12_spread 19 = .ok (.getfield 26, 3) := by decide +kernel
theorem dX12_spread_22 : decode cX12_spread 22 = .ok (.iload 4, 2) := by decide +kernel
theorem dX12_spread_24 : decode cX12_spread 24 = .ok (.lconst 0, 1) := by decide +kernel
theorem dX12_spread_25 : decode cX12_spread 25 = .ok (.lastore, 1) := by decide +kernel
theorem dX12_spread_26 : decode cX12_spread 26 = .ok (.aload_n 0, 1) := by decide +kernel
theorem dX12_spread_27 : decode cX12_spread 27 = .ok (.getfield 29, 3) := by decide +kernel
theorem dX12_spread_30 : decode cX12_spread 30 = .ok (.iload 4, 2) := by decide +kernel
theorem dX12_spread_32 : decode cX12_spread 32 = .ok (.lconst 0, 1) := by decide +kernel
theorem dX12_spread_33 : decode cX12_spread 33 = .ok (.lastore, 1) := by decide +kernel
theorem dX12_spread_34 : decode cX12_spread 34 = .ok (.iinc 4 1, 3) := by decide +kernel
theorem dX12_spread_37 : decode cX12_spread 37 = .ok (.goto (-34), 3) := by decide +kernel
theorem dX12_spread_40 : decode cX12_spread 40 = .ok (.aload_n 0, 1) := by decide +kernel
theorem dX12_spread_41 : decode cX12_spread 41 = .ok (.getfield 22, 3) := by decide +kernel
theorem dX12_spread_44 : decode cX12_spread 44 = .ok (.iload_n 1, 1) := by decide +kernel
theorem dX12_spread_45 : decode cX12_spread 45 = .ok (.lload_n 2, 1) := by decide +kernel
theorem dX12_spread_46 : decode cX12_spread 46 = .ok (.lastore, 1) := by decide +kernel
theorem dX12_spread_47 : decode cX12_spread 47 = .ok (.iconst 1, 1) := by decide +kernel
theorem dX12_spread_48 : decode cX12_spread 48 = .ok (.istore 4, 2) := by decide +kernel
theorem dX12_spread_50 : decode cX12_spread 50 = .ok (.iload 4, 2) := by decide +kernel
theorem dX12_spread_52 : decode cX12_spread 52 = .ok (.ifCond .eq 122, 3) := by decide +kernel
theorem dX12_spread_55 : decode cX12_spread 55 = .ok (.iconst 0, 1) := by decide +kernel
theorem dX12_spread_56 : decode cX12_spread 56 = .ok (.istore 4, 2) := by decide +kernel
theorem dX12_spread_58 : decode cX12_spread 58 = .ok (.iconst 0, 1) := by decide +kernel
theorem dX12_spread_59 : decode cX12_spread 59 = .ok (.istore 5, 2) := by decide +kernel
theorem dX12_spread_61 : decode cX12_spread 61 = .ok (.iload 5, 2) := by decide +kernel
theorem dX12_spread_63 : decode cX12_spread 63 = .ok (.bipush 24, 2) := by decide +kernel
theorem dX12_spread_65 : decode cX12_spread 65 = .ok (.if_icmp .ge 106, 3) := by decide +kernel
theorem dX12_spread_68 : decode cX12_spread 68 = .ok (.aload_n 0, 1) := by decide +kernel
theorem dX12_spread_69 : decode cX12_spread 69 = .ok (.getfield 22, 3) := by decide +kernel
theorem dX12_spread_72 : decode cX12_spread 72 = .ok (.iload 5, 2) := by decide +kernel
theorem dX12_spread_74 : decode cX12_spread 74 = .ok (.laload, 1) := by decide +kernel
theorem dX12_spread_75 : decode cX12_spread 75 = .ok (.aload_n 0, 1) := by decide +kernel
theorem dX12_spread_76 : decode cX12_spread 76 = .ok (.getfield 26, 3) := by decide +kernel
theorem dX12_spread_79 : decode cX12_spread 79 = .ok (.iload 5, 2) := by decide +kernel
theorem dX12_spread_81 : decode cX12_spread 81 = .ok (.laload, 1) := by decide +kernel
theorem dX12_spread_82 : decode cX12_spread 82 = .ok (.ldc2_w 159, 3) := by decide +kernel
theorem dX12_spread_85 : decode cX12_spread 85 = .ok (.lxor, 1) := by decide +kernel
theorem dX12_spread_86 : decode cX12_spread 86 = .ok (.land, 1) := by decide +kernel
theorem dX12_spread_87 : decode cX12_spread 87 = .ok (.lstore 6, 2) := by decide +kernel
theorem dX12_spread_89 : decode cX12_spread 89 = .ok (.aload_n 0, 1) := by decide +kernel
theorem dX12_spread_90 : decode cX12_spread 90 = .ok (.getfield 26, 3) := by decide +kernel
theorem dX12_spread_93 : decode cX12_spread 93 = .ok (.iload 5, 2) := by decide +kernel
theorem dX12_spread_95 : decode cX12_spread 95 = .ok (.dup2, 1) := by decide +kernel
theorem dX12_spread_96 : decode cX12_spread 96 = .ok (.laload, 1) := by decide +kernel
theorem dX12_spread_97 : decode cX12_spread 97 = .ok (.lload 6, 2) := by decide +kernel
theorem dX12_spread_99 : decode cX12_spread 99 = .ok (.lor, 1) := by decide +kernel
theorem dX12_spread_100 : decode cX12_spread 100 = .ok (.lastore, 1) := by decide +kernel
theorem dX12_spread_101 : decode cX12_spread 101 = .ok (.iload 4, 2) := by decide +kernel
theorem dX12_spread_103 : decode cX12_spread 103 = .ok (.ifCond .ne 10, 3) := by decide +kernel
theorem dX12_spread_106 : decode cX12_spread 106 = .ok (.lload 6, 2) := by decide +kernel
theorem dX12_spread_108 : decode cX12_spread 108 = .ok (.lconst 0, 1) := by decide +kernel
theorem dX12_spread_109 : decode cX12_spread 109 = .ok (.lcmp, 1) := by decide +kernel
theorem dX12_spread_110 : decode cX12_spread 110 = .ok (.ifCond .eq 7, 3) := by decide +kernel
theorem dX12_spread_113 : decode cX12_spread 113 = .ok (.iconst 1, 1) := by decide +kernel
theorem dX12_spread_114 : decode cX12_spread 114 = .ok (.goto 4, 3) := by decide +kernel
theorem dX12_spread_117 : decode cX12_spread 117 = .ok (.iconst 0, 1) := by decide +kernel
theorem dX12_spread_118 : decode cX12_spread 118 = .ok (.istore 4, 2) := by decide +kernel
theorem dX12_spread_120 : decode cX12_spread 120 = .ok (.iconst 0, 1) := by decide +kernel
theorem dX12_spread_121 : decode cX12_spread 121 = .ok (.istore 8, 2) := by decide +kernel
theorem dX12_spread_123 : decode cX12_spread 123 = .ok (.iload 8, 2) := by decide +kernel
theorem dX12_spread_125 : decode cX12_spread 125 = .ok (.aload_n 0, 1) := by decide +kernel
theorem dX12_spread_126 : decode cX12_spread 126 = .ok (.invokevirtual 98, 3) := by decide +kernel
theorem dX12_spread_129 : decode cX12_spread 129 = .ok (.if_icmp .ge 36, 3) := by decide +kernel
theorem dX12_spread_132 : decode cX12_spread 132 = .ok (.lload 6, 2) := by decide +kernel
theorem dX12_spread_134 : decode cX12_spread 134 = .ok (.lconst 0, 1) := by decide +kernel
theorem dX12_spread_135 : decode cX12_spread 135 = .ok (.lcmp, 1) := by decide +kernel
theorem dX12_spread_136 : decode cX12_spread 136 = .ok (.ifCond .eq 29, 3) := by decide +kernel
theorem dX12_spread_139 : decode cX12_spread 139 = .ok (.lload 6, 2) := by decide +kernel
theorem dX12_spread_141 : decode cX12_spread 141 = .ok (.iload 8, 2) := by decide +kernel
theorem dX12_spread_143 : decode cX12_spread 143 = .ok (.lshr, 1) := by decide +kernel
theorem dX12_spread_144 : decode cX12_spread 144 = .ok (.lconst 1, 1) := by decide +kernel
theorem dX12_spread_145 : decode cX12_spread 145 = .ok (.land, 1) := by decide +kernel
theorem dX12_spread_146 : decode cX12_spread 146 = .ok (.lconst 1, 1) := by decide +kernel
theorem dX12_spread_147 : decode cX12_spread 147 = .ok (.lcmp, 1) := by decide +kernel
theorem dX12_spread_148 : decode cX12_spread 148 = .ok (.ifCond .ne 11, 3) := by decide +kernel
theorem dX12_spread_151 : decode cX12_spread 151 = .ok (.aload_n 0, 1) := by decide +kernel
theorem dX12_spread_152 : decode cX12_spread 152 = .ok (.iload 5, 2) := by decide +kernel
theorem dX12_spread_154 : decode cX12_spread 154 = .ok (.iload 8, 2) := by decide +kernel
theorem dX12_spread_156 : decode cX12_spread 156 = .ok (.invokevirtual 161, 3) := by decide +kernel
theorem dX12_spread_159 : decode cX12_spread 159 = .ok (.iinc 8 1, 3) := by decide +kernel
theorem dX12_spread_162 : decode cX12_spread 162 = .ok (.goto (-39), 3) := by decide +kernel
theorem dX12_spread_165 : decode cX12_spread 165 = .ok (.iinc 5 1, 3) := by decide +kernel
theorem dX12_spread_168 : decode cX12_spread 168 = .ok (.goto (-107), 3) := by decide +kernel
theorem dX12_spread_171 : decode cX12_spread 171 = .ok (.goto (-121), 3) := by decide +kernel
theorem dX12_spread_174 : decode cX12_spread 174 = .ok (.return_, 1) := by decide +kernel
theorem dX12_spreadAll_0 : decode cX12_spreadAll 0 = .ok (.aload_n 0, 1) := by decide +kernel
theorem dX12_spreadAll_1 : decode cX12_spreadAll 1 = .ok (.aload_n 0, 1) := by decide +kernel
theorem dX12_spreadAll_2 : decode cX12_spreadAll 2 = .ok (.getfield 79, 3) := by decide +kernel
theorem dX12_spreadAll_5 : decode cX12_spreadAll 5 = .ok (.aload_n 0, 1) := by decide +kernel
theorem dX12_spreadAll_6 : decode cX12_spreadAll 6 = .ok (.invokevirtual 164, 3) := by decide +kernel
theorem dX12_spreadAll_9 : decode cX12_spreadAll 9 = .ok (.invokevirtual 168, 3) := by decide +kernel
theorem dX12_spreadAll_12 : decode cX12_spreadAll 12 = .ok (.return_, 1) := by decide +kernel
theorem dX12_inject_0 : decode cX12_inject 0 = .ok (.iload_n 1, 1) := by decide +kernel
theorem dX12_inject_1 : decode cX12_inject 1 = .ok (.iload_n 2, 1) := by decide +kernel
theorem dX12_inject_2 : decode cX12_inject 2 = .ok (.invokestatic 106, 3) := by decide +kernel
theorem dX12_inject_5 : decode cX12_inject 5 = .ok (.ifCond .eq 5, 3) := by decide +kernel
theorem dX12_inject_8 : decode cX12_inject 8 = .ok (.iconst (-1), 1) := by decide +kernel
theorem dX12_inject_9 : decode cX12_inject 9 = .ok (.ireturn, 1) := by decide +kernel
theorem dX12_inject_10 : decode cX12_inject 10 = .ok (.aload_n 0, 1) := by decide +kernel
theorem dX12_inject_11 : decode cX12_inject 11 = .ok (.iload_n 3, 1) := by decide +kernel
theorem dX12_inject_12 : decode cX12_inject 12 = .ok (.invokevirtual 122, 3) := by decide +kernel
theorem dX12_inject_15 : decode cX12_inject 15 = .ok (.ifCond .ne 12, 3) := by decide +kernel
theorem dX12_inject_18 : decode cX12_inject 18 = .ok (.aload_n 0, 1) := by decide +kernel
theorem dX12_inject_19 : decode cX12_inject 19 = .ok (.iload 4, 2) := by decide +kernel
theorem dX12_inject_21 : decode cX12_inject 21 = .ok (.invokevirtual 122, 3) := by decide +kernel
theorem dX12_inject_24 : decode cX12_inject 24 = .ok (.ifCond .eq 6, 3) := by decide +kernel
theorem dX12_inject_27 : decode cX12_inject 27 = .ok (.bipush (-3), 2) := by decide +kernel
theorem dX12_inject_29 : decode cX12_inject 29 = .ok (.ireturn, 1) := by decide +kernel
theorem dX12_inject_30 : decode cX12_inject 30 = .ok (.aload_n 0, 1) := by decide +kernel
theorem dX12_inject_31 : decode cX12_inject 31 = .ok (.iconst 4, 1) := by decide +kernel
theorem dX12_inject_32 : decode cX12_inject 32 = .ok (.iload_n 1, 1) := by decide +kernel
theorem dX12_inject_33 : decode cX12_inject 33 = .ok (.imul, 1) := by decide +kernel
theorem dX12_inject_34 : decode cX12_inject 34 = .ok (.iload_n 2, 1) := by decide +kernel
theorem dX12_inject_35 : decode cX12_inject 35 = .ok (.iadd, 1) := by decide +kernel
theorem dX12_inject_36 : decode cX12_inject 36 = .ok (.putfield 79, 3) := by decide +kernel
theorem dX12_inject_39 : decode cX12_inject 39 = .ok (.aload_n 0, 1) := by decide +kernel
theorem dX12_inject_40 : decode cX12_inject 40 = .ok (.iload_n 3, 1) := by decide +kernel
theorem dX12_inject_41 : decode cX12_inject 41 = .ok (.putfield 82, 3) := by decide +kernel
theorem dX12_inject_44 : decode cX12_inject 44 = .ok (.aload_n 0, 1) := by decide +kernel
theorem dX12_inject_45 : decode cX12_inject 45 = .ok (.iload 4, 2) := by decide +kernel
theorem dX12_inject_47 : decode cX12_inject 47 = .ok (.iload_n 3, 1) := by decide +kernel
theorem dX12_inject_48 : decode cX12_inject 48 = .ok (.iand, 1) := by decide +kernel
theorem dX12_inject_49 : decode cX12_inject 49 = .ok (.putfield 85, 3) := by decide +kernel
theorem dX12_inject_52 : decode cX12_inject 52 = .ok (.aload_n 0, 1) := by decide +kernel
theorem dX12_inject_53 : decode cX12_inject 53 = .ok (.invokevirtual 164, 3) := by decide +kernel
theorem dX12_inject_56 : decode cX12_inject 56 = .ok (.invokestatic 172, 3) := by decide +kernel
theorem dX12_inject_59 : decode cX12_inject 59 = .ok (.ireturn, 1) := by decide +kernel
theorem dX12_size_0 : decode cX12_size 0 = .ok (.iconst 0, 1) := by decide +kernel
theorem dX12_size_1 : decode cX12_size 1 = .ok (.istore_n 2, 1) := by decide +kernel
theorem dX12_size_2 : decode cX12_size 2 = .ok (.lload_n 0, 1) := by decide +kernel
theorem dX12_size_3 : decode cX12_size 3 = .ok (.lstore_n 3, 1) := by decide +kernel
theorem dX12_size_4 : decode cX12_size 4 = .ok (.lload_n 3, 1) := by decide +kernel
theorem dX12_size_5 : decode cX12_size 5 = .ok (.lconst 0, 1) := by decide +kernel
theorem dX12_size_6 : decode cX12_size 6 = .ok (.lcmp, 1) := by decide +kernel
theorem dX12_size_7 : decode cX12_size 7 = .ok (.ifCond .eq 15, 3) := by decide +kernel
theorem dX12_size_10 : decode cX12_size 10 = .ok (.iinc 2 1, 3) := by decide +kernel
theorem dX12_size_13 : decode cX12_size 13 = .ok (.lload_n 3, 1) := by decide +kernel
theorem dX12_size_14 : decode cX12_size 14 = .ok (.lload_n 3, 1) := by decide +kernel
theorem dX12_size_15 : decode cX12_size 15 = .ok (.lconst 1, 1) := by decide +kernel
theorem dX12_size_16 : decode cX12_size 16 = .ok (.lsub, 1) := by decide +kernel
theorem dX12_size_17 : decode cX12_size 17 = .ok (.land, 1) := by decide +kernel
theorem dX12_size_18 : decode cX12_size 18 = .ok (.lstore_n 3, 1) := by decide +kernel
theorem dX12_size_19 : decode cX12_size 19 = .ok (.goto (-15), 3) := by decide +kernel
theorem dX12_size_22 : decode cX12_size 22 = .ok (.iload_n 2, 1) := by decide +kernel
theorem dX12_size_23 : decode cX12_size 23 = .ok (.ireturn, 1) := by decide +kernel
theorem dX12_arriving_0 : decode cX12_arriving 0 = .ok (.iload_n 1, 1) := by decide +kernel
theorem dX12_arriving_1 : decode cX12_arriving 1 = .ok (.iload_n 2, 1) := by decide +kernel
theorem dX12_arriving_2 : decode cX12_arriving 2 = .ok (.invokestatic 106, 3) := by decide +kernel
theorem dX12_arriving_5 : decode cX12_arriving 5 = .ok (.ifCond .eq 7, 3) := by decide +kernel
theorem dX12_arriving_8 : decode cX12_arriving 8 = .ok (.invokestatic 176, 3) := by decide +kernel
theorem dX12_arriving_11 : decode cX12_arriving 11 = .ok (.lreturn, 1) := by decide +kernel
theorem dX12_arriving_12 : decode cX12_arriving 12 = .ok (.aload_n 0, 1) := by decide +kernel
theorem dX12_arriving_13 : decode cX12_arriving 13 = .ok (.invokevirtual 179, 3) := by decide +kernel
theorem dX12_arriving_16 : decode cX12_arriving 16 = .ok (.aload_n 0, 1) := by decide +kernel
theorem dX12_arriving_17 : decode cX12_arriving 17 = .ok (.getfield 22, 3) := by decide +kernel
theorem dX12_arriving_20 : decode cX12_arriving 20 = .ok (.iconst 4, 1) := by decide +kernel
theorem dX12_arriving_21 : decode cX12_arriving 21 = .ok (.iload_n 1, 1) := by decide +kernel
theorem dX12_arriving_22 : decode cX12_arriving 22 = .ok (.imul, 1) := by decide +kernel
theorem dX12_arriving_23 : decode cX12_arriving 23 = .ok (.iload_n 2, 1) := by decide +kernel
theorem dX12_arriving_24 : decode cX12_arriving 24 = .ok (.iadd, 1) := by decide +kernel
theorem dX12_arriving_25 : decode cX12_arriving 25 = .ok (.laload, 1) := by decide +kernel
theorem dX12_arriving_26 : decode cX12_arriving 26 = .ok (.lreturn, 1) := by decide +kernel
theorem dX12_delivered_0 : decode cX12_delivered 0 = .ok (.iload_n 1, 1) := by decide +kernel
theorem dX12_delivered_1 : decode cX12_delivered 1 = .ok (.iload_n 2, 1) := by decide +kernel
theorem dX12_delivered_2 : decode cX12_delivered 2 = .ok (.invokestatic 106, 3) := by decide +kernel
theorem dX12_delivered_5 : decode cX12_delivered 5 = .ok (.ifCond .eq 7, 3) := by decide +kernel
theorem dX12_delivered_8 : decode cX12_delivered 8 = .ok (.invokestatic 176, 3) := by decide +kernel
theorem dX12_delivered_11 : decode cX12_delivered 11 = .ok (.lreturn, 1) := by decide +kernel
theorem dX12_delivered_12 : decode cX12_delivered 12 = .ok (.aload_n 0, 1) := by decide +kernel
theorem dX12_delivered_13 : decode cX12_delivered 13 = .ok (.invokevirtual 179, 3) := by decide +kernel
theorem dX12_delivered_16 : decode cX12_delivered 16 = .ok (.aload_n 0, 1) := by decide +kernel
theorem dX12_delivered_17 : decode cX12_delivered 17 = .ok (.getfield 29, 3) := by decide +kernel
theorem dX12_delivered_20 : decode cX12_delivered 20 = .ok (.iconst 4, 1) := by decide +kernel
theorem dX12_delivered_21 : decode cX12_delivered 21 = .ok (.iload_n 1, 1) := by decide +kernel
theorem dX12_delivered_22 : decode cX12_delivered 22 = .ok (.imul, 1) := by decide +kernel
theorem dX12_delivered_23 : decode cX12_delivered 23 = .ok (.iload_n 2, 1) := by decide +kernel
theorem dX12_delivered_24 : decode cX12_delivered 24 = .ok (.iadd, 1) := by decide +kernel
theorem dX12_delivered_25 : decode cX12_delivered 25 = .ok (.laload, 1) := by decide +kernel
theorem dX12_delivered_26 : decode cX12_delivered 26 = .ok (.lreturn, 1) := by decide +kernel
theorem dX12_handledBy_0 : decode cX12_handledBy 0 = .ok (.iconst 0, 1) := by decide +kernel
theorem dX12_handledBy_1 : decode cX12_handledBy 1 = .ok (.istore_n 3, 1) := by decide +kernel
theorem dX12_handledBy_2 : decode cX12_handledBy 2 = .ok (.iconst 0, 1) := by decide +kernel
theorem dX12_handledBy_3 : decode cX12_handledBy 3 = .ok (.istore 4, 2) := by decide +kernel
theorem dX12_handledBy_5 : decode cX12_handledBy 5 = .ok (.iload 4, 2) := by decide +kernel
theorem dX12_handledBy_7 : decode cX12_handledBy 7 = .ok (.iconst 4, 1) := by decide +kernel
theorem dX12_handledBy_8 : decode cX12_handledBy 8 = .ok (.if_icmp .ge 69, 3) := by decide +kernel
theorem dX12_handledBy_11 : decode cX12_handledBy 11 = .ok (.iconst 0, 1) := by decide +kernel
theorem dX12_handledBy_12 : decode cX12_handledBy 12 = .ok (.istore 5, 2) := by decide +kernel
theorem dX12_handledBy_14 : decode cX12_handledBy 14 = .ok (.iload 5, 2) := by decide +kernel
theorem dX12_handledBy_16 : decode cX12_handledBy 16 = .ok (.aload_n 0, 1) := by decide +kernel
theorem dX12_handledBy_17 : decode cX12_handledBy 17 = .ok (.invokevirtual 98, 3) := by decide +kernel
theorem dX12_handledBy_20 : decode cX12_handledBy 20 = .ok (.if_icmp .ge 51, 3) := by decide +kernel
theorem dX12_handledBy_23 : decode cX12_handledBy 23 = .ok (.iload_n 3, 1) := by decide +kernel
theorem dX12_handledBy_24 : decode cX12_handledBy 24 = .ok (.aload_n 0, 1) := by decide +kernel
theorem dX12_handledBy_25 : decode cX12_handledBy 25 = .ok (.getfield 22, 3) := by decide +kernel
theorem dX12_handledBy_28 : decode cX12_handledBy 28 = .ok (.iconst 4, 1) := by decide +kernel
theorem dX12_handledBy_29 : decode cX12_handledBy 29 = .ok (.iload_n 1, 1) := by decide +kernel
theorem dX12_handledBy_30 : decode cX12_handledBy 30 = .ok (.imul, 1) := by decide +kernel
theorem dX12_handledBy_31 : decode cX12_handledBy 31 = .ok (.iload 4, 2) := by decide +kernel
theorem dX12_handledBy_33 : decode cX12_handledBy 33 = .ok (.iadd, 1) := by decide +kernel
theorem dX12_handledBy_34 : decode cX12_handledBy 34 = .ok (.laload, 1) := by decide +kernel
theorem dX12_handledBy_35 : decode cX12_handledBy 35 = .ok (.iload 5, 2) := by decide +kernel
theorem dX12_handledBy_37 : decode cX12_handledBy 37 = .ok (.lshr, 1) := by decide +kernel
theorem dX12_handledBy_38 : decode cX12_handledBy 38 = .ok (.lconst 1, 1) := by decide +kernel
theorem dX12_handledBy_39 : decode cX12_handledBy 39 = .ok (.land, 1) := by decide +kernel
theorem dX12_handledBy_40 : decode cX12_handledBy 40 = .ok (.lconst 1, 1) := by decide +kernel
theorem dX12_handledBy_41 : decode cX12_handledBy 41 = .ok (.lcmp, 1) := by decide +kernel
theorem dX12_handledBy_42 : decode cX12_handledBy 42 = .ok (.ifCond .ne 20, 3) := by decide +kernel
theorem dX12_handledBy_45 : decode cX12_handledBy 45 = .ok (.aload_n 0, 1) := by decide +kernel
theorem dX12_handledBy_46 : decode cX12_handledBy 46 = .ok (.iload_n 1, 1) := by decide +kernel
theorem dX12_handledBy_47 : decode cX12_handledBy 47 = .ok (.iload 4, 2) := by decide +kernel
theorem dX12_handledBy_49 : decode cX12_handledBy 49 = .ok (.iload 5, 2) := by decide +kernel
theorem dX12_handledBy_51 : decode cX12_handledBy 51 = .ok (.invokevirtual 150, 3) := by decide +kernel
theorem dX12_handledBy_54 : decode cX12_handledBy 54 = .ok (.iload_n 2, 1) := by decide +kernel
theorem dX12_handledBy_55 : decode cX12_handledBy 55 = .ok (.if_icmp .ne 7, 3) := by decide +kernel
theorem dX12_handledBy_58 : decode cX12_handledBy 58 = .ok (.iconst 1, 1) := by decide +kernel
theorem dX12_handledBy_59 : decode cX12_handledBy 59 = .ok (.goto 4, 3) := by decide +kernel
theorem dX12_handledBy_62 : decode cX12_handledBy 62 = .ok (.iconst 0, 1) := by decide +kernel
theorem dX12_handledBy_63 : decode cX12_handledBy 63 = .ok (.iadd, 1) := by decide +kernel
theorem dX12_handledBy_64 : decode cX12_handledBy 64 = .ok (.istore_n 3, 1) := by decide +kernel
theorem dX12_handledBy_65 : decode cX12_handledBy 65 = .ok (.iinc 5 1, 3) := by decide +kernel
theorem dX12_handledBy_68 : decode cX12_handledBy 68 = .ok (.goto (-54), 3) := by decide +kernel
theorem dX12_handledBy_71 : decode cX12_handledBy 71 = .ok (.iinc 4 1, 3) := by decide +kernel
theorem dX12_handledBy_74 : decode cX12_handledBy 74 = .ok (.goto (-69), 3) := by decide +kernel
theorem dX12_handledBy_77 : decode cX12_handledBy 77 = .ok (.iload_n 3, 1) := by decide +kernel
theorem dX12_handledBy_78 : decode cX12_handledBy 78 = .ok (.ireturn, 1) := by decide +kernel
theorem dX12_arrivals_0 : decode cX12_arrivals 0 = .ok (.iload_n 1, 1) := by decide +kernel
theorem dX12_arrivals_1 : decode cX12_arrivals 1 = .ok (.invokestatic 102, 3) := by decide +kernel
theorem dX12_arrivals_4 : decode cX12_arrivals 4 = .ok (.ifCond .eq 5, 3) := by decide +kernel
theorem dX12_arrivals_7 : decode cX12_arrivals 7 = .ok (.iconst (-1), 1) := by decide +kernel
theorem dX12_arrivals_8 : decode cX12_arrivals 8 = .ok (.ireturn, 1) := by decide +kernel
theorem dX12_arrivals_9 : decode cX12_arrivals 9 = .ok (.iload_n 2, 1) := by decide +kernel
theorem dX12_arrivals_10 : decode cX12_arrivals 10 = .ok (.iconst 0, 1) := by decide +kernel
theorem dX12_arrivals_11 : decode cX12_arrivals 11 = .ok (.iconst 2, 1) := by decide +kernel
theorem dX12_arrivals_12 : decode cX12_arrivals 12 = .ok (.invokestatic 94, 3) := by decide +kernel
theorem dX12_arrivals_15 : decode cX12_arrivals 15 = .ok (.ifCond .ne 6, 3) := by decide +kernel
theorem dX12_arrivals_18 : decode cX12_arrivals 18 = .ok (.bipush (-3), 2) := by decide +kernel
theorem dX12_arrivals_20 : decode cX12_arrivals 20 = .ok (.ireturn, 1) := by decide +kernel
theorem dX12_arrivals_21 : decode cX12_arrivals 21 = .ok (.aload_n 0, 1) := by decide +kernel
theorem dX12_arrivals_22 : decode cX12_arrivals 22 = .ok (.invokevirtual 179, 3) := by decide +kernel
theorem dX12_arrivals_25 : decode cX12_arrivals 25 = .ok (.aload_n 0, 1) := by decide +kernel
theorem dX12_arrivals_26 : decode cX12_arrivals 26 = .ok (.iload_n 1, 1) := by decide +kernel
theorem dX12_arrivals_27 : decode cX12_arrivals 27 = .ok (.iconst (-1), 1) := by decide +kernel
theorem dX12_arrivals_28 : decode cX12_arrivals 28 = .ok (.invokevirtual 182, 3) := by decide +kernel
theorem dX12_arrivals_31 : decode cX12_arrivals 31 = .ok (.istore_n 3, 1) := by decide +kernel
theorem dX12_arrivals_32 : decode cX12_arrivals 32 = .ok (.iload_n 2, 1) := by decide +kernel
theorem dX12_arrivals_33 : decode cX12_arrivals 33 = .ok (.iconst 2, 1) := by decide +kernel
theorem dX12_arrivals_34 : decode cX12_arrivals 34 = .ok (.if_icmp .ne 5, 3) := by decide +kernel
theorem dX12_arrivals_37 : decode cX12_arrivals 37 = .ok (.iload_n 3, 1) := by decide +kernel
theorem dX12_arrivals_38 : decode cX12_arrivals 38 = .ok (.ireturn, 1) := by decide +kernel
theorem dX12_arrivals_39 : decode cX12_arrivals 39 = .ok (.iload_n 2, 1) := by decide +kernel
theorem dX12_arrivals_40 : decode cX12_arrivals 40 = .ok (.ifCond .ne 7, 3) := by decide +kernel
theorem dX12_arrivals_43 : decode cX12_arrivals 43 = .ok (.iload_n 3, 1) := by decide +kernel
theorem dX12_arrivals_44 : decode cX12_arrivals 44 = .ok (.goto 4, 3) := by decide +kernel
theorem dX12_arrivals_47 : decode cX12_arrivals 47 = .ok (.iconst 0, 1) := by decide +kernel
theorem dX12_arrivals_48 : decode cX12_arrivals 48 = .ok (.istore 4, 2) := by decide +kernel
theorem dX12_arrivals_50 : decode cX12_arrivals 50 = .ok (.iconst 0, 1) := by decide +kernel
theorem dX12_arrivals_51 : decode cX12_arrivals 51 = .ok (.istore 5, 2) := by decide +kernel
theorem dX12_arrivals_53 : decode cX12_arrivals 53 = .ok (.iload 5, 2) := by decide +kernel
theorem dX12_arrivals_55 : decode cX12_arrivals 55 = .ok (.aload_n 0, 1) := by decide +kernel
theorem dX12_arrivals_56 : decode cX12_arrivals 56 = .ok (.iload_n 1, 1) := by decide +kernel
theorem dX12_arrivals_57 : decode cX12_arrivals 57 = .ok (.invokevirtual 110, 3) := by decide +kernel
theorem dX12_arrivals_60 : decode cX12_arrivals 60 = .ok (.if_icmp .ge 40, 3) := by decide +kernel
theorem dX12_arrivals_63 : decode cX12_arrivals 63 = .ok (.iload 4, 2) := by decide +kernel
theorem dX12_arrivals_65 : decode cX12_arrivals 65 = .ok (.iload_n 2, 1) := by decide +kernel
theorem dX12_arrivals_66 : decode cX12_arrivals 66 = .ok (.ifCond .eq 14, 3) := by decide +kernel
theorem dX12_arrivals_69 : decode cX12_arrivals 69 = .ok (.aload_n 0, 1) := by decide +kernel
theorem dX12_arrivals_70 : decode cX12_arrivals 70 = .ok (.iload_n 1, 1) := by decide +kernel
theorem dX12_arrivals_71 : decode cX12_arrivals 71 = .ok (.iload 5, 2) := by decide +kernel
theorem dX12_arrivals_73 : decode cX12_arrivals 73 = .ok (.iconst 3, 1) := by decide +kernel
theorem dX12_arrivals_74 : decode cX12_arrivals 74 = .ok (.invokevirtual 114, 3) := by decide +kernel
theorem dX12_arrivals_77 : decode cX12_arrivals 77 = .ok (.ifCond .ne 13, 3) := by decide +kernel
theorem dX12_arrivals_80 : decode cX12_arrivals 80 = .ok (.aload_n 0, 1) := by decide +kernel
theorem dX12_arrivals_81 : decode cX12_arrivals 81 = .ok (.iload_n 1, 1) := by decide +kernel
theorem dX12_arrivals_82 : decode cX12_arrivals 82 = .ok (.iload 5, 2) := by decide +kernel
theorem dX12_arrivals_84 : decode cX12_arrivals 84 = .ok (.invokevirtual 182, 3) := by decide +kernel
theorem dX12_arrivals_87 : decode cX12_arrivals 87 = .ok (.goto 4, 3) := by decide +kernel
theorem dX12_arrivals_90 : decode cX12_arrivals 90 = .ok (.iconst 0, 1) := by decide +kernel
theorem dX12_arrivals_91 : decode cX12_arrivals 91 = .ok (.iadd, 1) := by decide +kernel
theorem dX12_arrivals_92 : decode cX12_arrivals 92 = .ok (.istore 4, 2) := by decide +kernel
theorem dX12_arrivals_94 : decode cX12_arrivals 94 = .ok (.iinc 5 1, 3) := by decide +kernel
theorem dX12_arrivals_97 : decode cX12_arrivals 97 = .ok (.goto (-44), 3) := by decide +kernel
theorem dX12_arrivals_100 : decode cX12_arrivals 100 = .ok (.iload 4, 2) := by decide +kernel
theorem dX12_arrivals_102 : decode cX12_arrivals 102 = .ok (.ireturn, 1) := by decide +kernel
theorem dX12_hits_0 : decode cX12_hits 0 = .ok (.aload_n 0, 1) := by decide +kernel
theorem dX12_hits_1 : decode cX12_hits 1 = .ok (.iload_n 1, 1) := by decide +kernel
theorem dX12_hits_2 : decode cX12_hits 2 = .ok (.iload_n 2, 1) := by decide +kernel
theorem dX12_hits_3 : decode cX12_hits 3 = .ok (.invokevirtual 139, 3) := by decide +kernel
theorem dX12_hits_6 : decode cX12_hits 6 = .ok (.istore_n 3, 1) := by decide +kernel
theorem dX12_hits_7 : decode cX12_hits 7 = .ok (.iload_n 3, 1) := by decide +kernel
theorem dX12_hits_8 : decode cX12_hits 8 = .ok (.ifCond .ge 5, 3) := by decide +kernel
theorem dX12_hits_11 : decode cX12_hits 11 = .ok (.iload_n 3, 1) := by decide +kernel
theorem dX12_hits_12 : decode cX12_hits 12 = .ok (.ireturn, 1) := by decide +kernel
theorem dX12_hits_13 : decode cX12_hits 13 = .ok (.aload_n 0, 1) := by decide +kernel
theorem dX12_hits_14 : decode cX12_hits 14 = .ok (.invokevirtual 179, 3) := by decide +kernel
theorem dX12_hits_17 : decode cX12_hits 17 = .ok (.aload_n 0, 1) := by decide +kernel
theorem dX12_hits_18 : decode cX12_hits 18 = .ok (.iload_n 1, 1) := by decide +kernel
theorem dX12_hits_19 : decode cX12_hits 19 = .ok (.iload_n 2, 1) := by decide +kernel
theorem dX12_hits_20 : decode cX12_hits 20 = .ok (.invokevirtual 182, 3) := by decide +kernel
theorem dX12_hits_23 : decode cX12_hits 23 = .ok (.ireturn, 1) := by decide +kernel
theorem dX12_cubeOf_0 : decode cX12_cubeOf 0 = .ok (.lconst 0, 1) := by decide +kernel
theorem dX12_cubeOf_1 : decode cX12_cubeOf 1 = .ok (.lstore_n 3, 1) := by decide +kernel
theorem dX12_cubeOf_2 : decode cX12_cubeOf 2 = .ok (.iconst 0, 1) := by decide +kernel
theorem dX12_cubeOf_3 : decode cX12_cubeOf 3 = .ok (.istore 5, 2) := by decide +kernel
theorem dX12_cubeOf_5 : decode cX12_cubeOf 5 = .ok (.iload 5, 2) := by decide +kernel
theorem dX12_cubeOf_7 : decode cX12_cubeOf 7 = .ok (.aload_n 0, 1) := by decide +kernel
theorem dX12_cubeOf_8 : decode cX12_cubeOf 8 = .ok (.invokevirtual 98, 3) := by decide +kernel
theorem dX12_cubeOf_11 : decode cX12_cubeOf 11 = .ok (.if_icmp .ge 30, 3) := by decide +kernel
theorem dX12_cubeOf_14 : decode cX12_cubeOf 14 = .ok (.lload_n 3, 1) := by decide +kernel
theorem dX12_cubeOf_15 : decode cX12_cubeOf 15 = .ok (.iload 5, 2) := by decide +kernel
theorem dX12_cubeOf_17 : decode cX12_cubeOf 17 = .ok (.iload_n 1, 1) := by decide +kernel
theorem dX12_cubeOf_18 : decode cX12_cubeOf 18 = .ok (.iand, 1) := by decide +kernel
theorem dX12_cubeOf_19 : decode cX12_cubeOf 19 = .ok (.iload_n 2, 1) := by decide +kernel
theorem dX12_cubeOf_20 : decode cX12_cubeOf 20 = .ok (.iload_n 1, 1) := by decide +kernel
theorem dX12_cubeOf_21 : decode cX12_cubeOf 21 = .ok (.iand, 1) := by decide +kernel
theorem dX12_cubeOf_22 : decode cX12_cubeOf 22 = .ok (.if_icmp .ne 10, 3) := by decide +kernel
theorem dX12_cubeOf_25 : decode cX12_cubeOf 25 = .ok (.lconst 1, 1) := by decide +kernel
theorem dX12_cubeOf_26 : decode cX12_cubeOf 26 = .ok (.iload 5, 2) := by decide +kernel
theorem dX12_cubeOf_28 : decode cX12_cubeOf 28 = .ok (.lshl, 1) := by decide +kernel
theorem dX12_cubeOf_29 : decode cX12_cubeOf 29 = .ok (.goto 4, 3) := by decide +kernel
theorem dX12_cubeOf_32 : decode cX12_cubeOf 32 = .ok (.lconst 0, 1) := by decide +kernel
theorem dX12_cubeOf_33 : decode cX12_cubeOf 33 = .ok (.lor, 1) := by decide +kernel
theorem dX12_cubeOf_34 : decode cX12_cubeOf 34 = .ok (.lstore_n 3, 1) := by decide +kernel
theorem dX12_cubeOf_35 : decode cX12_cubeOf 35 = .ok (.iinc 5 1, 3) := by decide +kernel
theorem dX12_cubeOf_38 : decode cX12_cubeOf 38 = .ok (.goto (-33), 3) := by decide +kernel
theorem dX12_cubeOf_41 : decode cX12_cubeOf 41 = .ok (.lload_n 3, 1) := by decide +kernel
theorem dX12_cubeOf_42 : decode cX12_cubeOf 42 = .ok (.lreturn, 1) := by decide +kernel
theorem dX12_cube_0 : decode cX12_cube 0 = .ok (.iload_n 1, 1) := by decide +kernel
theorem dX12_cube_1 : decode cX12_cube 1 = .ok (.iload_n 2, 1) := by decide +kernel
theorem dX12_cube_2 : decode cX12_cube 2 = .ok (.invokestatic 106, 3) := by decide +kernel
theorem dX12_cube_5 : decode cX12_cube 5 = .ok (.ifCond .eq 5, 3) := by decide +kernel
theorem dX12_cube_8 : decode cX12_cube 8 = .ok (.iconst (-1), 1) := by decide +kernel
theorem dX12_cube_9 : decode cX12_cube 9 = .ok (.ireturn, 1) := by decide +kernel
theorem dX12_cube_10 : decode cX12_cube 10 = .ok (.iload_n 3, 1) := by decide +kernel
theorem dX12_cube_11 : decode cX12_cube 11 = .ok (.ifCond .lt 13, 3) := by decide +kernel
theorem dX12_cube_14 : decode cX12_cube 14 = .ok (.iload 4, 2) := by decide +kernel
theorem dX12_cube_16 : decode cX12_cube 16 = .ok (.iconst 0, 1) := by decide +kernel
theorem dX12_cube_17 : decode cX12_cube 17 = .ok (.iconst 1, 1) := by decide +kernel
theorem dX12_cube_18 : decode cX12_cube 18 = .ok (.invokestatic 94, 3) := by decide +kernel
theorem dX12_cube_21 : decode cX12_cube 21 = .ok (.ifCond .ne 6, 3) := by decide +kernel
theorem dX12_cube_24 : decode cX12_cube 24 = .ok (.bipush (-3), 2) := by decide +kernel
theorem dX12_cube_26 : decode cX12_cube 26 = .ok (.ireturn, 1) := by decide +kernel
theorem dX12_cube_27 : decode cX12_cube 27 = .ok (.aload_n 0, 1) := by decide +kernel
theorem dX12_cube_28 : decode cX12_cube 28 = .ok (.invokevirtual 179, 3) := by decide +kernel
theorem dX12_cube_31 : decode cX12_cube 31 = .ok (.aload_n 0, 1) := by decide +kernel
theorem dX12_cube_32 : decode cX12_cube 32 = .ok (.getfield 22, 3) := by decide +kernel
theorem dX12_cube_35 : decode cX12_cube 35 = .ok (.iconst 4, 1) := by decide +kernel
theorem dX12_cube_36 : decode cX12_cube 36 = .ok (.iload_n 1, 1) := by decide +kernel
theorem dX12_cube_37 : decode cX12_cube 37 = .ok (.imul, 1) := by decide +kernel
theorem dX12_cube_38 : decode cX12_cube 38 = .ok (.iload_n 2, 1) := by decide +kernel
theorem dX12_cube_39 : decode cX12_cube 39 = .ok (.iadd, 1) := by decide +kernel
theorem dX12_cube_40 : decode cX12_cube 40 = .ok (.laload, 1) := by decide +kernel
theorem dX12_cube_41 : decode cX12_cube 41 = .ok (.lstore 5, 2) := by decide +kernel
theorem dX12_cube_43 : decode cX12_cube 43 = .ok (.lload 5, 2) := by decide +kernel
theorem dX12_cube_45 : decode cX12_cube 45 = .ok (.lstore 7, 2) := by decide +kernel
theorem dX12_cube_47 : decode cX12_cube 47 = .ok (.iconst 0, 1) := by decide +kernel
theorem dX12_cube_48 : decode cX12_cube 48 = .ok (.istore 9, 2) := by decide +kernel
theorem dX12_cube_50 : decode cX12_cube 50 = .ok (.lload 7, 2) := by decide +kernel
theorem dX12_cube_52 : decode cX12_cube 52 = .ok (.lconst 0, 1) := by decide +kernel
theorem dX12_cube_53 : decode cX12_cube 53 = .ok (.lcmp, 1) := by decide +kernel
theorem dX12_cube_54 : decode cX12_cube 54 = .ok (.ifCond .eq 138, 3) := by decide +kernel
theorem dX12_cube_57 : decode cX12_cube 57 = .ok (.iconst 0, 1) := by decide +kernel
theorem dX12_cube_58 : decode cX12_cube 58 = .ok (.istore 10, 2) := by decide +kernel
theorem dX12_cube_60 : decode cX12_cube 60 = .ok (.lload 7, 2) := by decide +kernel
theorem dX12_cube_62 : decode cX12_cube 62 = .ok (.iload 10, 2) := by decide +kernel
theorem dX12_cube_64 : decode cX12_cube 64 = .ok (.lshr, 1) := by decide +kernel
theorem dX12_cube_65 : decode cX12_cube 65 = .ok (.lconst 1, 1) := by decide +kernel
theorem dX12_cube_66 : decode cX12_cube 66 = .ok (.land, 1) := by decide +kernel
theorem dX12_cube_67 : decode cX12_cube 67 = .ok (.lconst 0, 1) := by decide +kernel
theorem dX12_cube_68 : decode cX12_cube 68 = .ok (.lcmp, 1) := by decide +kernel
theorem dX12_cube_69 : decode cX12_cube 69 = .ok (.ifCond .ne 9, 3) := by decide +kernel
theorem dX12_cube_72 : decode cX12_cube 72 = .ok (.iinc 10 1, 3) := by decide +kernel
theorem dX12_cube_75 : decode cX12_cube 75 = .ok (.goto (-15), 3) := by decide +kernel
theorem dX12_cube_78 : decode cX12_cube 78 = .ok (.aload_n 0, 1) := by decide +kernel
theorem dX12_cube_79 : decode cX12_cube 79 = .ok (.invokevirtual 98, 3) := by decide +kernel
theorem dX12_cube_82 : decode cX12_cube 82 = .ok (.iconst 1, 1) := by decide +kernel
theorem dX12_cube_83 : decode cX12_cube 83 = .ok (.isub, 1) := by decide +kernel
theorem dX12_cube_84 : decode cX12_cube 84 = .ok (.istore 11, 2) := by decide +kernel
theorem dX12_cube_86 : decode cX12_cube 86 = .ok (.iconst 0, 1) := by decide +kernel
theorem dX12_cube_87 : decode cX12_cube 87 = .ok (.istore 12, 2) := by decide +kernel
theorem dX12_cube_89 : decode cX12_cube 89 = .ok (.iload 12, 2) := by decide +kernel
theorem dX12_cube_91 : decode cX12_cube 91 = .ok (.aload_n 0, 1) := by decide +kernel
theorem dX12_cube_92 : decode cX12_cube 92 = .ok (.getfield 67, 3) := by decide +kernel
theorem dX12_cube_95 : decode cX12_cube 95 = .ok (.if_icmp .ge 52, 3) := by decide +kernel
theorem dX12_cube_98 : decode cX12_cube 98 = .ok (.aload_n 0, 1) := by decide +kernel
theorem dX12_cube_99 : decode cX12_cube 99 = .ok (.iload 11, 2) := by decide +kernel
theorem dX12_cube_101 : decode cX12_cube 101 = .ok (.iconst 1, 1) := by decide +kernel
theorem dX12_cube_102 : decode cX12_cube 102 = .ok (.iload 12, 2) := by decide +kernel
theorem dX12_cube_104 : decode cX12_cube 104 = .ok (.ishl, 1) := by decide +kernel
theorem dX12_cube_105 : decode cX12_cube 105 = .ok (.iconst (-1), 1) := by decide +kernel
theorem dX12_cube_106 : decode cX12_cube 106 = .ok (.ixor, 1) := by decide +kernel
theorem dX12_cube_107 : decode cX12_cube 107 = .ok (.iand, 1) := by decide +kernel
theorem dX12_cube_108 : decode cX12_cube 108 = .ok (.iload 10, 2) := by decide +kernel
theorem dX12_cube_110 : decode cX12_cube 110 = .ok (.invokevirtual 185, 3) := by decide +kernel
theorem dX12_cube_113 : decode cX12_cube 113 = .ok (.lload 5, 2) := by decide +kernel
theorem dX12_cube_115 : decode cX12_cube 115 = .ok (.ldc2_w 159, 3) := by decide +kernel
theorem dX12_cube_118 : decode cX12_cube 118 = .ok (.lxor, 1) := by decide +kernel
theorem dX12_cube_119 : decode cX12_cube 119 = .ok (.land, 1) := by decide +kernel
theorem dX12_cube_120 : decode cX12_cube 120 = .ok (.lconst 0, 1) := by decide +kernel
theorem dX12_cube_121 : decode cX12_cube 121 = .ok (.lcmp, 1) := by decide +kernel
theorem dX12_cube_122 : decode cX12_cube 122 = .ok (.ifCond .ne 15, 3) := by decide +kernel
theorem dX12_cube_125 : decode cX12_cube 125 = .ok (.iload 11, 2) := by decide +kernel
theorem dX12_cube_127 : decode cX12_cube 127 = .ok (.iconst 1, 1) := by decide +kernel
theorem dX12_cube_128 : decode cX12_cube 128 = .ok (.iload 12, 2) := by decide +kernel
theorem dX12_cube_130 : decode cX12_cube 130 = .ok (.ishl, 1) := by decide +kernel
theorem dX12_cube_131 : decode cX12_cube 131 = .ok (.iconst (-1), 1) := by decide +kernel
theorem dX12_cube_132 : decode cX12_cube 132 = .ok (.ixor, 1) := by decide +kernel
theorem dX12_cube_133 : decode cX12_cube 133 = .ok (.iand, 1) := by decide +kernel
theorem dX12_cube_134 : decode cX12_cube 134 = .ok (.goto 5, 3) := by decide +kernel
theorem dX12_cube_137 : decode cX12_cube 137 = .ok (.iload 11, 2) := by decide +kernel
theorem dX12_cube_139 : decode cX12_cube 139 = .ok (.istore 11, 2) := by decide +kernel
theorem dX12_cube_141 : decode cX12_cube 141 = .ok (.iinc 12 1, 3) := by decide +kernel
theorem dX12_cube_144 : decode cX12_cube 144 = .ok (.goto (-55), 3) := by decide +kernel
theorem dX12_cube_147 : decode cX12_cube 147 = .ok (.iload 9, 2) := by decide +kernel
theorem dX12_cube_149 : decode cX12_cube 149 = .ok (.iload_n 3, 1) := by decide +kernel
theorem dX12_cube_150 : decode cX12_cube 150 = .ok (.if_icmp .ne 19, 3) := by decide +kernel
theorem dX12_cube_153 : decode cX12_cube 153 = .ok (.iload 4, 2) := by decide +kernel
theorem dX12_cube_155 : decode cX12_cube 155 = .ok (.ifCond .ne 8, 3) := by decide +kernel
theorem dX12_cube_158 : decode cX12_cube 158 = .ok (.iload 11, 2) := by decide +kernel
theorem dX12_cube_160 : decode cX12_cube 160 = .ok (.goto 8, 3) := by decide +kernel
theorem dX12_cube_163 : decode cX12_cube 163 = .ok (.iload 10, 2) := by decide +kernel
theorem dX12_cube_165 : decode cX12_cube 165 = .ok (.iload 11, 2) := by decide +kernel
theorem dX12_cube_167 : decode cX12_cube 167 = .ok (.iand, 1) := by decide +kernel
theorem dX12_cube_168 : decode cX12_cube 168 = .ok (.ireturn, 1) := by decide +kernel
theorem dX12_cube_169 : decode cX12_cube 169 = .ok (.lload 7, 2) := by decide +kernel
theorem dX12_cube_171 : decode cX12_cube 171 = .ok (.aload_n 0, 1) := by decide +kernel
theorem dX12_cube_172 : decode cX12_cube 172 = .ok (.iload 11, 2) := by decide +kernel
theorem dX12_cube_174 : decode cX12_cube 174 = .ok (.iload 10, 2) := by decide +kernel
theorem dX12_cube_176 : decode cX12_cube 176 = .ok (.invokevirtual 185, 3) := by decide +kernel
theorem dX12_cube_179 : decode cX12_cube 179 = .ok (.ldc2_w 159, 3) := by decide +kernel
theorem dX12_cube_182 : decode cX12_cube 182 = .ok (.lxor, 1) := by decide +kernel
theorem dX12_cube_183 : decode cX12_cube 183 = .ok (.land, 1) := by decide +kernel
theorem dX12_cube_184 : decode cX12_cube 184 = .ok (.lstore 7, 2) := by decide +kernel
theorem dX12_cube_186 : decode cX12_cube 186 = .ok (.iinc 9 1, 3) := by decide +kernel
theorem dX12_cube_189 : decode cX12_cube 189 = .ok (.goto (-139), 3) := by decide +kernel
theorem dX12_cube_192 : decode cX12_cube 192 = .ok (.bipush (-6), 2) := by decide +kernel
theorem dX12_cube_194 : decode cX12_cube 194 = .ok (.ireturn, 1) := by decide +kernel
theorem dX12_origin_0 : decode cX12_origin 0 = .ok (.iload_n 1, 1) := by decide +kernel
theorem dX12_origin_1 : decode cX12_origin 1 = .ok (.iload_n 2, 1) := by decide +kernel
theorem dX12_origin_2 : decode cX12_origin 2 = .ok (.invokestatic 106, 3) := by decide +kernel
theorem dX12_origin_5 : decode cX12_origin 5 = .ok (.ifCond .eq 5, 3) := by decide +kernel
theorem dX12_origin_8 : decode cX12_origin 8 = .ok (.iconst (-1), 1) := by decide +kernel
theorem dX12_origin_9 : decode cX12_origin 9 = .ok (.ireturn, 1) := by decide +kernel
theorem dX12_origin_10 : decode cX12_origin 10 = .ok (.aload_n 0, 1) := by decide +kernel
theorem dX12_origin_11 : decode cX12_origin 11 = .ok (.iload_n 3, 1) := by decide +kernel
theorem dX12_origin_12 : decode cX12_origin 12 = .ok (.invokevirtual 122, 3) := by decide +kernel
theorem dX12_origin_15 : decode cX12_origin 15 = .ok (.ifCond .eq 6, 3) := by decide +kernel
theorem dX12_origin_18 : decode cX12_origin 18 = .ok (.bipush (-3), 2) := by decide +kernel
theorem dX12_origin_20 : decode cX12_origin 20 = .ok (.ireturn, 1) := by decide +kernel
theorem dX12_origin_21 : decode cX12_origin 21 = .ok (.iconst 0, 1) := by decide +kernel
theorem dX12_origin_22 : decode cX12_origin 22 = .ok (.istore 4, 2) := by decide +kernel
theorem dX12_origin_24 : decode cX12_origin 24 = .ok (.iload 4, 2) := by decide +kernel
theorem dX12_origin_26 : decode cX12_origin 26 = .ok (.aload_n 0, 1) := by decide +kernel
theorem dX12_origin_27 : decode cX12_origin 27 = .ok (.invokevirtual 98, 3) := by decide +kernel
theorem dX12_origin_30 : decode cX12_origin 30 = .ok (.if_icmp .ge 52, 3) := by decide +kernel
theorem dX12_origin_33 : decode cX12_origin 33 = .ok (.aload_n 0, 1) := by decide +kernel
theorem dX12_origin_34 : decode cX12_origin 34 = .ok (.iload 4, 2) := by decide +kernel
theorem dX12_origin_36 : decode cX12_origin 36 = .ok (.invokevirtual 153, 3) := by decide +kernel
theorem dX12_origin_39 : decode cX12_origin 39 = .ok (.ifCond .eq 37, 3) := by decide +kernel
theorem dX12_origin_42 : decode cX12_origin 42 = .ok (.aload_n 0, 1) := by decide +kernel
theorem dX12_origin_43 : decode cX12_origin 43 = .ok (.aload_n 0, 1) := by decide +kernel
theorem dX12_origin_44 : decode cX12_origin 44 = .ok (.getfield 79, 3) := by decide +kernel
theorem dX12_origin_47 : decode cX12_origin 47 = .ok (.lconst 1, 1) := by decide +kernel
theorem dX12_origin_48 : decode cX12_origin 48 = .ok (.iload 4, 2) := by decide +kernel
theorem dX12_origin_50 : decode cX12_origin 50 = .ok (.lshl, 1) := by decide +kernel
theorem dX12_origin_51 : decode cX12_origin 51 = .ok (.invokevirtual 168, 3) := by decide +kernel
theorem dX12_origin_54 : decode cX12_origin 54 = .ok (.aload_n 0, 1) := by decide +kernel
theorem dX12_origin_55 : decode cX12_origin 55 = .ok (.getfield 22, 3) := by decide +kernel
theorem dX12_origin_58 : decode cX12_origin 58 = .ok (.iconst 4, 1) := by decide +kernel
theorem dX12_origin_59 : decode cX12_origin 59 = .ok (.iload_n 1, 1) := by decide +kernel
theorem dX12_origin_60 : decode cX12_origin 60 = .ok (.imul, 1) := by decide +kernel
theorem dX12_origin_61 : decode cX12_origin 61 = .ok (.iload_n 2, 1) := by decide +kernel
theorem dX12_origin_62 : decode cX12_origin 62 = .ok (.iadd, 1) := by decide +kernel
theorem dX12_origin_63 : decode cX12_origin 63 = .ok (.laload, 1) := by decide +kernel
theorem dX12_origin_64 : decode cX12_origin 64 = .ok (.iload_n 3, 1) := by decide +kernel
theorem dX12_origin_65 : decode cX12_origin 65 = .ok (.lshr, 1) := by decide +kernel
theorem dX12_origin_66 : decode cX12_origin 66 = .ok (.lconst 1, 1) := by decide +kernel
theorem dX12_origin_67 : decode cX12_origin 67 = .ok (.land, 1) := by decide +kernel
theorem dX12_origin_68 : decode cX12_origin 68 = .ok (.lconst 1, 1) := by decide +kernel
theorem dX12_origin_69 : decode cX12_origin 69 = .ok (.lcmp, 1) := by decide +kernel
theorem dX12_origin_70 : decode cX12_origin 70 = .ok (.ifCond .ne 6, 3) := by decide +kernel
theorem dX12_origin_73 : decode cX12_origin 73 = .ok (.iload 4, 2) := by decide +kernel
theorem dX12_origin_75 : decode cX12_origin 75 = .ok (.ireturn, 1) := by decide +kernel
theorem dX12_origin_76 : decode cX12_origin 76 = .ok (.iinc 4 1, 3) := by decide +kernel
theorem dX12_origin_79 : decode cX12_origin 79 = .ok (.goto (-55), 3) := by decide +kernel
theorem dX12_origin_82 : decode cX12_origin 82 = .ok (.bipush (-6), 2) := by decide +kernel
theorem dX12_origin_84 : decode cX12_origin 84 = .ok (.ireturn, 1) := by decide +kernel
theorem dX12_distance_0 : decode cX12_distance 0 = .ok (.aload_n 0, 1) := by decide +kernel
theorem dX12_distance_1 : decode cX12_distance 1 = .ok (.iload_n 1, 1) := by decide +kernel
theorem dX12_distance_2 : decode cX12_distance 2 = .ok (.invokevirtual 153, 3) := by decide +kernel
theorem dX12_distance_5 : decode cX12_distance 5 = .ok (.ifCond .ne 6, 3) := by decide +kernel
theorem dX12_distance_8 : decode cX12_distance 8 = .ok (.bipush (-3), 2) := by decide +kernel
theorem dX12_distance_10 : decode cX12_distance 10 = .ok (.ireturn, 1) := by decide +kernel
theorem dX12_distance_11 : decode cX12_distance 11 = .ok (.iload_n 2, 1) := by decide +kernel
theorem dX12_distance_12 : decode cX12_distance 12 = .ok (.iload_n 3, 1) := by decide +kernel
theorem dX12_distance_13 : decode cX12_distance 13 = .ok (.invokestatic 106, 3) := by decide +kernel
theorem dX12_distance_16 : decode cX12_distance 16 = .ok (.ifCond .eq 5, 3) := by decide +kernel
theorem dX12_distance_19 : decode cX12_distance 19 = .ok (.iconst (-1), 1) := by decide +kernel
theorem dX12_distance_20 : decode cX12_distance 20 = .ok (.ireturn, 1) := by decide +kernel
theorem dX12_distance_21 : decode cX12_distance 21 = .ok (.iconst 0, 1) := by decide +kernel
theorem dX12_distance_22 : decode cX12_distance 22 = .ok (.istore 4, 2) := by decide +kernel
theorem dX12_distance_24 : decode cX12_distance 24 = .ok (.iload 4, 2) := by decide +kernel
theorem dX12_distance_26 : decode cX12_distance 26 = .ok (.bipush 24, 2) := by decide +kernel
theorem dX12_distance_28 : decode cX12_distance 28 = .ok (.if_icmp .ge 25, 3) := by decide +kernel
theorem dX12_distance_31 : decode cX12_distance 31 = .ok (.aload_n 0, 1) := by decide +kernel
theorem dX12_distance_32 : decode cX12_distance 32 = .ok (.getfield 22, 3) := by decide +kernel
theorem dX12_distance_35 : decode cX12_distance 35 = .ok (.iload 4, 2) := by decide +kernel
theorem dX12_distance_37 : decode cX12_distance 37 = .ok (.lconst 0, 1) := by decide +kernel
theorem dX12_distance_38 : decode cX12_distance 38 = .ok (.lastore, 1) := by decide +kernel
theorem dX12_distance_39 : decode cX12_distance 39 = .ok (.aload_n 0, 1) := by decide +kernel
theorem dX12_distance_40 : decode cX12_distance 40 = .ok (.getfield 26, 3) := by decide +kernel
theorem dX12_distance_43 : decode cX12_distance 43 = .ok (.iload 4, 2) := by decide +kernel
theorem dX12_distance_45 : decode cX12_distance 45 = .ok (.lconst 0, 1) := by decide +kernel
theorem dX12_distance_46 : decode cX12_distance 46 = .ok (.lastore, 1) := by decide +kernel
theorem dX12_distance_47 : decode cX12_distance 47 = .ok (.iinc 4 1, 3) := by decide +kernel
theorem dX12_distance_50 : decode cX12_distance 50 = .ok (.goto (-26), 3) := by decide +kernel
theorem dX12_distance_53 : decode cX12_distance 53 = .ok (.aload_n 0, 1) := by decide +kernel
theorem dX12_distance_54 : decode cX12_distance 54 = .ok (.getfield 22, 3) := by decide +kernel
theorem dX12_distance_57 : decode cX12_distance 57 = .ok (.aload_n 0, 1) := by decide +kernel
theorem dX12_distance_58 : decode cX12_distance 58 = .ok (.getfield 79, 3) := by decide +kernel
theorem dX12_distance_61 : decode cX12_distance 61 = .ok (.lconst 1, 1) := by decide +kernel
theorem dX12_distance_62 : decode cX12_distance 62 = .ok (.iload_n 1, 1) := by decide +kernel
theorem dX12_distance_63 : decode cX12_distance 63 = .ok (.lshl, 1) := by decide +kernel
theorem dX12_distance_64 : decode cX12_distance 64 = .ok (.lastore, 1) := by decide +kernel
theorem dX12_distance_65 : decode cX12_distance 65 = .ok (.iconst 1, 1) := by decide +kernel
theorem dX12_distance_66 : decode cX12_distance 66 = .ok (.istore 4, 2) := by decide +kernel
theorem dX12_distance_68 : decode cX12_distance 68 = .ok (.iconst 0, 1) := by decide +kernel
theorem dX12_distance_69 : decode cX12_distance 69 = .ok (.istore 5, 2) := by decide +kernel
theorem dX12_distance_71 : decode cX12_distance 71 = .ok (.iload 4, 2) := by decide +kernel
theorem dX12_distance_73 : decode cX12_distance 73 = .ok (.ifCond .eq 172, 3) := by decide +kernel
theorem dX12_distance_76 : decode cX12_distance 76 = .ok (.aload_n 0, 1) := by decide +kernel
theorem dX12_distance_77 : decode cX12_distance 77 = .ok (.getfield 22, 3) := by decide +kernel
theorem dX12_distance_80 : decode cX12_distance 80 = .ok (.iconst 4, 1) := by decide +kernel
theorem dX12_distance_81 : decode cX12_distance 81 = .ok (.iload_n 2, 1) := by decide +kernel
theorem dX12_distance_82 : decode cX12_distance 82 = .ok (.imul, 1) := by decide +kernel
theorem dX12_distance_83 : decode cX12_distance 83 = .ok (.iload_n 3, 1) := by decide +kernel
theorem dX12_distance_84 : decode cX12_distance 84 = .ok (.iadd, 1) := by decide +kernel
theorem dX12_distance_85 : decode cX12_distance 85 = .ok (.laload, 1) := by decide +kernel
theorem dX12_distance_86 : decode cX12_distance 86 = .ok (.lconst 0, 1) := by decide +kernel
theorem dX12_distance_87 : decode cX12_distance 87 = .ok (.lcmp, 1) := by decide +kernel
theorem dX12_distance_88 : decode cX12_distance 88 = .ok (.ifCond .eq 6, 3) := by decide +kernel
theorem dX12_distance_91 : decode cX12_distance 91 = .ok (.iload 5, 2) := by decide +kernel
theorem dX12_distance_93 : decode cX12_distance 93 = .ok (.ireturn, 1) := by decide +kernel
theorem dX12_distance_94 : decode cX12_distance 94 = .ok (.iconst 0, 1) := by decide +kernel
theorem dX12_distance_95 : decode cX12_distance 95 = .ok (.istore 4, 2) := by decide +kernel
theorem dX12_distance_97 : decode cX12_distance 97 = .ok (.iconst 0, 1) := by decide +kernel
theorem dX12_distance_98 : decode cX12_distance 98 = .ok (.istore 6, 2) := by decide +kernel
theorem dX12_distance_100 : decode cX12_distance 100 = .ok (.iload 6, 2) := by decide +kernel
theorem dX12_distance_102 : decode cX12_distance 102 = .ok (.bipush 24, 2) := by decide +kernel
theorem dX12_distance_104 : decode cX12_distance 104 = .ok (.if_icmp .ge 76, 3) := by decide +kernel
theorem dX12_distance_107 : decode cX12_distance 107 = .ok (.aload_n 0, 1) := by decide +kernel
theorem dX12_distance_108 : decode cX12_distance 108 = .ok (.getfield 32, 3) := by decide +kernel
theorem dX12_distance_111 : decode cX12_distance 111 = .ok (.iload 6, 2) := by decide +kernel
theorem dX12_distance_113 : decode cX12_distance 113 = .ok (.aload_n 0, 1) := by decide +kernel
theorem dX12_distance_114 : decode cX12_distance 114 = .ok (.getfield 22, 3) := by decide +kernel
theorem dX12_distance_117 : decode cX12_distance 117 = .ok (.iload 6, 2) := by decide +kernel
theorem dX12_distance_119 : decode cX12_distance 119 = .ok (.laload, 1) := by decide +kernel
theorem dX12_distance_120 : decode cX12_distance 120 = .ok (.aload_n 0, 1) := by decide +kernel
theorem dX12_distance_121 : decode cX12_distance 121 = .ok (.getfield 26, 3) := by decide +kernel
theorem dX12_distance_124 : decode cX12_distance 124 = .ok (.iload 6, 2) := by decide +kernel
theorem dX12_distance_126 : decode cX12_distance 126 = .ok (.laload, 1) := by decide +kernel
theorem dX12_distance_127 : decode cX12_distance 127 = .ok (.ldc2_w 159, 3) := by decide +kernel
theorem dX12_distance_130 : decode cX12_distance 130 = .ok (.lxor, 1) := by decide +kernel
theorem dX12_distance_131 : decode cX12_distance 131 = .ok (.land, 1) := by decide +kernel
theorem dX12_distance_132 : decode cX12_distance 132 = .ok (.lastore, 1) := by decide +kernel
theorem dX12_distance_133 : decode cX12_distance 133 = .ok (.aload_n 0, 1) := by decide +kernel
theorem dX12_distance_134 : decode cX12_distance 134 = .ok (.getfield 26, 3) := by decide +kernel
theorem dX12_distance_137 : decode cX12_distance 137 = .ok (.iload 6, 2) := by decide +kernel
theorem dX12_distance_139 : decode cX12_distance 139 = .ok (.dup2, 1) := by decide +kernel
theorem dX12_distance_140 : decode cX12_distance 140 = .ok (.laload, 1) := by decide +kernel
theorem dX12_distance_141 : decode cX12_distance 141 = .ok (.aload_n 0, 1) := by decide +kernel
theorem dX12_distance_142 : decode cX12_distance 142 = .ok (.getfield 32, 3) := by decide +kernel
theorem dX12_distance_145 : decode cX12_distance 145 = .ok (.iload 6, 2) := by decide +kernel
theorem dX12_distance_147 : decode cX12_distance 147 = .ok (.laload, 1) := by decide +kernel
theorem dX12_distance_148 : decode cX12_distance 148 = .ok (.lor, 1) := by decide +kernel
theorem dX12_distance_149 : decode cX12_distance 149 = .ok (.lastore, 1) := by decide +kernel
theorem dX12_distance_150 : decode cX12_distance 150 = .ok (.iload 4, 2) := by decide +kernel
theorem dX12_distance_152 : decode cX12_distance 152 = .ok (.ifCond .ne 15, 3) := by decide +kernel
theorem dX12_distance_155 : decode cX12_distance 155 = .ok (.aload_n 0, 1) := by decide +kernel
theorem dX12_distance_156 : decode cX12_distance 156 = .ok (.getfield 32, 3) := by decide +kernel
theorem dX12_distance_159 : decode cX12_distance 159 = .ok (.iload 6, 2) := by decide +kernel
theorem dX12_distance_161 : decode cX12_distance 161 = .ok (.laload, 1) := by decide +kernel
theorem dX12_distance_162 : decode cX12_distance 162 = .ok (.lconst 0, 1) := by decide +kernel
theorem dX12_distance_163 : decode cX12_distance 163 = .ok (.lcmp, 1) := by decide +kernel
theorem dX12_distance_164 : decode cX12_distance 164 = .ok (.ifCond .eq 7, 3) := by decide +kernel
theorem dX12_distance_167 : decode cX12_distance 167 = .ok (.iconst 1, 1) := by decide +kernel
theorem dX12_distance_168 : decode cX12_distance 168 = .ok (.goto 4, 3) := by decide +kernel
theorem dX12_distance_171 : decode cX12_distance 171 = .ok (.iconst 0, 1) := by decide +kernel
theorem dX12_distance_172 : decode cX12_distance 172 = .ok (.istore 4, 2) := by decide +kernel
theorem dX12_distance_174 : decode cX12_distance 174 = .ok (.iinc 6 1, 3) := by decide +kernel
theorem dX12_distance_177 : decode cX12_distance 177 = .ok (.goto (-77), 3) := by decide +kernel
theorem dX12_distance_180 : decode cX12_distance 180 = .ok (.iconst 0, 1) := by decide +kernel
theorem dX12_distance_181 : decode cX12_distance 181 = .ok (.istore 6, 2) := by decide +kernel
theorem dX12_distance_183 : decode cX12_distance 183 = .ok (.iload 6, 2) := by decide +kernel
theorem dX12_distance_185 : decode cX12_distance 185 = .ok (.bipush 24, 2) := by decide +kernel
theorem dX12_distance_187 : decode cX12_distance 187 = .ok (.if_icmp .ge 52, 3) := by decide +kernel
theorem dX12_distance_190 : decode cX12_distance 190 = .ok (.iconst 0, 1) := by decide +kernel
theorem dX12_distance_191 : decode cX12_distance 191 = .ok (.istore 7, 2) := by decide +kernel
theorem dX12_distance_193 : decode cX12_distance 193 = .ok (.iload 7, 2) := by decide +kernel
theorem dX12_distance_195 : decode cX12_distance 195 = .ok (.aload_n 0, 1) := by decide +kernel
theorem dX12_distance_196 : decode cX12_distance 196 = .ok (.invokevirtual 98, 3) := by decide +kernel
theorem dX12_distance_199 : decode cX12_distance 199 = .ok (.if_icmp .ge 34, 3) := by decide +kernel
theorem dX12_distance_202 : decode cX12_distance 202 = .ok (.aload_n 0, 1) := by decide +kernel
theorem dX12_distance_203 : decode cX12_distance 203 = .ok (.getfield 32, 3) := by decide +kernel
theorem dX12_distance_206 : decode cX12_distance 206 = .ok (.iload 6, 2) := by decide +kernel
theorem dX12_distance_208 : decode cX12_distance 208 = .ok (.laload, 1) := by decide +kernel
theorem dX12_distance_209 : decode cX12_distance 209 = .ok (.iload 7, 2) := by decide +kernel
theorem dX12_distance_211 : decode cX12_distance 211 = .ok (.lshr, 1) := by decide +kernel
theorem dX12_distance_212 : decode cX12_distance 212 = .ok (.lconst 1, 1) := by decide +kernel
theorem dX12_distance_213 : decode cX12_distance 213 = .ok (.land, 1) := by decide +kernel
theorem dX12_distance_214 : decode cX12_distance 214 = .ok (.lconst 1, 1) := by decide +kernel
theorem dX12_distance_215 : decode cX12_distance 215 = .ok (.lcmp, 1) := by decide +kernel
theorem dX12_distance_216 : decode cX12_distance 216 = .ok (.ifCond .ne 11, 3) := by decide +kernel
theorem dX12_distance_219 : decode cX12_distance 219 = .ok (.aload_n 0, 1) := by decide +kernel
theorem dX12_distance_220 : decode cX12_distance 220 = .ok (.iload 6, 2) := by decide +kernel
theorem dX12_distance_222 : decode cX12_distance 222 = .ok (.iload 7, 2) := by decide +kernel
theorem dX12_distance_224 : decode cX12_distance 224 = .ok (.invokevirtual 161, 3) := by decide +kernel
theorem dX12_distance_227 : decode cX12_distance 227 = .ok (.iinc 7 1, 3) := by decide +kernel
theorem dX12_distance_230 : decode cX12_distance 230 = .ok (.goto (-37), 3) := by decide +kernel
theorem dX12_distance_233 : decode cX12_distance 233 = .ok (.iinc 6 1, 3) := by decide +kernel
theorem dX12_distance_236 : decode cX12_distance 236 = .ok (.goto (-53), 3) := by decide +kernel
theorem dX12_distance_239 : decode cX12_distance 239 = .ok (.iinc 5 1, 3) := by decide +kernel
theorem dX12_distance_242 : decode cX12_distance 242 = .ok (.goto (-171), 3) := by decide +kernel
theorem dX12_distance_245 : decode cX12_distance 245 = .ok (.bipush (-6), 2) := by decide +kernel
theorem dX12_distance_247 : decode cX12_distance 247 = .ok (.ireturn, 1) := by decide +kernel
theorem dX12_wasThere_0 : decode cX12_wasThere 0 = .ok (.iconst 0, 1) := by decide +kernel
theorem dX12_wasThere_1 : decode cX12_wasThere 1 = .ok (.istore_n 2, 1) := by decide +kernel
theorem dX12_wasThere_2 : decode cX12_wasThere 2 = .ok (.iload_n 2, 1) := by decide +kernel
theorem dX12_wasThere_3 : decode cX12_wasThere 3 = .ok (.aload_n 0, 1) := by decide +kernel
theorem dX12_wasThere_4 : decode cX12_wasThere 4 = .ok (.getfield 189, 3) := by decide +kernel
theorem dX12_wasThere_7 : decode cX12_wasThere 7 = .ok (.if_icmp .ge 21, 3) := by decide +kernel
theorem dX12_wasThere_10 : decode cX12_wasThere 10 = .ok (.aload_n 0, 1) := by decide +kernel
theorem dX12_wasThere_11 : decode cX12_wasThere 11 = .ok (.getfield 35, 3) := by decide +kernel
theorem dX12_wasThere_14 : decode cX12_wasThere 14 = .ok (.iload_n 2, 1) := by decide +kernel
theorem dX12_wasThere_15 : decode cX12_wasThere 15 = .ok (.iaload, 1) := by decide +kernel
theorem dX12_wasThere_16 : decode cX12_wasThere 16 = .ok (.iload_n 1, 1) := by decide +kernel
theorem dX12_wasThere_17 : decode cX12_wasThere 17 = .ok (.if_icmp .ne 5, 3) := by decide +kernel
theorem dX12_wasThere_20 : decode cX12_wasThere 20 = .ok (.iconst 1, 1) := by decide +kernel
theorem dX12_wasThere_21 : decode cX12_wasThere 21 = .ok (.ireturn, 1) := by decide +kernel
theorem dX12_wasThere_22 : decode cX12_wasThere 22 = .ok (.iinc 2 1, 3) := by decide +kernel
theorem dX12_wasThere_25 : decode cX12_wasThere 25 = .ok (.goto (-23), 3) := by decide +kernel
theorem dX12_wasThere_28 : decode cX12_wasThere 28 = .ok (.iconst 0, 1) := by decide +kernel
theorem dX12_wasThere_29 : decode cX12_wasThere 29 = .ok (.ireturn, 1) := by decide +kernel
theorem dX12_follow_0 : decode cX12_follow 0 = .ok (.aload_n 0, 1) := by decide +kernel
theorem dX12_follow_1 : decode cX12_follow 1 = .ok (.iconst 0, 1) := by decide +kernel
theorem dX12_follow_2 : decode cX12_follow 2 = .ok (.putfield 189, 3) := by decide +kernel
theorem dX12_follow_5 : decode cX12_follow 5 = .ok (.aload_n 0, 1) := by decide +kernel
theorem dX12_follow_6 : decode cX12_follow 6 = .ok (.getfield 79, 3) := by decide +kernel
theorem dX12_follow_9 : decode cX12_follow 9 = .ok (.istore_n 2, 1) := by decide +kernel
theorem dX12_follow_10 : decode cX12_follow 10 = .ok (.iload_n 1, 1) := by decide +kernel
theorem dX12_follow_11 : decode cX12_follow 11 = .ok (.istore_n 3, 1) := by decide +kernel
theorem dX12_follow_12 : decode cX12_follow 12 = .ok (.iconst 1, 1) := by decide +kernel
theorem dX12_follow_13 : decode cX12_follow 13 = .ok (.istore 4, 2) := by decide +kernel
theorem dX12_follow_15 : decode cX12_follow 15 = .ok (.iload 4, 2) := by decide +kernel
theorem dX12_follow_17 : decode cX12_follow 17 = .ok (.ifCond .eq 178, 3) := by decide +kernel
theorem dX12_follow_20 : decode cX12_follow 20 = .ok (.aload_n 0, 1) := by decide +kernel
theorem dX12_follow_21 : decode cX12_follow 21 = .ok (.getfield 35, 3) := by decide +kernel
theorem dX12_follow_24 : decode cX12_follow 24 = .ok (.aload_n 0, 1) := by decide +kernel
theorem dX12_follow_25 : decode cX12_follow 25 = .ok (.getfield 189, 3) := by decide +kernel
theorem dX12_follow_28 : decode cX12_follow 28 = .ok (.bipush 32, 2) := by decide +kernel
theorem dX12_follow_30 : decode cX12_follow 30 = .ok (.iload_n 2, 1) := by decide +kernel
theorem dX12_follow_31 : decode cX12_follow 31 = .ok (.imul, 1) := by decide +kernel
theorem dX12_follow_32 : decode cX12_follow 32 = .ok (.iload_n 3, 1) := by decide +kernel
theorem dX12_follow_33 : decode cX12_follow 33 = .ok (.iadd, 1) := by decide +kernel
theorem dX12_follow_34 : decode cX12_follow 34 = .ok (.iastore, 1) := by decide +kernel
theorem dX12_follow_35 : decode cX12_follow 35 = .ok (.aload_n 0, 1) := by decide +kernel
theorem dX12_follow_36 : decode cX12_follow 36 = .ok (.dup, 1) := by decide +kernel
theorem dX12_follow_37 : decode cX12_follow 37 = .ok (.getfield 189, 3) := by decide +kernel
theorem dX12_follow_40 : decode cX12_follow 40 = .ok (.iconst 1, 1) := by decide +kernel
theorem dX12_follow_41 : decode cX12_follow 41 = .ok (.iadd, 1) := by decide +kernel
theorem dX12_follow_42 : decode cX12_follow 42 = .ok (.putfield 189, 3) := by decide +kernel
theorem dX12_follow_45 : decode cX12_follow 45 = .ok (.iload_n 2, 1) := by decide +kernel
theorem dX12_follow_46 : decode cX12_follow 46 = .ok (.iconst 4, 1) := by decide +kernel
theorem dX12_follow_47 : decode cX12_follow 47 = .ok (.idiv, 1) := by decide +kernel
theorem dX12_follow_48 : decode cX12_follow 48 = .ok (.istore 5, 2) := by decide +kernel
theorem dX12_follow_50 : decode cX12_follow 50 = .ok (.aload_n 0, 1) := by decide +kernel
theorem dX12_follow_51 : decode cX12_follow 51 = .ok (.iload 5, 2) := by decide +kernel
theorem dX12_follow_53 : decode cX12_follow 53 = .ok (.iload_n 2, 1) := by decide +kernel
theorem dX12_follow_54 : decode cX12_follow 54 = .ok (.iconst 4, 1) := by decide +kernel
theorem dX12_follow_55 : decode cX12_follow 55 = .ok (.irem, 1) := by decide +kernel
theorem dX12_follow_56 : decode cX12_follow 56 = .ok (.iload_n 3, 1) := by decide +kernel
theorem dX12_follow_57 : decode cX12_follow 57 = .ok (.invokevirtual 150, 3) := by decide +kernel
theorem dX12_follow_60 : decode cX12_follow 60 = .ok (.istore 6, 2) := by decide +kernel
theorem dX12_follow_62 : decode cX12_follow 62 = .ok (.iload 6, 2) := by decide +kernel
theorem dX12_follow_64 : decode cX12_follow 64 = .ok (.ifCond .ge 7, 3) := by decide +kernel
theorem dX12_follow_67 : decode cX12_follow 67 = .ok (.iconst 0, 1) := by decide +kernel
theorem dX12_follow_68 : decode cX12_follow 68 = .ok (.goto 12, 3) := by decide +kernel
theorem dX12_follow_71 : decode cX12_follow 71 = .ok (.aload_n 0, 1) := by decide +kernel
theorem dX12_follow_72 : decode cX12_follow 72 = .ok (.iload 5, 2) := by decide +kernel
theorem dX12_follow_74 : decode cX12_follow 74 = .ok (.iload 6, 2) := by decide +kernel
theorem dX12_follow_76 : decode cX12_follow 76 = .ok (.iconst 3, 1) := by decide +kernel
theorem dX12_follow_77 : decode cX12_follow 77 = .ok (.invokevirtual 114, 3) := by decide +kernel
theorem dX12_follow_80 : decode cX12_follow 80 = .ok (.istore 7, 2) := by decide +kernel
theorem dX12_follow_82 : decode cX12_follow 82 = .ok (.iload 7, 2) := by decide +kernel
theorem dX12_follow_84 : decode cX12_follow 84 = .ok (.ifCond .eq 7, 3) := by decide +kernel
theorem dX12_follow_87 : decode cX12_follow 87 = .ok (.iconst 1, 1) := by decide +kernel
theorem dX12_follow_88 : decode cX12_follow 88 = .ok (.goto 4, 3) := by decide +kernel
theorem dX12_follow_91 : decode cX12_follow 91 = .ok (.iconst 0, 1) := by decide +kernel
theorem dX12_follow_92 : decode cX12_follow 92 = .ok (.istore 4, 2) := by decide +kernel
theorem dX12_follow_94 : decode cX12_follow 94 = .ok (.aload_n 0, 1) := by decide +kernel
theorem dX12_follow_95 : decode cX12_follow 95 = .ok (.iload 6, 2) := by decide +kernel
theorem dX12_follow_97 : decode cX12_follow 97 = .ok (.ifCond .ge 7, 3) := by decide +kernel
theorem dX12_follow_100 : decode cX12_follow 100 = .ok (.iconst 2, 1) := by decide +kernel
theorem dX12_follow_101 : decode cX12_follow 101 = .ok (.goto 4, 3) := by decide +kernel
theorem dX12_follow_104 : decode cX12_follow 104 = .ok (.iconst 1, 1) := by decide +kernel
theorem dX12_follow_105 : decode cX12_follow 105 = .ok (.putfield 192, 3) := by decide +kernel
theorem dX12_follow_108 : decode cX12_follow 108 = .ok (.iload 4, 2) := by decide +kernel
theorem dX12_follow_110 : decode cX12_follow 110 = .ok (.ifCond .eq 82, 3) := by decide +kernel
theorem dX12_follow_113 : decode cX12_follow 113 = .ok (.iconst 0, 1) := by decide +kernel
theorem dX12_follow_114 : decode cX12_follow 114 = .ok (.istore 8, 2) := by decide +kernel
theorem dX12_follow_116 : decode cX12_follow 116 = .ok (.iload 7, 2) := by decide +kernel
theorem dX12_follow_118 : decode cX12_follow 118 = .ok (.iload 8, 2) := by decide +kernel
theorem dX12_follow_120 : decode cX12_follow 120 = .ok (.ishr, 1) := by decide +kernel
theorem dX12_follow_121 : decode cX12_follow 121 = .ok (.iconst 1, 1) := by decide +kernel
theorem dX12_follow_122 : decode cX12_follow 122 = .ok (.iand, 1) := by decide +kernel
theorem dX12_follow_123 : decode cX12_follow 123 = .ok (.ifCond .ne 9, 3) := by decide +kernel
theorem dX12_follow_126 : decode cX12_follow 126 = .ok (.iinc 8 1, 3) := by decide +kernel
theorem dX12_follow_129 : decode cX12_follow 129 = .ok (.goto (-13), 3) := by decide +kernel
theorem dX12_follow_132 : decode cX12_follow 132 = .ok (.aload_n 0, 1) := by decide +kernel
theorem dX12_follow_133 : decode cX12_follow 133 = .ok (.iload 5, 2) := by decide +kernel
theorem dX12_follow_135 : decode cX12_follow 135 = .ok (.iload 6, 2) := by decide +kernel
theorem dX12_follow_137 : decode cX12_follow 137 = .ok (.iload_n 3, 1) := by decide +kernel
theorem dX12_follow_138 : decode cX12_follow 138 = .ok (.invokevirtual 156, 3) := by decide +kernel
theorem dX12_follow_141 : decode cX12_follow 141 = .ok (.istore_n 3, 1) := by decide +kernel
theorem dX12_follow_142 : decode cX12_follow 142 = .ok (.aload_n 0, 1) := by decide +kernel
theorem dX12_follow_143 : decode cX12_follow 143 = .ok (.getfield 7, 3) := by decide +kernel
theorem dX12_follow_146 : decode cX12_follow 146 = .ok (.iconst 4, 1) := by decide +kernel
theorem dX12_follow_147 : decode cX12_follow 147 = .ok (.iload 5, 2) := by decide +kernel
theorem dX12_follow_149 : decode cX12_follow 149 = .ok (.imul, 1) := by decide +kernel
theorem dX12_follow_150 : decode cX12_follow 150 = .ok (.iload 8, 2) := by decide +kernel
theorem dX12_follow_152 : decode cX12_follow 152 = .ok (.iadd, 1) := by decide +kernel
theorem dX12_follow_153 : decode cX12_follow 153 = .ok (.iaload, 1) := by decide +kernel
theorem dX12_follow_154 : decode cX12_follow 154 = .ok (.istore_n 2, 1) := by decide +kernel
theorem dX12_follow_155 : decode cX12_follow 155 = .ok (.aload_n 0, 1) := by decide +kernel
theorem dX12_follow_156 : decode cX12_follow 156 = .ok (.iload_n 2, 1) := by decide +kernel
theorem dX12_follow_157 : decode cX12_follow 157 = .ok (.ifCond .ge 7, 3) := by decide +kernel
theorem dX12_follow_160 : decode cX12_follow 160 = .ok (.iconst 0, 1) := by decide +kernel
theorem dX12_follow_161 : decode cX12_follow 161 = .ok (.goto 4, 3) := by decide +kernel
theorem dX12_follow_164 : decode cX12_follow 164 = .ok (.iconst 3, 1) := by decide +kernel
theorem dX12_follow_165 : decode cX12_follow 165 = .ok (.putfield 192, 3) := by decide +kernel
theorem dX12_follow_168 : decode cX12_follow 168 = .ok (.iload_n 2, 1) := by decide +kernel
theorem dX12_follow_169 : decode cX12_follow 169 = .ok (.ifCond .lt 20, 3) := by decide +kernel
theorem dX12_follow_172 : decode cX12_follow 172 = .ok (.aload_n 0, 1) := by decide +kernel
theorem dX12_follow_173 : decode cX12_follow 173 = .ok (.bipush 32, 2) := by decide +kernel
theorem dX12_follow_175 : decode cX12_follow 175 = .ok (.iload_n 2, 1) := by decide +kernel
theorem dX12_follow_176 : decode cX12_follow 176 = .ok (.imul, 1) := by decide +kernel
theorem dX12_follow_177 : decode cX12_follow 177 = .ok (.iload_n 3, 1) := by decide +kernel
theorem dX12_follow_178 : decode cX12_follow 178 = .ok (.iadd, 1) := by decide +kernel
theorem dX12_follow_179 : decode cX12_follow 179 = .ok (.invokevirtual 195, 3) := by decide +kernel
theorem dX12_follow_182 : decode cX12_follow 182 = .ok (.ifCond .ne 7, 3) := by decide +kernel
theorem dX12_follow_185 : decode cX12_follow 185 = .ok (.iconst 1, 1) := by decide +kernel
theorem dX12_follow_186 : decode cX12_follow 186 = .ok (.goto 4, 3) := by decide +kernel
theorem dX12_follow_189 : decode cX12_follow 189 = .ok (.iconst 0, 1) := by decide +kernel
theorem dX12_follow_190 : decode cX12_follow 190 = .ok (.istore 4, 2) := by decide +kernel
theorem dX12_follow_192 : decode cX12_follow 192 = .ok (.goto (-177), 3) := by decide +kernel
theorem dX12_follow_195 : decode cX12_follow 195 = .ok (.return_, 1) := by decide +kernel
theorem dX12_trace_0 : decode cX12_trace 0 = .ok (.aload_n 0, 1) := by decide +kernel
theorem dX12_trace_1 : decode cX12_trace 1 = .ok (.iload_n 1, 1) := by decide +kernel
theorem dX12_trace_2 : decode cX12_trace 2 = .ok (.invokevirtual 153, 3) := by decide +kernel
theorem dX12_trace_5 : decode cX12_trace 5 = .ok (.ifCond .eq 7, 3) := by decide +kernel
theorem dX12_trace_8 : decode cX12_trace 8 = .ok (.iload_n 2, 1) := by decide +kernel
theorem dX12_trace_9 : decode cX12_trace 9 = .ok (.ifCond .ge 6, 3) := by decide +kernel
theorem dX12_trace_12 : decode cX12_trace 12 = .ok (.bipush (-3), 2) := by decide +kernel
theorem dX12_trace_14 : decode cX12_trace 14 = .ok (.ireturn, 1) := by decide +kernel
theorem dX12_trace_15 : decode cX12_trace 15 = .ok (.aload_n 0, 1) := by decide +kernel
theorem dX12_trace_16 : decode cX12_trace 16 = .ok (.iload_n 1, 1) := by decide +kernel
theorem dX12_trace_17 : decode cX12_trace 17 = .ok (.invokevirtual 198, 3) := by decide +kernel
theorem dX12_trace_20 : decode cX12_trace 20 = .ok (.iload_n 2, 1) := by decide +kernel
theorem dX12_trace_21 : decode cX12_trace 21 = .ok (.aload_n 0, 1) := by decide +kernel
theorem dX12_trace_22 : decode cX12_trace 22 = .ok (.getfield 189, 3) := by decide +kernel
theorem dX12_trace_25 : decode cX12_trace 25 = .ok (.if_icmp .lt 6, 3) := by decide +kernel
theorem dX12_trace_28 : decode cX12_trace 28 = .ok (.bipush (-6), 2) := by decide +kernel
theorem dX12_trace_30 : decode cX12_trace 30 = .ok (.ireturn, 1) := by decide +kernel
theorem dX12_trace_31 : decode cX12_trace 31 = .ok (.aload_n 0, 1) := by decide +kernel
theorem dX12_trace_32 : decode cX12_trace 32 = .ok (.getfield 35, 3) := by decide +kernel
theorem dX12_trace_35 : decode cX12_trace 35 = .ok (.iload_n 2, 1) := by decide +kernel
theorem dX12_trace_36 : decode cX12_trace 36 = .ok (.iaload, 1) := by decide +kernel
theorem dX12_trace_37 : decode cX12_trace 37 = .ok (.bipush 32, 2) := by decide +kernel
theorem dX12_trace_39 : decode cX12_trace 39 = .ok (.idiv, 1) := by decide +kernel
theorem dX12_trace_40 : decode cX12_trace 40 = .ok (.istore_n 3, 1) := by decide +kernel
theorem dX12_trace_41 : decode cX12_trace 41 = .ok (.sipush 1000, 3) := by decide +kernel
theorem dX12_trace_44 : decode cX12_trace 44 = .ok (.iload_n 3, 1) := by decide +kernel
theorem dX12_trace_45 : decode cX12_trace 45 = .ok (.iconst 4, 1) := by decide +kernel
theorem dX12_trace_46 : decode cX12_trace 46 = .ok (.idiv, 1) := by decide +kernel
theorem dX12_trace_47 : decode cX12_trace 47 = .ok (.imul, 1) := by decide +kernel
theorem dX12_trace_48 : decode cX12_trace 48 = .ok (.bipush 100, 2) := by decide +kernel
theorem dX12_trace_50 : decode cX12_trace 50 = .ok (.iload_n 3, 1) := by decide +kernel
theorem dX12_trace_51 : decode cX12_trace 51 = .ok (.iconst 4, 1) := by decide +kernel
theorem dX12_trace_52 : decode cX12_trace 52 = .ok (.irem, 1) := by decide +kernel
theorem dX12_trace_53 : decode cX12_trace 53 = .ok (.imul, 1) := by decide +kernel
theorem dX12_trace_54 : decode cX12_trace 54 = .ok (.iadd, 1) := by decide +kernel
theorem dX12_trace_55 : decode cX12_trace 55 = .ok (.aload_n 0, 1) := by decide +kernel
theorem dX12_trace_56 : decode cX12_trace 56 = .ok (.getfield 35, 3) := by decide +kernel
theorem dX12_trace_59 : decode cX12_trace 59 = .ok (.iload_n 2, 1) := by decide +kernel
theorem dX12_trace_60 : decode cX12_trace 60 = .ok (.iaload, 1) := by decide +kernel
theorem dX12_trace_61 : decode cX12_trace 61 = .ok (.bipush 32, 2) := by decide +kernel
theorem dX12_trace_63 : decode cX12_trace 63 = .ok (.irem, 1) := by decide +kernel
theorem dX12_trace_64 : decode cX12_trace 64 = .ok (.iadd, 1) := by decide +kernel
theorem dX12_trace_65 : decode cX12_trace 65 = .ok (.ireturn, 1) := by decide +kernel
theorem dX12_traceEnd_0 : decode cX12_traceEnd 0 = .ok (.aload_n 0, 1) := by decide +kernel
theorem dX12_traceEnd_1 : decode cX12_traceEnd 1 = .ok (.iload_n 1, 1) := by decide +kernel
theorem dX12_traceEnd_2 : decode cX12_traceEnd 2 = .ok (.invokevirtual 153, 3) := by decide +kernel
theorem dX12_traceEnd_5 : decode cX12_traceEnd 5 = .ok (.ifCond .ne 6, 3) := by decide +kernel
theorem dX12_traceEnd_8 : decode cX12_traceEnd 8 = .ok (.bipush (-3), 2) := by decide +kernel
theorem dX12_traceEnd_10 : decode cX12_traceEnd 10 = .ok (.ireturn, 1) := by decide +kernel
theorem dX12_traceEnd_11 : decode cX12_traceEnd 11 = .ok (.aload_n 0, 1) := by decide +kernel
theorem dX12_traceEnd_12 : decode cX12_traceEnd 12 = .ok (.iload_n 1, 1) := by decide +kernel
theorem dX12_traceEnd_13 : decode cX12_traceEnd 13 = .ok (.invokevirtual 198, 3) := by decide +kernel
theorem dX12_traceEnd_16 : decode cX12_traceEnd 16 = .ok (.aload_n 0, 1) := by decide +kernel
theorem dX12_traceEnd_17 : decode cX12_traceEnd 17 = .ok (.getfield 192, 3) := by decide +kernel
theorem dX12_traceEnd_20 : decode cX12_traceEnd 20 = .ok (.ireturn, 1) := by decide +kernel
theorem dX12_isSafe_0 : decode cX12_isSafe 0 = .ok (.iload_n 1, 1) := by decide +kernel
theorem dX12_isSafe_1 : decode cX12_isSafe 1 = .ok (.iconst 4, 1) := by decide +kernel
theorem dX12_isSafe_2 : decode cX12_isSafe 2 = .ok (.idiv, 1) := by decide +kernel
theorem dX12_isSafe_3 : decode cX12_isSafe 3 = .ok (.istore_n 3, 1) := by decide +kernel
theorem dX12_isSafe_4 : decode cX12_isSafe 4 = .ok (.aload_n 0, 1) := by decide +kernel
theorem dX12_isSafe_5 : decode cX12_isSafe 5 = .ok (.iload_n 3, 1) := by decide +kernel
theorem dX12_isSafe_6 : decode cX12_isSafe 6 = .ok (.iload_n 1, 1) := by decide +kernel
theorem dX12_isSafe_7 : decode cX12_isSafe 7 = .ok (.iconst 4, 1) := by decide +kernel
theorem dX12_isSafe_8 : decode cX12_isSafe 8 = .ok (.irem, 1) := by decide +kernel
theorem dX12_isSafe_9 : decode cX12_isSafe 9 = .ok (.iload_n 2, 1) := by decide +kernel
theorem dX12_isSafe_10 : decode cX12_isSafe 10 = .ok (.invokevirtual 150, 3) := by decide +kernel
theorem dX12_isSafe_13 : decode cX12_isSafe 13 = .ok (.istore 4, 2) := by decide +kernel
theorem dX12_isSafe_15 : decode cX12_isSafe 15 = .ok (.iconst 1, 1) := by decide +kernel
theorem dX12_isSafe_16 : decode cX12_isSafe 16 = .ok (.istore 5, 2) := by decide +kernel
theorem dX12_isSafe_18 : decode cX12_isSafe 18 = .ok (.iconst 0, 1) := by decide +kernel
theorem dX12_isSafe_19 : decode cX12_isSafe 19 = .ok (.istore 6, 2) := by decide +kernel
theorem dX12_isSafe_21 : decode cX12_isSafe 21 = .ok (.iload 6, 2) := by decide +kernel
theorem dX12_isSafe_23 : decode cX12_isSafe 23 = .ok (.iconst 4, 1) := by decide +kernel
theorem dX12_isSafe_24 : decode cX12_isSafe 24 = .ok (.if_icmp .ge 96, 3) := by decide +kernel
theorem dX12_isSafe_27 : decode cX12_isSafe 27 = .ok (.iload 4, 2) := by decide +kernel
theorem dX12_isSafe_29 : decode cX12_isSafe 29 = .ok (.ifCond .lt 91, 3) := by decide +kernel
theorem dX12_isSafe_32 : decode cX12_isSafe 32 = .ok (.aload_n 0, 1) := by decide +kernel
theorem dX12_isSafe_33 : decode cX12_isSafe 33 = .ok (.getfield 7, 3) := by decide +kernel
theorem dX12_isSafe_36 : decode cX12_isSafe 36 = .ok (.iconst 4, 1) := by decide +kernel
theorem dX12_isSafe_37 : decode cX12_isSafe 37 = .ok (.iload_n 3, 1) := by decide +kernel
theorem dX12_isSafe_38 : decode cX12_isSafe 38 = .ok (.imul, 1) := by decide +kernel
theorem dX12_isSafe_39 : decode cX12_isSafe 39 = .ok (.iload 6, 2) := by decide +kernel
theorem dX12_isSafe_41 : decode cX12_isSafe 41 = .ok (.iadd, 1) := by decide +kernel
theorem dX12_isSafe_42 : decode cX12_isSafe 42 = .ok (.iaload, 1) := by decide +kernel
theorem dX12_isSafe_43 : decode cX12_isSafe 43 = .ok (.istore 7, 2) := by decide +kernel
theorem dX12_isSafe_45 : decode cX12_isSafe 45 = .ok (.aload_n 0, 1) := by decide +kernel
theorem dX12_isSafe_46 : decode cX12_isSafe 46 = .ok (.iload_n 3, 1) := by decide +kernel
theorem dX12_isSafe_47 : decode cX12_isSafe 47 = .ok (.iload 4, 2) := by decide +kernel
theorem dX12_isSafe_49 : decode cX12_isSafe 49 = .ok (.iconst 3, 1) := by decide +kernel
theorem dX12_isSafe_50 : decode cX12_isSafe 50 = .ok (.invokevirtual 114, 3) := by decide +kernel
theorem dX12_isSafe_53 : decode cX12_isSafe 53 = .ok (.iload 6, 2) := by decide +kernel
theorem dX12_isSafe_55 : decode cX12_isSafe 55 = .ok (.ishr, 1) := by decide +kernel
theorem dX12_isSafe_56 : decode cX12_isSafe 56 = .ok (.iconst 1, 1) := by decide +kernel
theorem dX12_isSafe_57 : decode cX12_isSafe 57 = .ok (.iand, 1) := by decide +kernel
theorem dX12_isSafe_58 : decode cX12_isSafe 58 = .ok (.iconst 1, 1) := by decide +kernel
theorem dX12_isSafe_59 : decode cX12_isSafe 59 = .ok (.if_icmp .ne 12, 3) := by decide +kernel
theorem dX12_isSafe_62 : decode cX12_isSafe 62 = .ok (.iload 7, 2) := by decide +kernel
theorem dX12_isSafe_64 : decode cX12_isSafe 64 = .ok (.ifCond .lt 7, 3) := by decide +kernel
theorem dX12_isSafe_67 : decode cX12_isSafe 67 = .ok (.iconst 1, 1) := by decide +kernel
theorem dX12_isSafe_68 : decode cX12_isSafe 68 = .ok (.goto 4, 3) := by decide +kernel
theorem dX12_isSafe_71 : decode cX12_isSafe 71 = .ok (.iconst 0, 1) := by decide +kernel
theorem dX12_isSafe_72 : decode cX12_isSafe 72 = .ok (.istore 8, 2) := by decide +kernel
theorem dX12_isSafe_74 : decode cX12_isSafe 74 = .ok (.iload 5, 2) := by decide +kernel
theorem dX12_isSafe_76 : decode cX12_isSafe 76 = .ok (.ifCond .eq 35, 3) := by decide +kernel
theorem dX12_isSafe_79 : decode cX12_isSafe 79 = .ok (.iload 8, 2) := by decide +kernel
theorem dX12_isSafe_81 : decode cX12_isSafe 81 = .ok (.ifCond .eq 26, 3) := by decide +kernel
theorem dX12_isSafe_84 : decode cX12_isSafe 84 = .ok (.aload_n 0, 1) := by decide +kernel
theorem dX12_isSafe_85 : decode cX12_isSafe 85 = .ok (.getfield 38, 3) := by decide +kernel
theorem dX12_isSafe_88 : decode cX12_isSafe 88 = .ok (.iload 7, 2) := by decide +kernel
theorem dX12_isSafe_90 : decode cX12_isSafe 90 = .ok (.laload, 1) := by decide +kernel
theorem dX12_isSafe_91 : decode cX12_isSafe 91 = .ok (.aload_n 0, 1) := by decide +kernel
theorem dX12_isSafe_92 : decode cX12_isSafe 92 = .ok (.iload_n 3, 1) := by decide +kernel
theorem dX12_isSafe_93 : decode cX12_isSafe 93 = .ok (.iload 4, 2) := by decide +kernel
theorem dX12_isSafe_95 : decode cX12_isSafe 95 = .ok (.iload_n 2, 1) := by decide +kernel
theorem dX12_isSafe_96 : decode cX12_isSafe 96 = .ok (.invokevirtual 156, 3) := by decide +kernel
theorem dX12_isSafe_99 : decode cX12_isSafe 99 = .ok (.lshr, 1) := by decide +kernel
theorem dX12_isSafe_100 : decode cX12_isSafe 100 = .ok (.lconst 1, 1) := by decide +kernel
theorem dX12_isSafe_101 : decode cX12_isSafe 101 = .ok (.land, 1) := by decide +kernel
theorem dX12_isSafe_102 : decode cX12_isSafe 102 = .ok (.lconst 1, 1) := by decide +kernel
theorem dX12_isSafe_103 : decode cX12_isSafe 103 = .ok (.lcmp, 1) := by decide +kernel
theorem dX12_isSafe_104 : decode cX12_isSafe 104 = .ok (.ifCond .ne 7, 3) := by decide +kernel
theorem dX12_isSafe_107 : decode cX12_isSafe 107 = .ok (.iconst 1, 1) := by decide +kernel
theorem dX12_isSafe_108 : decode cX12_isSafe 108 = .ok (.goto 4, 3) := by decide +kernel
theorem dX12_isSafe_111 : decode cX12_isSafe 111 = .ok (.iconst 0, 1) := by decide +kernel
theorem dX12_isSafe_112 : decode cX12_isSafe 112 = .ok (.istore 5, 2) := by decide +kernel
theorem dX12_isSafe_114 : decode cX12_isSafe 114 = .ok (.iinc 6 1, 3) := by decide +kernel
theorem dX12_isSafe_117 : decode cX12_isSafe 117 = .ok (.goto (-96), 3) := by decide +kernel
theorem dX12_isSafe_120 : decode cX12_isSafe 120 = .ok (.iload 5, 2) := by decide +kernel
theorem dX12_isSafe_122 : decode cX12_isSafe 122 = .ok (.ireturn, 1) := by decide +kernel
theorem dX12_loops_0 : decode cX12_loops 0 = .ok (.iconst 0, 1) := by decide +kernel
theorem dX12_loops_1 : decode cX12_loops 1 = .ok (.istore_n 1, 1) := by decide +kernel
theorem dX12_loops_2 : decode cX12_loops 2 = .ok (.iload_n 1, 1) := by decide +kernel
theorem dX12_loops_3 : decode cX12_loops 3 = .ok (.bipush 24, 2) := by decide +kernel
theorem dX12_loops_5 : decode cX12_loops 5 = .ok (.if_icmp .ge 16, 3) := by decide +kernel
theorem dX12_loops_8 : decode cX12_loops 8 = .ok (.aload_n 0, 1) := by decide +kernel
theorem dX12_loops_9 : decode cX12_loops 9 = .ok (.getfield 38, 3) := by decide +kernel
theorem dX12_loops_12 : decode cX12_loops 12 = .ok (.iload_n 1, 1) := by decide +kernel
theorem dX12_loops_13 : decode cX12_loops 13 = .ok (.lconst 0, 1) := by decide +kernel
theorem dX12_loops_14 : decode cX12_loops 14 = .ok (.lastore, 1) := by decide +kernel
theorem dX12_loops_15 : decode cX12_loops 15 = .ok (.iinc 1 1, 3) := by decide +kernel
theorem dX12_loops_18 : decode cX12_loops 18 = .ok (.goto (-16), 3) := by decide +kernel
theorem dX12_loops_21 : decode cX12_loops 21 = .ok (.iconst 1, 1) := by decide +kernel
theorem dX12_loops_22 : decode cX12_loops 22 = .ok (.istore_n 1, 1) := by decide +kernel
theorem dX12_loops_23 : decode cX12_loops 23 = .ok (.iload_n 1, 1) := by decide +kernel
theorem dX12_loops_24 : decode cX12_loops 24 = .ok (.ifCond .eq 76, 3) := by decide +kernel
theorem dX12_loops_27 : decode cX12_loops 27 = .ok (.iconst 0, 1) := by decide +kernel
theorem dX12_loops_28 : decode cX12_loops 28 = .ok (.istore_n 1, 1) := by decide +kernel
theorem dX12_loops_29 : decode cX12_loops 29 = .ok (.iconst 0, 1) := by decide +kernel
theorem dX12_loops_30 : decode cX12_loops 30 = .ok (.istore_n 2, 1) := by decide +kernel
theorem dX12_loops_31 : decode cX12_loops 31 = .ok (.iload_n 2, 1) := by decide +kernel
theorem dX12_loops_32 : decode cX12_loops 32 = .ok (.bipush 24, 2) := by decide +kernel
theorem dX12_loops_34 : decode cX12_loops 34 = .ok (.if_icmp .ge 63, 3) := by decide +kernel
theorem dX12_loops_37 : decode cX12_loops 37 = .ok (.iconst 0, 1) := by decide +kernel
theorem dX12_loops_38 : decode cX12_loops 38 = .ok (.istore_n 3, 1) := by decide +kernel
theorem dX12_loops_39 : decode cX12_loops 39 = .ok (.iload_n 3, 1) := by decide +kernel
theorem dX12_loops_40 : decode cX12_loops 40 = .ok (.aload_n 0, 1) := by decide +kernel
theorem dX12_loops_41 : decode cX12_loops 41 = .ok (.invokevirtual 98, 3) := by decide +kernel
theorem dX12_loops_44 : decode cX12_loops 44 = .ok (.if_icmp .ge 47, 3) := by decide +kernel
theorem dX12_loops_47 : decode cX12_loops 47 = .ok (.aload_n 0, 1) := by decide +kernel
theorem dX12_loops_48 : decode cX12_loops 48 = .ok (.getfield 38, 3) := by decide +kernel
theorem dX12_loops_51 : decode cX12_loops 51 = .ok (.iload_n 2, 1) := by decide +kernel
theorem dX12_loops_52 : decode cX12_loops 52 = .ok (.laload, 1) := by decide +kernel
theorem dX12_loops_53 : decode cX12_loops 53 = .ok (.iload_n 3, 1) := by decide +kernel
theorem dX12_loops_54 : decode cX12_loops 54 = .ok (.lshr, 1) := by decide +kernel
theorem dX12_loops_55 : decode cX12_loops 55 = .ok (.lconst 1, 1) := by decide +kernel
theorem dX12_loops_56 : decode cX12_loops 56 = .ok (.land, 1) := by decide +kernel
theorem dX12_loops_57 : decode cX12_loops 57 = .ok (.lconst 0, 1) := by decide +kernel
theorem dX12_loops_58 : decode cX12_loops 58 = .ok (.lcmp, 1) := by decide +kernel
theorem dX12_loops_59 : decode cX12_loops 59 = .ok (.ifCond .ne 26, 3) := by decide +kernel
theorem dX12_loops_62 : decode cX12_loops 62 = .ok (.aload_n 0, 1) := by decide +kernel
theorem dX12_loops_63 : decode cX12_loops 63 = .ok (.iload_n 2, 1) := by decide +kernel
theorem dX12_loops_64 : decode cX12_loops 64 = .ok (.iload_n 3, 1) := by decide +kernel
theorem dX12_loops_65 : decode cX12_loops 65 = .ok (.invokevirtual 202, 3) := by decide +kernel
theorem dX12_loops_68 : decode cX12_loops 68 = .ok (.ifCond .eq 17, 3) := by decide +kernel
theorem dX12_loops_71 : decode cX12_loops 71 = .ok (.aload_n 0, 1) := by decide +kernel
theorem dX12_loops_72 : decode cX12_loops 72 = .ok (.getfield 38, 3) := by decide +kernel
theorem dX12_loops_75 : decode cX12_loops 75 = .ok (.iload_n 2, 1) := by decide +kernel
theorem dX12_loops_76 : decode cX12_loops 76 = .ok (.dup2, 1) := by decide +kernel
theorem dX12_loops_77 : decode cX12_loops 77 = .ok (.laload, 1) := by decide +kernel
theorem dX12_loops_78 : decode cX12_loops 78 = .ok (.lconst 1, 1) := by decide +kernel
theorem dX12_loops_79 : decode cX12_loops 79 = .ok (.iload_n 3, 1) := by decide +kernel
theorem dX12_loops_80 : decode cX12_loops 80 = .ok (.lshl, 1) := by decide +kernel
theorem dX12_loops_81 : decode cX12_loops 81 = .ok (.lor, 1) := by decide +kernel
theorem dX12_loops_82 : decode cX12_loops 82 = .ok (.lastore, 1) := by decide +kernel
theorem dX12_loops_83 : decode cX12_loops 83 = .ok (.iconst 1, 1) := by decide +kernel
theorem dX12_loops_84 : decode cX12_loops 84 = .ok (.istore_n 1, 1) := by decide +kernel
theorem dX12_loops_85 : decode cX12_loops 85 = .ok (.iinc 3 1, 3) := by decide +kernel
theorem dX12_loops_88 : decode cX12_loops 88 = .ok (.goto (-49), 3) := by decide +kernel
theorem dX12_loops_91 : decode cX12_loops 91 = .ok (.iinc 2 1, 3) := by decide +kernel
theorem dX12_loops_94 : decode cX12_loops 94 = .ok (.goto (-63), 3) := by decide +kernel
theorem dX12_loops_97 : decode cX12_loops 97 = .ok (.goto (-74), 3) := by decide +kernel
theorem dX12_loops_100 : decode cX12_loops 100 = .ok (.aload_n 0, 1) := by decide +kernel
theorem dX12_loops_101 : decode cX12_loops 101 = .ok (.invokevirtual 164, 3) := by decide +kernel
theorem dX12_loops_104 : decode cX12_loops 104 = .ok (.aload_n 0, 1) := by decide +kernel
theorem dX12_loops_105 : decode cX12_loops 105 = .ok (.getfield 38, 3) := by decide +kernel
theorem dX12_loops_108 : decode cX12_loops 108 = .ok (.aload_n 0, 1) := by decide +kernel
theorem dX12_loops_109 : decode cX12_loops 109 = .ok (.getfield 79, 3) := by decide +kernel
theorem dX12_loops_112 : decode cX12_loops 112 = .ok (.laload, 1) := by decide +kernel
theorem dX12_loops_113 : decode cX12_loops 113 = .ok (.ldc2_w 159, 3) := by decide +kernel
theorem dX12_loops_116 : decode cX12_loops 116 = .ok (.lxor, 1) := by decide +kernel
theorem dX12_loops_117 : decode cX12_loops 117 = .ok (.land, 1) := by decide +kernel
theorem dX12_loops_118 : decode cX12_loops 118 = .ok (.lreturn, 1) := by decide +kernel
theorem dX12_isOn_0 : decode cX12_isOn 0 = .ok (.iload_n 1, 1) := by decide +kernel
theorem dX12_isOn_1 : decode cX12_isOn 1 = .ok (.bipush 6, 2) := by decide +kernel
theorem dX12_isOn_3 : decode cX12_isOn 3 = .ok (.irem, 1) := by decide +kernel
theorem dX12_isOn_4 : decode cX12_isOn 4 = .ok (.aload_n 0, 1) := by decide +kernel
theorem dX12_isOn_5 : decode cX12_isOn 5 = .ok (.iload_n 1, 1) := by decide +kernel
theorem dX12_isOn_6 : decode cX12_isOn 6 = .ok (.bipush 6, 2) := by decide +kernel
theorem dX12_isOn_8 : decode cX12_isOn 8 = .ok (.idiv, 1) := by decide +kernel
theorem dX12_isOn_9 : decode cX12_isOn 9 = .ok (.invokevirtual 110, 3) := by decide +kernel
theorem dX12_isOn_12 : decode cX12_isOn 12 = .ok (.if_icmp .ge 25, 3) := by decide +kernel
theorem dX12_isOn_15 : decode cX12_isOn 15 = .ok (.aload_n 0, 1) := by decide +kernel
theorem dX12_isOn_16 : decode cX12_isOn 16 = .ok (.iload_n 1, 1) := by decide +kernel
theorem dX12_isOn_17 : decode cX12_isOn 17 = .ok (.bipush 6, 2) := by decide +kernel
theorem dX12_isOn_19 : decode cX12_isOn 19 = .ok (.idiv, 1) := by decide +kernel
theorem dX12_isOn_20 : decode cX12_isOn 20 = .ok (.iload_n 1, 1) := by decide +kernel
theorem dX12_isOn_21 : decode cX12_isOn 21 = .ok (.bipush 6, 2) := by decide +kernel
theorem dX12_isOn_23 : decode cX12_isOn 23 = .ok (.irem, 1) := by decide +kernel
theorem dX12_isOn_24 : decode cX12_isOn 24 = .ok (.bipush 6, 2) := by decide +kernel
theorem dX12_isOn_26 : decode cX12_isOn 26 = .ok (.invokevirtual 114, 3) := by decide +kernel
theorem dX12_isOn_29 : decode cX12_isOn 29 = .ok (.iconst 1, 1) := by decide +kernel
theorem dX12_isOn_30 : decode cX12_isOn 30 = .ok (.if_icmp .ne 7, 3) := by decide +kernel
theorem dX12_isOn_33 : decode cX12_isOn 33 = .ok (.iconst 1, 1) := by decide +kernel
theorem dX12_isOn_34 : decode cX12_isOn 34 = .ok (.goto 4, 3) := by decide +kernel
theorem dX12_isOn_37 : decode cX12_isOn 37 = .ok (.iconst 0, 1) := by decide +kernel
theorem dX12_isOn_38 : decode cX12_isOn 38 = .ok (.ireturn, 1) := by decide +kernel
theorem dX12_turn_0 : decode cX12_turn 0 = .ok (.aload_n 0, 1) := by decide +kernel
theorem dX12_turn_1 : decode cX12_turn 1 = .ok (.iload_n 1, 1) := by decide +kernel
theorem dX12_turn_2 : decode cX12_turn 2 = .ok (.bipush 6, 2) := by decide +kernel
theorem dX12_turn_4 : decode cX12_turn 4 = .ok (.idiv, 1) := by decide +kernel
theorem dX12_turn_5 : decode cX12_turn 5 = .ok (.iload_n 1, 1) := by decide +kernel
theorem dX12_turn_6 : decode cX12_turn 6 = .ok (.bipush 6, 2) := by decide +kernel
theorem dX12_turn_8 : decode cX12_turn 8 = .ok (.irem, 1) := by decide +kernel
theorem dX12_turn_9 : decode cX12_turn 9 = .ok (.bipush 6, 2) := by decide +kernel
theorem dX12_turn_11 : decode cX12_turn 11 = .ok (.iload_n 2, 1) := by decide +kernel
theorem dX12_turn_12 : decode cX12_turn 12 = .ok (.invokevirtual 118, 3) := by decide +kernel
theorem dX12_turn_15 : decode cX12_turn 15 = .ok (.return_, 1) := by decide +kernel
theorem dX12_isStopped_0 : decode cX12_isStopped 0 = .ok (.aload_n 0, 1) := by decide +kernel
theorem dX12_isStopped_1 : decode cX12_isStopped 1 = .ok (.invokevirtual 179, 3) := by decide +kernel
theorem dX12_isStopped_4 : decode cX12_isStopped 4 = .ok (.aload_n 0, 1) := by decide +kernel
theorem dX12_isStopped_5 : decode cX12_isStopped 5 = .ok (.getfield 29, 3) := by decide +kernel
theorem dX12_isStopped_8 : decode cX12_isStopped 8 = .ok (.iload_n 1, 1) := by decide +kernel
theorem dX12_isStopped_9 : decode cX12_isStopped 9 = .ok (.laload, 1) := by decide +kernel
theorem dX12_isStopped_10 : decode cX12_isStopped 10 = .ok (.lconst 0, 1) := by decide +kernel
theorem dX12_isStopped_11 : decode cX12_isStopped 11 = .ok (.lcmp, 1) := by decide +kernel
theorem dX12_isStopped_12 : decode cX12_isStopped 12 = .ok (.ifCond .ne 7, 3) := by decide +kernel
theorem dX12_isStopped_15 : decode cX12_isStopped 15 = .ok (.iconst 1, 1) := by decide +kernel
theorem dX12_isStopped_16 : decode cX12_isStopped 16 = .ok (.goto 4, 3) := by decide +kernel
theorem dX12_isStopped_19 : decode cX12_isStopped 19 = .ok (.iconst 0, 1) := by decide +kernel
theorem dX12_isStopped_20 : decode cX12_isStopped 20 = .ok (.ireturn, 1) := by decide +kernel
theorem dX12_findCut_0 : decode cX12_findCut 0 = .ok (.iconst 0, 1) := by decide +kernel
theorem dX12_findCut_1 : decode cX12_findCut 1 = .ok (.istore_n 3, 1) := by decide +kernel
theorem dX12_findCut_2 : decode cX12_findCut 2 = .ok (.iload_n 3, 1) := by decide +kernel
theorem dX12_findCut_3 : decode cX12_findCut 3 = .ok (.iload_n 2, 1) := by decide +kernel
theorem dX12_findCut_4 : decode cX12_findCut 4 = .ok (.if_icmp .ge 16, 3) := by decide +kernel
theorem dX12_findCut_7 : decode cX12_findCut 7 = .ok (.aload_n 0, 1) := by decide +kernel
theorem dX12_findCut_8 : decode cX12_findCut 8 = .ok (.getfield 41, 3) := by decide +kernel
theorem dX12_findCut_11 : decode cX12_findCut 11 = .ok (.iload_n 3, 1) := by decide +kernel
theorem dX12_findCut_12 : decode cX12_findCut 12 = .ok (.iconst (-1), 1) := by decide +kernel
theorem dX12_findCut_13 : decode cX12_findCut 13 = .ok (.iastore, 1) := by decide +kernel
theorem dX12_findCut_14 : decode cX12_findCut 14 = .ok (.iinc 3 1, 3) := by decide +kernel
theorem dX12_findCut_17 : decode cX12_findCut 17 = .ok (.goto (-15), 3) := by decide +kernel
theorem dX12_findCut_20 : decode cX12_findCut 20 = .ok (.iconst 0, 1) := by decide +kernel
theorem dX12_findCut_21 : decode cX12_findCut 21 = .ok (.istore_n 3, 1) := by decide +kernel
theorem dX12_findCut_22 : decode cX12_findCut 22 = .ok (.iload_n 2, 1) := by decide +kernel
theorem dX12_findCut_23 : decode cX12_findCut 23 = .ok (.ifCond .ne 15, 3) := by decide +kernel
theorem dX12_findCut_26 : decode cX12_findCut 26 = .ok (.aload_n 0, 1) := by decide +kernel
theorem dX12_findCut_27 : decode cX12_findCut 27 = .ok (.iload_n 1, 1) := by decide +kernel
theorem dX12_findCut_28 : decode cX12_findCut 28 = .ok (.invokevirtual 205, 3) := by decide +kernel
theorem dX12_findCut_31 : decode cX12_findCut 31 = .ok (.ifCond .eq 7, 3) := by decide +kernel
theorem dX12_findCut_34 : decode cX12_findCut 34 = .ok (.iconst 1, 1) := by decide +kernel
theorem dX12_findCut_35 : decode cX12_findCut 35 = .ok (.goto 4, 3) := by decide +kernel
theorem dX12_findCut_38 : decode cX12_findCut 38 = .ok (.iconst 0, 1) := by decide +kernel
theorem dX12_findCut_39 : decode cX12_findCut 39 = .ok (.istore 4, 2) := by decide +kernel
theorem dX12_findCut_41 : decode cX12_findCut 41 = .ok (.iload_n 3, 1) := by decide +kernel
theorem dX12_findCut_42 : decode cX12_findCut 42 = .ok (.ifCond .lt 180, 3) := by decide +kernel
theorem dX12_findCut_45 : decode cX12_findCut 45 = .ok (.iload_n 3, 1) := by decide +kernel
theorem dX12_findCut_46 : decode cX12_findCut 46 = .ok (.iload_n 2, 1) := by decide +kernel
theorem dX12_findCut_47 : decode cX12_findCut 47 = .ok (.if_icmp .ge 175, 3) := by decide +kernel
theorem dX12_findCut_50 : decode cX12_findCut 50 = .ok (.iload 4, 2) := by decide +kernel
theorem dX12_findCut_52 : decode cX12_findCut 52 = .ok (.ifCond .ne 170, 3) := by decide +kernel
theorem dX12_findCut_55 : decode cX12_findCut 55 = .ok (.aload_n 0, 1) := by decide +kernel
theorem dX12_findCut_56 : decode cX12_findCut 56 = .ok (.getfield 41, 3) := by decide +kernel
theorem dX12_findCut_59 : decode cX12_findCut 59 = .ok (.iload_n 3, 1) := by decide +kernel
theorem dX12_findCut_60 : decode cX12_findCut 60 = .ok (.iaload, 1) := by decide +kernel
theorem dX12_findCut_61 : decode cX12_findCut 61 = .ok (.ifCond .lt 17, 3) := by decide +kernel
theorem dX12_findCut_64 : decode cX12_findCut 64 = .ok (.aload_n 0, 1) := by decide +kernel
theorem dX12_findCut_65 : decode cX12_findCut 65 = .ok (.aload_n 0, 1) := by decide +kernel
theorem dX12_findCut_66 : decode cX12_findCut 66 = .ok (.getfield 41, 3) := by decide +kernel
theorem dX12_findCut_69 : decode cX12_findCut 69 = .ok (.iload_n 3, 1) := by decide +kernel
theorem dX12_findCut_70 : decode cX12_findCut 70 = .ok (.iaload, 1) := by decide +kernel
theorem dX12_findCut_71 : decode cX12_findCut 71 = .ok (.iconst 1, 1) := by decide +kernel
theorem dX12_findCut_72 : decode cX12_findCut 72 = .ok (.invokevirtual 208, 3) := by decide +kernel
theorem dX12_findCut_75 : decode cX12_findCut 75 = .ok (.goto 25, 3) := by decide +kernel
theorem dX12_findCut_78 : decode cX12_findCut 78 = .ok (.aload_n 0, 1) := by decide +kernel
theorem dX12_findCut_79 : decode cX12_findCut 79 = .ok (.getfield 41, 3) := by decide +kernel
theorem dX12_findCut_82 : decode cX12_findCut 82 = .ok (.iload_n 3, 1) := by decide +kernel
theorem dX12_findCut_83 : decode cX12_findCut 83 = .ok (.iload_n 3, 1) := by decide +kernel
theorem dX12_findCut_84 : decode cX12_findCut 84 = .ok (.ifCond .ne 7, 3) := by decide +kernel
theorem dX12_findCut_87 : decode cX12_findCut 87 = .ok (.iconst (-1), 1) := by decide +kernel
theorem dX12_findCut_88 : decode cX12_findCut 88 = .ok (.goto 11, 3) := by decide +kernel
theorem dX12_findCut_91 : decode cX12_findCut 91 = .ok (.aload_n 0, 1) := by decide +kernel
theorem dX12_findCut_92 : decode cX12_findCut 92 = .ok (.getfield 41, 3) := by decide +kernel
theorem dX12_findCut_95 : decode cX12_findCut 95 = .ok (.iload_n 3, 1) := by decide +kernel
theorem dX12_findCut_96 : decode cX12_findCut 96 = .ok (.iconst 1, 1) := by decide +kernel
theorem dX12_findCut_97 : decode cX12_findCut 97 = .ok (.isub, 1) := by decide +kernel
theorem dX12_findCut_98 : decode cX12_findCut 98 = .ok (.iaload, 1) := by decide +kernel
theorem dX12_findCut_99 : decode cX12_findCut 99 = .ok (.iastore, 1) := by decide +kernel
theorem dX12_findCut_100 : decode cX12_findCut 100 = .ok (.aload_n 0, 1) := by decide +kernel
theorem dX12_findCut_101 : decode cX12_findCut 101 = .ok (.getfield 41, 3) := by decide +kernel
theorem dX12_findCut_104 : decode cX12_findCut 104 = .ok (.iload_n 3, 1) := by decide +kernel
theorem dX12_findCut_105 : decode cX12_findCut 105 = .ok (.dup2, 1) := by decide +kernel
theorem dX12_findCut_106 : decode cX12_findCut 106 = .ok (.iaload, 1) := by decide +kernel
theorem dX12_findCut_107 : decode cX12_findCut 107 = .ok (.iconst 1, 1) := by decide +kernel
theorem dX12_findCut_108 : decode cX12_findCut 108 = .ok (.iadd, 1) := by decide +kernel
theorem dX12_findCut_109 : decode cX12_findCut 109 = .ok (.iastore, 1) := by decide +kernel
theorem dX12_findCut_110 : decode cX12_findCut 110 = .ok (.aload_n 0, 1) := by decide +kernel
theorem dX12_findCut_111 : decode cX12_findCut 111 = .ok (.getfield 41, 3) := by decide +kernel
theorem dX12_findCut_114 : decode cX12_findCut 114 = .ok (.iload_n 3, 1) := by decide +kernel
theorem dX12_findCut_115 : decode cX12_findCut 115 = .ok (.iaload, 1) := by decide +kernel
theorem dX12_findCut_116 : decode cX12_findCut 116 = .ok (.bipush 36, 2) := by decide +kernel
theorem dX12_findCut_118 : decode cX12_findCut 118 = .ok (.if_icmp .ge 29, 3) := by decide +kernel
theorem dX12_findCut_121 : decode cX12_findCut 121 = .ok (.aload_n 0, 1) := by decide +kernel
theorem dX12_findCut_122 : decode cX12_findCut 122 = .ok (.aload_n 0, 1) := by decide +kernel
theorem dX12_findCut_123 : decode cX12_findCut 123 = .ok (.getfield 41, 3) := by decide +kernel
theorem dX12_findCut_126 : decode cX12_findCut 126 = .ok (.iload_n 3, 1) := by decide +kernel
theorem dX12_findCut_127 : decode cX12_findCut 127 = .ok (.iaload, 1) := by decide +kernel
theorem dX12_findCut_128 : decode cX12_findCut 128 = .ok (.invokevirtual 211, 3) := by decide +kernel
theorem dX12_findCut_131 : decode cX12_findCut 131 = .ok (.ifCond .ne 16, 3) := by decide +kernel
theorem dX12_findCut_134 : decode cX12_findCut 134 = .ok (.aload_n 0, 1) := by decide +kernel
theorem dX12_findCut_135 : decode cX12_findCut 135 = .ok (.getfield 41, 3) := by decide +kernel
theorem dX12_findCut_138 : decode cX12_findCut 138 = .ok (.iload_n 3, 1) := by decide +kernel
theorem dX12_findCut_139 : decode cX12_findCut 139 = .ok (.dup2, 1) := by decide +kernel
theorem dX12_findCut_140 : decode cX12_findCut 140 = .ok (.iaload, 1) := by decide +kernel
theorem dX12_findCut_141 : decode cX12_findCut 141 = .ok (.iconst 1, 1) := by decide +kernel
theorem dX12_findCut_142 : decode cX12_findCut 142 = .ok (.iadd, 1) := by decide +kernel
theorem dX12_findCut_143 : decode cX12_findCut 143 = .ok (.iastore, 1) := by decide +kernel
theorem dX12_findCut_144 : decode cX12_findCut 144 = .ok (.goto (-34), 3) := by decide +kernel
theorem dX12_findCut_147 : decode cX12_findCut 147 = .ok (.aload_n 0, 1) := by decide +kernel
theorem dX12_findCut_148 : decode cX12_findCut 148 = .ok (.getfield 41, 3) := by decide +kernel
theorem dX12_findCut_151 : decode cX12_findCut 151 = .ok (.iload_n 3, 1) := by decide +kernel
theorem dX12_findCut_152 : decode cX12_findCut 152 = .ok (.iaload, 1) := by decide +kernel
theorem dX12_findCut_153 : decode cX12_findCut 153 = .ok (.bipush 36, 2) := by decide +kernel
theorem dX12_findCut_155 : decode cX12_findCut 155 = .ok (.if_icmp .ne 16, 3) := by decide +kernel
theorem dX12_findCut_158 : decode cX12_findCut 158 = .ok (.aload_n 0, 1) := by decide +kernel
theorem dX12_findCut_159 : decode cX12_findCut 159 = .ok (.getfield 41, 3) := by decide +kernel
theorem dX12_findCut_162 : decode cX12_findCut 162 = .ok (.iload_n 3, 1) := by decide +kernel
theorem dX12_findCut_163 : decode cX12_findCut 163 = .ok (.iconst (-1), 1) := by decide +kernel
theorem dX12_findCut_164 : decode cX12_findCut 164 = .ok (.iastore, 1) := by decide +kernel
theorem dX12_findCut_165 : decode cX12_findCut 165 = .ok (.iinc 3 (-1), 3) := by decide +kernel
theorem dX12_findCut_168 : decode cX12_findCut 168 = .ok (.goto (-127), 3) := by decide +kernel
theorem dX12_findCut_171 : decode cX12_findCut 171 = .ok (.aload_n 0, 1) := by decide +kernel
theorem dX12_findCut_172 : decode cX12_findCut 172 = .ok (.aload_n 0, 1) := by decide +kernel
theorem dX12_findCut_173 : decode cX12_findCut 173 = .ok (.getfield 41, 3) := by decide +kernel
theorem dX12_findCut_176 : decode cX12_findCut 176 = .ok (.iload_n 3, 1) := by decide +kernel
theorem dX12_findCut_177 : decode cX12_findCut 177 = .ok (.iaload, 1) := by decide +kernel
theorem dX12_findCut_178 : decode cX12_findCut 178 = .ok (.iconst 0, 1) := by decide +kernel
theorem dX12_findCut_179 : decode cX12_findCut 179 = .ok (.invokevirtual 208, 3) := by decide +kernel
theorem dX12_findCut_182 : decode cX12_findCut 182 = .ok (.iload_n 3, 1) := by decide +kernel
theorem dX12_findCut_183 : decode cX12_findCut 183 = .ok (.iload_n 2, 1) := by decide +kernel
theorem dX12_findCut_184 : decode cX12_findCut 184 = .ok (.iconst 1, 1) := by decide +kernel
theorem dX12_findCut_185 : decode cX12_findCut 185 = .ok (.isub, 1) := by decide +kernel
theorem dX12_findCut_186 : decode cX12_findCut 186 = .ok (.if_icmp .ne 15, 3) := by decide +kernel
theorem dX12_findCut_189 : decode cX12_findCut 189 = .ok (.aload_n 0, 1) := by decide +kernel
theorem dX12_findCut_190 : decode cX12_findCut 190 = .ok (.iload_n 1, 1) := by decide +kernel
theorem dX12_findCut_191 : decode cX12_findCut 191 = .ok (.invokevirtual 205, 3) := by decide +kernel
theorem dX12_findCut_194 : decode cX12_findCut 194 = .ok (.ifCond .eq 7, 3) := by decide +kernel
theorem dX12_findCut_197 : decode cX12_findCut 197 = .ok (.iconst 1, 1) := by decide +kernel
theorem dX12_findCut_198 : decode cX12_findCut 198 = .ok (.goto 4, 3) := by decide +kernel
theorem dX12_findCut_201 : decode cX12_findCut 201 = .ok (.iconst 0, 1) := by decide +kernel
theorem dX12_findCut_202 : decode cX12_findCut 202 = .ok (.istore 4, 2) := by decide +kernel
theorem dX12_findCut_204 : decode cX12_findCut 204 = .ok (.iload_n 3, 1) := by decide +kernel
theorem dX12_findCut_205 : decode cX12_findCut 205 = .ok (.iload_n 3, 1) := by decide +kernel
theorem dX12_findCut_206 : decode cX12_findCut 206 = .ok (.iload_n 2, 1) := by decide +kernel
theorem dX12_findCut_207 : decode cX12_findCut 207 = .ok (.iconst 1, 1) := by decide +kernel
theorem dX12_findCut_208 : decode cX12_findCut 208 = .ok (.isub, 1) := by decide +kernel
theorem dX12_findCut_209 : decode cX12_findCut 209 = .ok (.if_icmp .ge 7, 3) := by decide +kernel
theorem dX12_findCut_212 : decode cX12_findCut 212 = .ok (.iconst 1, 1) := by decide +kernel
theorem dX12_findCut_213 : decode cX12_findCut 213 = .ok (.goto 4, 3) := by decide +kernel
theorem dX12_findCut_216 : decode cX12_findCut 216 = .ok (.iconst 0, 1) := by decide +kernel
theorem dX12_findCut_217 : decode cX12_findCut 217 = .ok (.iadd, 1) := by decide +kernel
theorem dX12_findCut_218 : decode cX12_findCut 218 = .ok (.istore_n 3, 1) := by decide +kernel
theorem dX12_findCut_219 : decode cX12_findCut 219 = .ok (.goto (-178), 3) := by decide +kernel
theorem dX12_findCut_222 : decode cX12_findCut 222 = .ok (.iconst 0, 1) := by decide +kernel
theorem dX12_findCut_223 : decode cX12_findCut 223 = .ok (.istore 5, 2) := by decide +kernel
theorem dX12_findCut_225 : decode cX12_findCut 225 = .ok (.iload 5, 2) := by decide +kernel
theorem dX12_findCut_227 : decode cX12_findCut 227 = .ok (.iload_n 2, 1) := by decide +kernel
theorem dX12_findCut_228 : decode cX12_findCut 228 = .ok (.if_icmp .ge 31, 3) := by decide +kernel
theorem dX12_findCut_231 : decode cX12_findCut 231 = .ok (.aload_n 0, 1) := by decide +kernel
theorem dX12_findCut_232 : decode cX12_findCut 232 = .ok (.getfield 41, 3) := by decide +kernel
theorem dX12_findCut_235 : decode cX12_findCut 235 = .ok (.iload 5, 2) := by decide +kernel
theorem dX12_findCut_237 : decode cX12_findCut 237 = .ok (.iaload, 1) := by decide +kernel
theorem dX12_findCut_238 : decode cX12_findCut 238 = .ok (.ifCond .lt 15, 3) := by decide +kernel
theorem dX12_findCut_241 : decode cX12_findCut 241 = .ok (.aload_n 0, 1) := by decide +kernel
theorem dX12_findCut_242 : decode cX12_findCut 242 = .ok (.aload_n 0, 1) := by decide +kernel
theorem dX12_findCut_243 : decode cX12_findCut 243 = .ok (.getfield 41, 3) := by decide +kernel
theorem dX12_findCut_246 : decode cX12_findCut 246 = .ok (.iload 5, 2) := by decide +kernel
theorem dX12_findCut_248 : decode cX12_findCut 248 = .ok (.iaload, 1) := by decide +kernel
theorem dX12_findCut_249 : decode cX12_findCut 249 = .ok (.iconst 1, 1) := by decide +kernel
theorem dX12_findCut_250 : decode cX12_findCut 250 = .ok (.invokevirtual 208, 3) := by decide +kernel
theorem dX12_findCut_253 : decode cX12_findCut 253 = .ok (.iinc 5 1, 3) := by decide +kernel
theorem dX12_findCut_256 : decode cX12_findCut 256 = .ok (.goto (-31), 3) := by decide +kernel
theorem dX12_findCut_259 : decode cX12_findCut 259 = .ok (.iload 4, 2) := by decide +kernel
theorem dX12_findCut_261 : decode cX12_findCut 261 = .ok (.ireturn, 1) := by decide +kernel
theorem dX12_findSize_0 : decode cX12_findSize 0 = .ok (.iconst 0, 1) := by decide +kernel
theorem dX12_findSize_1 : decode cX12_findSize 1 = .ok (.istore_n 2, 1) := by decide +kernel
theorem dX12_findSize_2 : decode cX12_findSize 2 = .ok (.iload_n 2, 1) := by decide +kernel
theorem dX12_findSize_3 : decode cX12_findSize 3 = .ok (.iconst 4, 1) := by decide +kernel
theorem dX12_findSize_4 : decode cX12_findSize 4 = .ok (.if_icmp .ge 20, 3) := by decide +kernel
theorem dX12_findSize_7 : decode cX12_findSize 7 = .ok (.aload_n 0, 1) := by decide +kernel
theorem dX12_findSize_8 : decode cX12_findSize 8 = .ok (.iload_n 1, 1) := by decide +kernel
theorem dX12_findSize_9 : decode cX12_findSize 9 = .ok (.iload_n 2, 1) := by decide +kernel
theorem dX12_findSize_10 : decode cX12_findSize 10 = .ok (.invokevirtual 214, 3) := by decide +kernel
theorem dX12_findSize_13 : decode cX12_findSize 13 = .ok (.ifCond .eq 5, 3) := by decide +kernel
theorem dX12_findSize_16 : decode cX12_findSize 16 = .ok (.iload_n 2, 1) := by decide +kernel
theorem dX12_findSize_17 : decode cX12_findSize 17 = .ok (.ireturn, 1) := by decide +kernel
theorem dX12_findSize_18 : decode cX12_findSize 18 = .ok (.iinc 2 1, 3) := by decide +kernel
theorem dX12_findSize_21 : decode cX12_findSize 21 = .ok (.goto (-19), 3) := by decide +kernel
theorem dX12_findSize_24 : decode cX12_findSize 24 = .ok (.bipush (-6), 2) := by decide +kernel
theorem dX12_findSize_26 : decode cX12_findSize 26 = .ok (.ireturn, 1) := by decide +kernel
theorem dX12_cutSize_0 : decode cX12_cutSize 0 = .ok (.iload_n 1, 1) := by decide +kernel
theorem dX12_cutSize_1 : decode cX12_cutSize 1 = .ok (.iload_n 2, 1) := by decide +kernel
theorem dX12_cutSize_2 : decode cX12_cutSize 2 = .ok (.invokestatic 106, 3) := by decide +kernel
theorem dX12_cutSize_5 : decode cX12_cutSize 5 = .ok (.ifCond .eq 7, 3) := by decide +kernel
theorem dX12_cutSize_8 : decode cX12_cutSize 8 = .ok (.iconst (-1), 1) := by decide +kernel
theorem dX12_cutSize_9 : decode cX12_cutSize 9 = .ok (.goto 12, 3) := by decide +kernel
theorem dX12_cutSize_12 : decode cX12_cutSize 12 = .ok (.aload_n 0, 1) := by decide +kernel
theorem dX12_cutSize_13 : decode cX12_cutSize 13 = .ok (.iconst 4, 1) := by decide +kernel
theorem dX12_cutSize_14 : decode cX12_cutSize 14 = .ok (.iload_n 1, 1) := by decide +kernel
theorem dX12_cutSize_15 : decode cX12_cutSize 15 = .ok (.imul, 1) := by decide +kernel
theorem dX12_cutSize_16 : decode cX12_cutSize 16 = .ok (.iload_n 2, 1) := by decide +kernel
theorem dX12_cutSize_17 : decode cX12_cutSize 17 = .ok (.iadd, 1) := by decide +kernel
theorem dX12_cutSize_18 : decode cX12_cutSize 18 = .ok (.invokevirtual 217, 3) := by decide +kernel
theorem dX12_cutSize_21 : decode cX12_cutSize 21 = .ok (.ireturn, 1) := by decide +kernel
theorem dX12_cutRule_0 : decode cX12_cutRule 0 = .ok (.iload_n 1, 1) := by decide +kernel
theorem dX12_cutRule_1 : decode cX12_cutRule 1 = .ok (.iload_n 2, 1) := by decide +kernel
theorem dX12_cutRule_2 : decode cX12_cutRule 2 = .ok (.invokestatic 106, 3) := by decide +kernel
theorem dX12_cutRule_5 : decode cX12_cutRule 5 = .ok (.ifCond .eq 5, 3) := by decide +kernel
theorem dX12_cutRule_8 : decode cX12_cutRule 8 = .ok (.iconst (-1), 1) := by decide +kernel
theorem dX12_cutRule_9 : decode cX12_cutRule 9 = .ok (.ireturn, 1) := by decide +kernel
theorem dX12_cutRule_10 : decode cX12_cutRule 10 = .ok (.iload_n 3, 1) := by decide +kernel
theorem dX12_cutRule_11 : decode cX12_cutRule 11 = .ok (.ifCond .ge 6, 3) := by decide +kernel
theorem dX12_cutRule_14 : decode cX12_cutRule 14 = .ok (.bipush (-3), 2) := by decide +kernel
theorem dX12_cutRule_16 : decode cX12_cutRule 16 = .ok (.ireturn, 1) := by decide +kernel
theorem dX12_cutRule_17 : decode cX12_cutRule 17 = .ok (.aload_n 0, 1) := by decide +kernel
theorem dX12_cutRule_18 : decode cX12_cutRule 18 = .ok (.iconst 4, 1) := by decide +kernel
theorem dX12_cutRule_19 : decode cX12_cutRule 19 = .ok (.iload_n 1, 1) := by decide +kernel
theorem dX12_cutRule_20 : decode cX12_cutRule 20 = .ok (.imul, 1) := by decide +kernel
theorem dX12_cutRule_21 : decode cX12_cutRule 21 = .ok (.iload_n 2, 1) := by decide +kernel
theorem dX12_cutRule_22 : decode cX12_cutRule 22 = .ok (.iadd, 1) := by decide +kernel
theorem dX12_cutRule_23 : decode cX12_cutRule 23 = .ok (.invokevirtual 217, 3) := by decide +kernel
theorem dX12_cutRule_26 : decode cX12_cutRule 26 = .ok (.istore 4, 2) := by decide +kernel
theorem dX12_cutRule_28 : decode cX12_cutRule 28 = .ok (.iload_n 3, 1) := by decide +kernel
theorem dX12_cutRule_29 : decode cX12_cutRule 29 = .ok (.iload 4, 2) := by decide +kernel
theorem dX12_cutRule_31 : decode cX12_cutRule 31 = .ok (.if_icmp .ge 28, 3) := by decide +kernel
theorem dX12_cutRule_34 : decode cX12_cutRule 34 = .ok (.bipush 10, 2) := by decide +kernel
theorem dX12_cutRule_36 : decode cX12_cutRule 36 = .ok (.aload_n 0, 1) := by decide +kernel
theorem dX12_cutRule_37 : decode cX12_cutRule 37 = .ok (.getfield 41, 3) := by decide +kernel
theorem dX12_cutRule_40 : decode cX12_cutRule 40 = .ok (.iload_n 3, 1) := by decide +kernel
theorem dX12_cutRule_41 : decode cX12_cutRule 41 = .ok (.iaload, 1) := by decide +kernel
theorem dX12_cutRule_42 : decode cX12_cutRule 42 = .ok (.bipush 6, 2) := by decide +kernel
theorem dX12_cutRule_44 : decode cX12_cutRule 44 = .ok (.idiv, 1) := by decide +kernel
theorem dX12_cutRule_45 : decode cX12_cutRule 45 = .ok (.imul, 1) := by decide +kernel
theorem dX12_cutRule_46 : decode cX12_cutRule 46 = .ok (.aload_n 0, 1) := by decide +kernel
theorem dX12_cutRule_47 : decode cX12_cutRule 47 = .ok (.getfield 41, 3) := by decide +kernel
theorem dX12_cutRule_50 : decode cX12_cutRule 50 = .ok (.iload_n 3, 1) := by decide +kernel
theorem dX12_cutRule_51 : decode cX12_cutRule 51 = .ok (.iaload, 1) := by decide +kernel
theorem dX12_cutRule_52 : decode cX12_cutRule 52 = .ok (.bipush 6, 2) := by decide +kernel
theorem dX12_cutRule_54 : decode cX12_cutRule 54 = .ok (.irem, 1) := by decide +kernel
theorem dX12_cutRule_55 : decode cX12_cutRule 55 = .ok (.iadd, 1) := by decide +kernel
theorem dX12_cutRule_56 : decode cX12_cutRule 56 = .ok (.goto 5, 3) := by decide +kernel
theorem dX12_cutRule_59 : decode cX12_cutRule 59 = .ok (.bipush (-6), 2) := by decide +kernel
theorem dX12_cutRule_61 : decode cX12_cutRule 61 = .ok (.ireturn, 1) := by decide +kernel
theorem dX12_addPolicy_0 : decode cX12_addPolicy 0 = .ok (.iload_n 2, 1) := by decide +kernel
theorem dX12_addPolicy_1 : decode cX12_addPolicy 1 = .ok (.iload_n 3, 1) := by decide +kernel
theorem dX12_addPolicy_2 : decode cX12_addPolicy 2 = .ok (.invokestatic 106, 3) := by decide +kernel
theorem dX12_addPolicy_5 : decode cX12_addPolicy 5 = .ok (.ifCond .ne 13, 3) := by decide +kernel
theorem dX12_addPolicy_8 : decode cX12_addPolicy 8 = .ok (.iload 4, 2) := by decide +kernel
theorem dX12_addPolicy_10 : decode cX12_addPolicy 10 = .ok (.iload 5, 2) := by decide +kernel
theorem dX12_addPolicy_12 : decode cX12_addPolicy 12 = .ok (.invokestatic 106, 3) := by decide +kernel
theorem dX12_addPolicy_15 : decode cX12_addPolicy 15 = .ok (.ifCond .eq 5, 3) := by decide +kernel
theorem dX12_addPolicy_18 : decode cX12_addPolicy 18 = .ok (.iconst (-1), 1) := by decide +kernel
theorem dX12_addPolicy_19 : decode cX12_addPolicy 19 = .ok (.ireturn, 1) := by decide +kernel
theorem dX12_addPolicy_20 : decode cX12_addPolicy 20 = .ok (.aload_n 0, 1) := by decide +kernel
theorem dX12_addPolicy_21 : decode cX12_addPolicy 21 = .ok (.getfield 88, 3) := by decide +kernel
theorem dX12_addPolicy_24 : decode cX12_addPolicy 24 = .ok (.bipush 8, 2) := by decide +kernel
theorem dX12_addPolicy_26 : decode cX12_addPolicy 26 = .ok (.if_icmp .ne 6, 3) := by decide +kernel
theorem dX12_addPolicy_29 : decode cX12_addPolicy 29 = .ok (.bipush (-5), 2) := by decide +kernel
theorem dX12_addPolicy_31 : decode cX12_addPolicy 31 = .ok (.ireturn, 1) := by decide +kernel
theorem dX12_addPolicy_32 : decode cX12_addPolicy 32 = .ok (.aload_n 0, 1) := by decide +kernel
theorem dX12_addPolicy_33 : decode cX12_addPolicy 33 = .ok (.getfield 44, 3) := by decide +kernel
theorem dX12_addPolicy_36 : decode cX12_addPolicy 36 = .ok (.aload_n 0, 1) := by decide +kernel
theorem dX12_addPolicy_37 : decode cX12_addPolicy 37 = .ok (.getfield 88, 3) := by decide +kernel
theorem dX12_addPolicy_40 : decode cX12_addPolicy 40 = .ok (.iload_n 1, 1) := by decide +kernel
theorem dX12_addPolicy_41 : decode cX12_addPolicy 41 = .ok (.bastore, 1) := by decide +kernel
theorem dX12_addPolicy_42 : decode cX12_addPolicy 42 = .ok (.aload_n 0, 1) := by decide +kernel
theorem dX12_addPolicy_43 : decode cX12_addPolicy 43 = .ok (.getfield 48, 3) := by decide +kernel
theorem dX12_addPolicy_46 : decode cX12_addPolicy 46 = .ok (.aload_n 0, 1) := by decide +kernel
theorem dX12_addPolicy_47 : decode cX12_addPolicy 47 = .ok (.getfield 88, 3) := by decide +kernel
theorem dX12_addPolicy_50 : decode cX12_addPolicy 50 = .ok (.iconst 4, 1) := by decide +kernel
theorem dX12_addPolicy_51 : decode cX12_addPolicy 51 = .ok (.iload_n 2, 1) := by decide +kernel
theorem dX12_addPolicy_52 : decode cX12_addPolicy 52 = .ok (.imul, 1) := by decide +kernel
theorem dX12_addPolicy_53 : decode cX12_addPolicy 53 = .ok (.iload_n 3, 1) := by decide +kernel
theorem dX12_addPolicy_54 : decode cX12_addPolicy 54 = .ok (.iadd, 1) := by decide +kernel
theorem dX12_addPolicy_55 : decode cX12_addPolicy 55 = .ok (.iastore, 1) := by decide +kernel
theorem dX12_addPolicy_56 : decode cX12_addPolicy 56 = .ok (.aload_n 0, 1) := by decide +kernel
theorem dX12_addPolicy_57 : decode cX12_addPolicy 57 = .ok (.getfield 51, 3) := by decide +kernel
theorem dX12_addPolicy_60 : decode cX12_addPolicy 60 = .ok (.aload_n 0, 1) := by decide +kernel
theorem dX12_addPolicy_61 : decode cX12_addPolicy 61 = .ok (.getfield 88, 3) := by decide +kernel
theorem dX12_addPolicy_64 : decode cX12_addPolicy 64 = .ok (.iconst 4, 1) := by decide +kernel
theorem dX12_addPolicy_65 : decode cX12_addPolicy 65 = .ok (.iload 4, 2) := by decide +kernel
theorem dX12_addPolicy_67 : decode cX12_addPolicy 67 = .ok (.imul, 1) := by decide +kernel
theorem dX12_addPolicy_68 : decode cX12_addPolicy 68 = .ok (.iload 5, 2) := by decide +kernel
theorem dX12_addPolicy_70 : decode cX12_addPolicy 70 = .ok (.iadd, 1) := by decide +kernel
theorem dX12_addPolicy_71 : decode cX12_addPolicy 71 = .ok (.iastore, 1) := by decide +kernel
theorem dX12_addPolicy_72 : decode cX12_addPolicy 72 = .ok (.aload_n 0, 1) := by decide +kernel
theorem dX12_addPolicy_73 : decode cX12_addPolicy 73 = .ok (.getfield 54, 3) := by decide +kernel
theorem dX12_addPolicy_76 : decode cX12_addPolicy 76 = .ok (.aload_n 0, 1) := by decide +kernel
theorem dX12_addPolicy_77 : decode cX12_addPolicy 77 = .ok (.getfield 88, 3) := by decide +kernel
theorem dX12_addPolicy_80 : decode cX12_addPolicy 80 = .ok (.iconst 0, 1) := by decide +kernel
theorem dX12_addPolicy_81 : decode cX12_addPolicy 81 = .ok (.iastore, 1) := by decide +kernel
theorem dX12_addPolicy_82 : decode cX12_addPolicy 82 = .ok (.aload_n 0, 1) := by decide +kernel
theorem dX12_addPolicy_83 : decode cX12_addPolicy 83 = .ok (.getfield 57, 3) := by decide +kernel
theorem dX12_addPolicy_86 : decode cX12_addPolicy 86 = .ok (.aload_n 0, 1) := by decide +kernel
theorem dX12_addPolicy_87 : decode cX12_addPolicy 87 = .ok (.getfield 88, 3) := by decide +kernel
theorem dX12_addPolicy_90 : decode cX12_addPolicy 90 = .ok (.iconst 0, 1) := by decide +kernel
theorem dX12_addPolicy_91 : decode cX12_addPolicy 91 = .ok (.iastore, 1) := by decide +kernel
theorem dX12_addPolicy_92 : decode cX12_addPolicy 92 = .ok (.aload_n 0, 1) := by decide +kernel
theorem dX12_addPolicy_93 : decode cX12_addPolicy 93 = .ok (.dup, 1) := by decide +kernel
theorem dX12_addPolicy_94 : decode cX12_addPolicy 94 = .ok (.getfield 88, 3) := by decide +kernel
theorem dX12_addPolicy_97 : decode cX12_addPolicy 97 = .ok (.iconst 1, 1) := by decide +kernel
theorem dX12_addPolicy_98 : decode cX12_addPolicy 98 = .ok (.iadd, 1) := by decide +kernel
theorem dX12_addPolicy_99 : decode cX12_addPolicy 99 = .ok (.putfield 88, 3) := by decide +kernel
theorem dX12_addPolicy_102 : decode cX12_addPolicy 102 = .ok (.aload_n 0, 1) := by decide +kernel
theorem dX12_addPolicy_103 : decode cX12_addPolicy 103 = .ok (.getfield 88, 3) := by decide +kernel
theorem dX12_addPolicy_106 : decode cX12_addPolicy 106 = .ok (.iconst 1, 1) := by decide +kernel
theorem dX12_addPolicy_107 : decode cX12_addPolicy 107 = .ok (.isub, 1) := by decide +kernel
theorem dX12_addPolicy_108 : decode cX12_addPolicy 108 = .ok (.ireturn, 1) := by decide +kernel
theorem dX12_noPolicy_0 : decode cX12_noPolicy 0 = .ok (.iload_n 1, 1) := by decide +kernel
theorem dX12_noPolicy_1 : decode cX12_noPolicy 1 = .ok (.iconst 0, 1) := by decide +kernel
theorem dX12_noPolicy_2 : decode cX12_noPolicy 2 = .ok (.aload_n 0, 1) := by decide +kernel
theorem dX12_noPolicy_3 : decode cX12_noPolicy 3 = .ok (.getfield 88, 3) := by decide +kernel
theorem dX12_noPolicy_6 : decode cX12_noPolicy 6 = .ok (.iconst 1, 1) := by decide +kernel
theorem dX12_noPolicy_7 : decode cX12_noPolicy 7 = .ok (.isub, 1) := by decide +kernel
theorem dX12_noPolicy_8 : decode cX12_noPolicy 8 = .ok (.invokestatic 94, 3) := by decide +kernel
theorem dX12_noPolicy_11 : decode cX12_noPolicy 11 = .ok (.ifCond .ne 7, 3) := by decide +kernel
theorem dX12_noPolicy_14 : decode cX12_noPolicy 14 = .ok (.iconst 1, 1) := by decide +kernel
theorem dX12_noPolicy_15 : decode cX12_noPolicy 15 = .ok (.goto 4, 3) := by decide +kernel
theorem dX12_noPolicy_18 : decode cX12_noPolicy 18 = .ok (.iconst 0, 1) := by decide +kernel
theorem dX12_noPolicy_19 : decode cX12_noPolicy 19 = .ok (.ireturn, 1) := by decide +kernel
theorem dX12_setPolicyCube_0 : decode cX12_setPolicyCube 0 = .ok (.aload_n 0, 1) := by decide +kernel
theorem dX12_setPolicyCube_1 : decode cX12_setPolicyCube 1 = .ok (.iload_n 1, 1) := by decide +kernel
theorem dX12_setPolicyCube_2 : decode cX12_setPolicyCube 2 = .ok (.invokevirtual 220, 3) := by decide +kernel
theorem dX12_setPolicyCube_5 : decode cX12_setPolicyCube 5 = .ok (.ifCond .ne 19, 3) := by decide +kernel
theorem dX12_setPolicyCube_8 : decode cX12_setPolicyCube 8 = .ok (.aload_n 0, 1) := by decide +kernel
theorem dX12_setPolicyCube_9 : decode cX12_setPolicyCube 9 = .ok (.iload_n 2, 1) := by decide +kernel
theorem dX12_setPolicyCube_10 : decode cX12_setPolicyCube 10 = .ok (.invokevirtual 122, 3) := by decide +kernel
theorem dX12_setPolicyCube_13 : decode cX12_setPolicyCube 13 = .ok (.ifCond .ne 11, 3) := by decide +kernel
theorem dX12_setPolicyCube_16 : decode cX12_setPolicyCube 16 = .ok (.aload_n 0, 1) := by decide +kernel
theorem dX12_setPolicyCube_17 : decode cX12_setPolicyCube 17 = .ok (.iload_n 3, 1) := by decide +kernel
theorem dX12_setPolicyCube_18 : decode cX12_setPolicyCube 18 = .ok (.invokevirtual 122, 3) := by decide +kernel
theorem dX12_setPolicyCube_21 : decode cX12_setPolicyCube 21 = .ok (.ifCond .eq 6, 3) := by decide +kernel
theorem dX12_setPolicyCube_24 : decode cX12_setPolicyCube 24 = .ok (.bipush (-3), 2) := by decide +kernel
theorem dX12_setPolicyCube_26 : decode cX12_setPolicyCube 26 = .ok (.ireturn, 1) := by decide +kernel
theorem dX12_setPolicyCube_27 : decode cX12_setPolicyCube 27 = .ok (.aload_n 0, 1) := by decide +kernel
theorem dX12_setPolicyCube_28 : decode cX12_setPolicyCube 28 = .ok (.getfield 54, 3) := by decide +kernel
theorem dX12_setPolicyCube_31 : decode cX12_setPolicyCube 31 = .ok (.iload_n 1, 1) := by decide +kernel
theorem dX12_setPolicyCube_32 : decode cX12_setPolicyCube 32 = .ok (.iload_n 2, 1) := by decide +kernel
theorem dX12_setPolicyCube_33 : decode cX12_setPolicyCube 33 = .ok (.iastore, 1) := by decide +kernel
theorem dX12_setPolicyCube_34 : decode cX12_setPolicyCube 34 = .ok (.aload_n 0, 1) := by decide +kernel
theorem dX12_setPolicyCube_35 : decode cX12_setPolicyCube 35 = .ok (.getfield 57, 3) := by decide +kernel
theorem dX12_setPolicyCube_38 : decode cX12_setPolicyCube 38 = .ok (.iload_n 1, 1) := by decide +kernel
theorem dX12_setPolicyCube_39 : decode cX12_setPolicyCube 39 = .ok (.iload_n 3, 1) := by decide +kernel
theorem dX12_setPolicyCube_40 : decode cX12_setPolicyCube 40 = .ok (.iload_n 2, 1) := by decide +kernel
theorem dX12_setPolicyCube_41 : decode cX12_setPolicyCube 41 = .ok (.iand, 1) := by decide +kernel
theorem dX12_setPolicyCube_42 : decode cX12_setPolicyCube 42 = .ok (.iastore, 1) := by decide +kernel
theorem dX12_setPolicyCube_43 : decode cX12_setPolicyCube 43 = .ok (.aload_n 0, 1) := by decide +kernel
theorem dX12_setPolicyCube_44 : decode cX12_setPolicyCube 44 = .ok (.iload_n 2, 1) := by decide +kernel
theorem dX12_setPolicyCube_45 : decode cX12_setPolicyCube 45 = .ok (.iload_n 3, 1) := by decide +kernel
theorem dX12_setPolicyCube_46 : decode cX12_setPolicyCube 46 = .ok (.invokevirtual 185, 3) := by decide +kernel
theorem dX12_setPolicyCube_49 : decode cX12_setPolicyCube 49 = .ok (.invokestatic 172, 3) := by decide +kernel
theorem dX12_setPolicyCube_52 : decode cX12_setPolicyCube 52 = .ok (.ireturn, 1) := by decide +kernel
theorem dX12_against_0 : decode cX12_against 0 = .ok (.lconst 0, 1) := by decide +kernel
theorem dX12_against_1 : decode cX12_against 1 = .ok (.lstore_n 2, 1) := by decide +kernel
theorem dX12_against_2 : decode cX12_against 2 = .ok (.iconst 0, 1) := by decide +kernel
theorem dX12_against_3 : decode cX12_against 3 = .ok (.istore 4, 2) := by decide +kernel
theorem dX12_against_5 : decode cX12_against 5 = .ok (.iload 4, 2) := by decide +kernel
theorem dX12_against_7 : decode cX12_against 7 = .ok (.aload_n 0, 1) := by decide +kernel
theorem dX12_against_8 : decode cX12_against 8 = .ok (.invokevirtual 98, 3) := by decide +kernel
theorem dX12_against_11 : decode cX12_against 11 = .ok (.if_icmp .ge 86, 3) := by decide +kernel
theorem dX12_against_14 : decode cX12_against 14 = .ok (.iload 4, 2) := by decide +kernel
theorem dX12_against_16 : decode cX12_against 16 = .ok (.aload_n 0, 1) := by decide +kernel
theorem dX12_against_17 : decode cX12_against 17 = .ok (.getfield 54, 3) := by decide +kernel
theorem dX12_against_20 : decode cX12_against 20 = .ok (.iload_n 1, 1) := by decide +kernel
theorem dX12_against_21 : decode cX12_against 21 = .ok (.iaload, 1) := by decide +kernel
theorem dX12_against_22 : decode cX12_against 22 = .ok (.iand, 1) := by decide +kernel
theorem dX12_against_23 : decode cX12_against 23 = .ok (.aload_n 0, 1) := by decide +kernel
theorem dX12_against_24 : decode cX12_against 24 = .ok (.getfield 57, 3) := by decide +kernel
theorem dX12_against_27 : decode cX12_against 27 = .ok (.iload_n 1, 1) := by decide +kernel
theorem dX12_against_28 : decode cX12_against 28 = .ok (.iaload, 1) := by decide +kernel
theorem dX12_against_29 : decode cX12_against 29 = .ok (.if_icmp .ne 62, 3) := by decide +kernel
theorem dX12_against_32 : decode cX12_against 32 = .ok (.aload_n 0, 1) := by decide +kernel
theorem dX12_against_33 : decode cX12_against 33 = .ok (.aload_n 0, 1) := by decide +kernel
theorem dX12_against_34 : decode cX12_against 34 = .ok (.getfield 48, 3) := by decide +kernel
theorem dX12_against_37 : decode cX12_against 37 = .ok (.iload_n 1, 1) := by decide +kernel
theorem dX12_against_38 : decode cX12_against 38 = .ok (.iaload, 1) := by decide +kernel
theorem dX12_against_39 : decode cX12_against 39 = .ok (.lconst 1, 1) := by decide +kernel
theorem dX12_against_40 : decode cX12_against 40 = .ok (.iload 4, 2) := by decide +kernel
theorem dX12_against_42 : decode cX12_against 42 = .ok (.lshl, 1) := by decide +kernel
theorem dX12_against_43 : decode cX12_against 43 = .ok (.invokevirtual 168, 3) := by decide +kernel
theorem dX12_against_46 : decode cX12_against 46 = .ok (.aload_n 0, 1) := by decide +kernel
theorem dX12_against_47 : decode cX12_against 47 = .ok (.getfield 29, 3) := by decide +kernel
theorem dX12_against_50 : decode cX12_against 50 = .ok (.aload_n 0, 1) := by decide +kernel
theorem dX12_against_51 : decode cX12_against 51 = .ok (.getfield 51, 3) := by decide +kernel
theorem dX12_against_54 : decode cX12_against 54 = .ok (.iload_n 1, 1) := by decide +kernel
theorem dX12_against_55 : decode cX12_against 55 = .ok (.iaload, 1) := by decide +kernel
theorem dX12_against_56 : decode cX12_against 56 = .ok (.laload, 1) := by decide +kernel
theorem dX12_against_57 : decode cX12_against 57 = .ok (.lconst 0, 1) := by decide +kernel
theorem dX12_against_58 : decode cX12_against 58 = .ok (.lcmp, 1) := by decide +kernel
theorem dX12_against_59 : decode cX12_against 59 = .ok (.ifCond .eq 7, 3) := by decide +kernel
theorem dX12_against_62 : decode cX12_against 62 = .ok (.iconst 1, 1) := by decide +kernel
theorem dX12_against_63 : decode cX12_against 63 = .ok (.goto 4, 3) := by decide +kernel
theorem dX12_against_66 : decode cX12_against 66 = .ok (.iconst 0, 1) := by decide +kernel
theorem dX12_against_67 : decode cX12_against 67 = .ok (.istore 5, 2) := by decide +kernel
theorem dX12_against_69 : decode cX12_against 69 = .ok (.lload_n 2, 1) := by decide +kernel
theorem dX12_against_70 : decode cX12_against 70 = .ok (.iload 5, 2) := by decide +kernel
theorem dX12_against_72 : decode cX12_against 72 = .ok (.aload_n 0, 1) := by decide +kernel
theorem dX12_against_73 : decode cX12_against 73 = .ok (.getfield 44, 3) := by decide +kernel
theorem dX12_against_76 : decode cX12_against 76 = .ok (.iload_n 1, 1) := by decide +kernel
theorem dX12_against_77 : decode cX12_against 77 = .ok (.baload, 1) := by decide +kernel
theorem dX12_against_78 : decode cX12_against 78 = .ok (.if_icmp .eq 10, 3) := by decide +kernel
theorem dX12_against_81 : decode cX12_against 81 = .ok (.lconst 1, 1) := by decide +kernel
theorem dX12_against_82 : decode cX12_against 82 = .ok (.iload 4, 2) := by decide +kernel
theorem dX12_against_84 : decode cX12_against 84 = .ok (.lshl, 1) := by decide +kernel
theorem dX12_against_85 : decode cX12_against 85 = .ok (.goto 4, 3) := by decide +kernel
theorem dX12_against_88 : decode cX12_against 88 = .ok (.lconst 0, 1) := by decide +kernel
theorem dX12_against_89 : decode cX12_against 89 = .ok (.lor, 1) := by decide +kernel
theorem dX12_against_90 : decode cX12_against 90 = .ok (.lstore_n 2, 1) := by decide +kernel
theorem dX12_against_91 : decode cX12_against 91 = .ok (.iinc 4 1, 3) := by decide +kernel
theorem dX12_against_94 : decode cX12_against 94 = .ok (.goto (-89), 3) := by decide +kernel
theorem dX12_against_97 : decode cX12_against 97 = .ok (.lload_n 2, 1) := by decide +kernel
theorem dX12_against_98 : decode cX12_against 98 = .ok (.lreturn, 1) := by decide +kernel
theorem dX12_counterexamples_0 : decode cX12_counterexamples 0 = .ok (.aload_n 0, 1) := by decide +kernel
theorem dX12_counterexamples_1 : decode cX12_counterexamples 1 = .ok (.iload_n 1, 1) := by decide +kernel
theorem dX12_counterexamples_2 : decode cX12_counterexamples 2 = .ok (.invokevirtual 220, 3) := by decide +kernel
theorem dX12_counterexamples_5 : decode cX12_counterexamples 5 = .ok (.ifCond .eq 9, 3) := by decide +kernel
theorem dX12_counterexamples_8 : decode cX12_counterexamples 8 = .ok (.invokestatic 176, 3) := by decide +kernel
theorem dX12_counterexamples_11 : decode cX12_counterexamples 11 = .ok (.goto 8, 3) := by decide +kernel
theorem dX12_counterexamples_14 : decode cX12_counterexamples 14 = .ok (.aload_n 0, 1) := by decide +kernel
theorem dX12_counterexamples_15 : decode cX12_counterexamples 15 = .ok (.iload_n 1, 1) := by decide +kernel
theorem dX12_counterexamples_16 : decode cX12_counterexamples 16 = .ok (.invokevirtual 223, 3) := by decide +kernel
theorem dX12_counterexamples_19 : decode cX12_counterexamples 19 = .ok (.lreturn, 1) := by decide +kernel
theorem dX12_violated_0 : decode cX12_violated 0 = .ok (.iconst 0, 1) := by decide +kernel
theorem dX12_violated_1 : decode cX12_violated 1 = .ok (.istore_n 1, 1) := by decide +kernel
theorem dX12_violated_2 : decode cX12_violated 2 = .ok (.iconst 0, 1) := by decide +kernel
theorem dX12_violated_3 : decode cX12_violated 3 = .ok (.istore_n 2, 1) := by decide +kernel
theorem dX12_violated_4 : decode cX12_violated 4 = .ok (.iload_n 2, 1) := by decide +kernel
theorem dX12_violated_5 : decode cX12_violated 5 = .ok (.aload_n 0, 1) := by decide +kernel
theorem dX12_violated_6 : decode cX12_violated 6 = .ok (.getfield 88, 3) := by decide +kernel
theorem dX12_violated_9 : decode cX12_violated 9 = .ok (.if_icmp .ge 29, 3) := by decide +kernel
theorem dX12_violated_12 : decode cX12_violated 12 = .ok (.iload_n 1, 1) := by decide +kernel
theorem dX12_violated_13 : decode cX12_violated 13 = .ok (.aload_n 0, 1) := by decide +kernel
theorem dX12_violated_14 : decode cX12_violated 14 = .ok (.iload_n 2, 1) := by decide +kernel
theorem dX12_violated_15 : decode cX12_violated 15 = .ok (.invokevirtual 223, 3) := by decide +kernel
theorem dX12_violated_18 : decode cX12_violated 18 = .ok (.lconst 0, 1) := by decide +kernel
theorem dX12_violated_19 : decode cX12_violated 19 = .ok (.lcmp, 1) := by decide +kernel
theorem dX12_violated_20 : decode cX12_violated 20 = .ok (.ifCond .eq 9, 3) := by decide +kernel
theorem dX12_violated_23 : decode cX12_violated 23 = .ok (.iconst 1, 1) := by decide +kernel
theorem dX12_violated_24 : decode cX12_violated 24 = .ok (.iload_n 2, 1) := by decide +kernel
theorem dX12_violated_25 : decode cX12_violated 25 = .ok (.ishl, 1) := by decide +kernel
theorem dX12_violated_26 : decode cX12_violated 26 = .ok (.goto 4, 3) := by decide +kernel
theorem dX12_violated_29 : decode cX12_violated 29 = .ok (.iconst 0, 1) := by decide +kernel
theorem dX12_violated_30 : decode cX12_violated 30 = .ok (.ior, 1) := by decide +kernel
theorem dX12_violated_31 : decode cX12_violated 31 = .ok (.istore_n 1, 1) := by decide +kernel
theorem dX12_violated_32 : decode cX12_violated 32 = .ok (.iinc 2 1, 3) := by decide +kernel
theorem dX12_violated_35 : decode cX12_violated 35 = .ok (.goto (-31), 3) := by decide +kernel
theorem dX12_violated_38 : decode cX12_violated 38 = .ok (.iload_n 1, 1) := by decide +kernel
theorem dX12_violated_39 : decode cX12_violated 39 = .ok (.ireturn, 1) := by decide +kernel
theorem dX12_clearPolicies_0 : decode cX12_clearPolicies 0 = .ok (.aload_n 0, 1) := by decide +kernel
theorem dX12_clearPolicies_1 : decode cX12_clearPolicies 1 = .ok (.getfield 88, 3) := by decide +kernel
theorem dX12_clearPolicies_4 : decode cX12_clearPolicies 4 = .ok (.istore_n 1, 1) := by decide +kernel
theorem dX12_clearPolicies_5 : decode cX12_clearPolicies 5 = .ok (.aload_n 0, 1) := by decide +kernel
theorem dX12_clearPolicies_6 : decode cX12_clearPolicies 6 = .ok (.iconst 0, 1) := by decide +kernel
theorem dX12_clearPolicies_7 : decode cX12_clearPolicies 7 = .ok (.putfield 88, 3) := by decide +kernel
theorem dX12_clearPolicies_10 : decode cX12_clearPolicies 10 = .ok (.iload_n 1, 1) := by decide +kernel
theorem dX12_clearPolicies_11 : decode cX12_clearPolicies 11 = .ok (.ireturn, 1) := by decide +kernel
theorem dX12_type_0 : decode cX12_type 0 = .ok (.aload_n 0, 1) := by decide +kernel
theorem dX12_type_1 : decode cX12_type 1 = .ok (.getfield 227, 3) := by decide +kernel
theorem dX12_type_4 : decode cX12_type 4 = .ok (.bipush 40, 2) := by decide +kernel
theorem dX12_type_6 : decode cX12_type 6 = .ok (.if_icmp .ne 6, 3) := by decide +kernel
theorem dX12_type_9 : decode cX12_type 9 = .ok (.bipush (-5), 2) := by decide +kernel
theorem dX12_type_11 : decode cX12_type 11 = .ok (.ireturn, 1) := by decide +kernel
theorem dX12_type_12 : decode cX12_type 12 = .ok (.aload_n 0, 1) := by decide +kernel
theorem dX12_type_13 : decode cX12_type 13 = .ok (.getfield 60, 3) := by decide +kernel
theorem dX12_type_16 : decode cX12_type 16 = .ok (.aload_n 0, 1) := by decide +kernel
theorem dX12_type_17 : decode cX12_type 17 = .ok (.getfield 227, 3) := by decide +kernel
theorem dX12_type_20 : decode cX12_type 20 = .ok (.iload_n 1, 1) := by decide +kernel
theorem dX12_type_21 : decode cX12_type 21 = .ok (.castore, 1) := by decide +kernel
theorem dX12_type_22 : decode cX12_type 22 = .ok (.aload_n 0, 1) := by decide +kernel
theorem dX12_type_23 : decode cX12_type 23 = .ok (.dup, 1) := by decide +kernel
theorem dX12_type_24 : decode cX12_type 24 = .ok (.getfield 227, 3) := by decide +kernel
theorem dX12_type_27 : decode cX12_type 27 = .ok (.iconst 1, 1) := by decide +kernel
theorem dX12_type_28 : decode cX12_type 28 = .ok (.iadd, 1) := by decide +kernel
theorem dX12_type_29 : decode cX12_type 29 = .ok (.putfield 227, 3) := by decide +kernel
theorem dX12_type_32 : decode cX12_type 32 = .ok (.aload_n 0, 1) := by decide +kernel
theorem dX12_type_33 : decode cX12_type 33 = .ok (.getfield 227, 3) := by decide +kernel
theorem dX12_type_36 : decode cX12_type 36 = .ok (.ireturn, 1) := by decide +kernel
theorem dX12_clearText_0 : decode cX12_clearText 0 = .ok (.aload_n 0, 1) := by decide +kernel
theorem dX12_clearText_1 : decode cX12_clearText 1 = .ok (.getfield 227, 3) := by decide +kernel
theorem dX12_clearText_4 : decode cX12_clearText 4 = .ok (.istore_n 1, 1) := by decide +kernel
theorem dX12_clearText_5 : decode cX12_clearText 5 = .ok (.aload_n 0, 1) := by decide +kernel
theorem dX12_clearText_6 : decode cX12_clearText 6 = .ok (.iconst 0, 1) := by decide +kernel
theorem dX12_clearText_7 : decode cX12_clearText 7 = .ok (.putfield 227, 3) := by decide +kernel
theorem dX12_clearText_10 : decode cX12_clearText 10 = .ok (.iload_n 1, 1) := by decide +kernel
theorem dX12_clearText_11 : decode cX12_clearText 11 = .ok (.ireturn, 1) := by decide +kernel
theorem dX12_isAt_0 : decode cX12_isAt 0 = .ok (.aload_n 0, 1) := by decide +kernel
theorem dX12_isAt_1 : decode cX12_isAt 1 = .ok (.getfield 230, 3) := by decide +kernel
theorem dX12_isAt_4 : decode cX12_isAt 4 = .ok (.aload_n 0, 1) := by decide +kernel
theorem dX12_isAt_5 : decode cX12_isAt 5 = .ok (.getfield 227, 3) := by decide +kernel
theorem dX12_isAt_8 : decode cX12_isAt 8 = .ok (.if_icmp .ge 20, 3) := by decide +kernel
theorem dX12_isAt_11 : decode cX12_isAt 11 = .ok (.aload_n 0, 1) := by decide +kernel
theorem dX12_isAt_12 : decode cX12_isAt 12 = .ok (.getfield 60, 3) := by decide +kernel
theorem dX12_isAt_15 : decode cX12_isAt 15 = .ok (.aload_n 0, 1) := by decide +kernel
theorem dX12_isAt_16 : decode cX12_isAt 16 = .ok (.getfield 230, 3) := by decide +kernel
theorem dX12_isAt_19 : decode cX12_isAt 19 = .ok (.caload, 1) := by decide +kernel
theorem dX12_isAt_20 : decode cX12_isAt 20 = .ok (.iload_n 1, 1) := by decide +kernel
theorem dX12_isAt_21 : decode cX12_isAt 21 = .ok (.if_icmp .ne 7, 3) := by decide +kernel
theorem dX12_isAt_24 : decode cX12_isAt 24 = .ok (.iconst 1, 1) := by decide +kernel
theorem dX12_isAt_25 : decode cX12_isAt 25 = .ok (.goto 4, 3) := by decide +kernel
theorem dX12_isAt_28 : decode cX12_isAt 28 = .ok (.iconst 0, 1) := by decide +kernel
theorem dX12_isAt_29 : decode cX12_isAt 29 = .ok (.ireturn, 1) := by decide +kernel
theorem dX12_expect_0 : decode cX12_expect 0 = .ok (.aload_n 0, 1) := by decide +kernel
theorem dX12_expect_1 : decode cX12_expect 1 = .ok (.aload_n 0, 1) := by decide +kernel
theorem dX12_expect_2 : decode cX12_expect 2 = .ok (.getfield 233, 3) := by decide +kernel
theorem dX12_expect_5 : decode cX12_expect 5 = .ok (.ifCond .eq 15, 3) := by decide +kernel
theorem dX12_expect_8 : decode cX12_expect 8 = .ok (.aload_n 0, 1) := by decide +kernel
theorem dX12_expect_9 : decode cX12_expect 9 = .ok (.iload_n 1, 1) := by decide +kernel
theorem dX12_expect_10 : decode cX12_expect 10 = .ok (.invokevirtual 237, 3) := by decide +kernel
theorem dX12_expect_13 : decode cX12_expect 13 = .ok (.ifCond .eq 7, 3) := by decide +kernel
theorem dX12_expect_16 : decode cX12_expect 16 = .ok (.iconst 1, 1) := by decide +kernel
theorem dX12_expect_17 : decode cX12_expect 17 = .ok (.goto 4, 3) := by decide +kernel
theorem dX12_expect_20 : decode cX12_expect 20 = .ok (.iconst 0, 1) := by decide +kernel
theorem dX12_expect_21 : decode cX12_expect 21 = .ok (.putfield 233, 3) := by decide +kernel
theorem dX12_expect_24 : decode cX12_expect 24 = .ok (.aload_n 0, 1) := by decide +kernel
theorem dX12_expect_25 : decode cX12_expect 25 = .ok (.dup, 1) := by decide +kernel
theorem dX12_expect_26 : decode cX12_expect 26 = .ok (.getfield 230, 3) := by decide +kernel
theorem dX12_expect_29 : decode cX12_expect 29 = .ok (.aload_n 0, 1) := by decide +kernel
theorem dX12_expect_30 : decode cX12_expect 30 = .ok (.getfield 233, 3) := by decide +kernel
theorem dX12_expect_33 : decode cX12_expect 33 = .ok (.ifCond .eq 7, 3) := by decide +kernel
theorem dX12_expect_36 : decode cX12_expect 36 = .ok (.iconst 1, 1) := by decide +kernel
theorem dX12_expect_37 : decode cX12_expect 37 = .ok (.goto 4, 3) := by decide +kernel
theorem dX12_expect_40 : decode cX12_expect 40 = .ok (.iconst 0, 1) := by decide +kernel
theorem dX12_expect_41 : decode cX12_expect 41 = .ok (.iadd, 1) := by decide +kernel
theorem dX12_expect_42 : decode cX12_expect 42 = .ok (.putfield 230, 3) := by decide +kernel
theorem dX12_expect_45 : decode cX12_expect 45 = .ok (.return_, 1) := by decide +kernel
theorem dX12_readPorts_0 : decode cX12_readPorts 0 = .ok (.iconst 0, 1) := by decide +kernel
theorem dX12_readPorts_1 : decode cX12_readPorts 1 = .ok (.istore_n 1, 1) := by decide +kernel
theorem dX12_readPorts_2 : decode cX12_readPorts 2 = .ok (.aload_n 0, 1) := by decide +kernel
theorem dX12_readPorts_3 : decode cX12_readPorts 3 = .ok (.getfield 233, 3) := by decide +kernel
theorem dX12_readPorts_6 : decode cX12_readPorts 6 = .ok (.ifCond .eq 81, 3) := by decide +kernel
theorem dX12_readPorts_9 : decode cX12_readPorts 9 = .ok (.aload_n 0, 1) := by decide +kernel
theorem dX12_readPorts_10 : decode cX12_readPorts 10 = .ok (.getfield 230, 3) := by decide +kernel
theorem dX12_readPorts_13 : decode cX12_readPorts 13 = .ok (.aload_n 0, 1) := by decide +kernel
theorem dX12_readPorts_14 : decode cX12_readPorts 14 = .ok (.getfield 227, 3) := by decide +kernel
theorem dX12_readPorts_17 : decode cX12_readPorts 17 = .ok (.if_icmp .ge 70, 3) := by decide +kernel
theorem dX12_readPorts_20 : decode cX12_readPorts 20 = .ok (.aload_n 0, 1) := by decide +kernel
theorem dX12_readPorts_21 : decode cX12_readPorts 21 = .ok (.getfield 60, 3) := by decide +kernel
theorem dX12_readPorts_24 : decode cX12_readPorts 24 = .ok (.aload_n 0, 1) := by decide +kernel
theorem dX12_readPorts_25 : decode cX12_readPorts 25 = .ok (.getfield 230, 3) := by decide +kernel
theorem dX12_readPorts_28 : decode cX12_readPorts 28 = .ok (.caload, 1) := by decide +kernel
theorem dX12_readPorts_29 : decode cX12_readPorts 29 = .ok (.bipush 48, 2) := by decide +kernel
theorem dX12_readPorts_31 : decode cX12_readPorts 31 = .ok (.bipush 51, 2) := by decide +kernel
theorem dX12_readPorts_33 : decode cX12_readPorts 33 = .ok (.invokestatic 94, 3) := by decide +kernel
theorem dX12_readPorts_36 : decode cX12_readPorts 36 = .ok (.ifCond .eq 51, 3) := by decide +kernel
theorem dX12_readPorts_39 : decode cX12_readPorts 39 = .ok (.iload_n 1, 1) := by decide +kernel
theorem dX12_readPorts_40 : decode cX12_readPorts 40 = .ok (.iconst 1, 1) := by decide +kernel
theorem dX12_readPorts_41 : decode cX12_readPorts 41 = .ok (.aload_n 0, 1) := by decide +kernel
theorem dX12_readPorts_42 : decode cX12_readPorts 42 = .ok (.getfield 60, 3) := by decide +kernel
theorem dX12_readPorts_45 : decode cX12_readPorts 45 = .ok (.aload_n 0, 1) := by decide +kernel
theorem dX12_readPorts_46 : decode cX12_readPorts 46 = .ok (.getfield 230, 3) := by decide +kernel
theorem dX12_readPorts_49 : decode cX12_readPorts 49 = .ok (.caload, 1) := by decide +kernel
theorem dX12_readPorts_50 : decode cX12_readPorts 50 = .ok (.bipush 48, 2) := by decide +kernel
theorem dX12_readPorts_52 : decode cX12_readPorts 52 = .ok (.isub, 1) := by decide +kernel
theorem dX12_readPorts_53 : decode cX12_readPorts 53 = .ok (.ishl, 1) := by decide +kernel
theorem dX12_readPorts_54 : decode cX12_readPorts 54 = .ok (.if_icmp .ge 33, 3) := by decide +kernel
theorem dX12_readPorts_57 : decode cX12_readPorts 57 = .ok (.iload_n 1, 1) := by decide +kernel
theorem dX12_readPorts_58 : decode cX12_readPorts 58 = .ok (.iconst 1, 1) := by decide +kernel
theorem dX12_readPorts_59 : decode cX12_readPorts 59 = .ok (.aload_n 0, 1) := by decide +kernel
theorem dX12_readPorts_60 : decode cX12_readPorts 60 = .ok (.getfield 60, 3) := by decide +kernel
theorem dX12_readPorts_63 : decode cX12_readPorts 63 = .ok (.aload_n 0, 1) := by decide +kernel
theorem dX12_readPorts_64 : decode cX12_readPorts 64 = .ok (.getfield 230, 3) := by decide +kernel
theorem dX12_readPorts_67 : decode cX12_readPorts 67 = .ok (.caload, 1) := by decide +kernel
theorem dX12_readPorts_68 : decode cX12_readPorts 68 = .ok (.bipush 48, 2) := by decide +kernel
theorem dX12_readPorts_70 : decode cX12_readPorts 70 = .ok (.isub, 1) := by decide +kernel
theorem dX12_readPorts_71 : decode cX12_readPorts 71 = .ok (.ishl, 1) := by decide +kernel
theorem dX12_readPorts_72 : decode cX12_readPorts 72 = .ok (.ior, 1) := by decide +kernel
theorem dX12_readPorts_73 : decode cX12_readPorts 73 = .ok (.istore_n 1, 1) := by decide +kernel
theorem dX12_readPorts_74 : decode cX12_readPorts 74 = .ok (.aload_n 0, 1) := by decide +kernel
theorem dX12_readPorts_75 : decode cX12_readPorts 75 = .ok (.dup, 1) := by decide +kernel
theorem dX12_readPorts_76 : decode cX12_readPorts 76 = .ok (.getfield 230, 3) := by decide +kernel
theorem dX12_readPorts_79 : decode cX12_readPorts 79 = .ok (.iconst 1, 1) := by decide +kernel
theorem dX12_readPorts_80 : decode cX12_readPorts 80 = .ok (.iadd, 1) := by decide +kernel
theorem dX12_readPorts_81 : decode cX12_readPorts 81 = .ok (.putfield 230, 3) := by decide +kernel
theorem dX12_readPorts_84 : decode cX12_readPorts 84 = .ok (.goto (-82), 3) := by decide +kernel
theorem dX12_readPorts_87 : decode cX12_readPorts 87 = .ok (.aload_n 0, 1) := by decide +kernel
theorem dX12_readPorts_88 : decode cX12_readPorts 88 = .ok (.aload_n 0, 1) := by decide +kernel
theorem dX12_readPorts_89 : decode cX12_readPorts 89 = .ok (.getfield 233, 3) := by decide +kernel
theorem dX12_readPorts_92 : decode cX12_readPorts 92 = .ok (.ifCond .eq 11, 3) := by decide +kernel
theorem dX12_readPorts_95 : decode cX12_readPorts 95 = .ok (.iload_n 1, 1) := by decide +kernel
theorem dX12_readPorts_96 : decode cX12_readPorts 96 = .ok (.ifCond .eq 7, 3) := by decide +kernel
theorem dX12_readPorts_99 : decode cX12_readPorts 99 = .ok (.iconst 1, 1) := by decide +kernel
theorem dX12_readPorts_100 : decode cX12_readPorts 100 = .ok (.goto 4, 3) := by decide +kernel
theorem dX12_readPorts_103 : decode cX12_readPorts 103 = .ok (.iconst 0, 1) := by decide +kernel
theorem dX12_readPorts_104 : decode cX12_readPorts 104 = .ok (.putfield 233, 3) := by decide +kernel
theorem dX12_readPorts_107 : decode cX12_readPorts 107 = .ok (.iload_n 1, 1) := by decide +kernel
theorem dX12_readPorts_108 : decode cX12_readPorts 108 = .ok (.ireturn, 1) := by decide +kernel
theorem dX12_readPattern_0 : decode cX12_readPattern 0 = .ok (.aload_n 0, 1) := by decide +kernel
theorem dX12_readPattern_1 : decode cX12_readPattern 1 = .ok (.iconst 0, 1) := by decide +kernel
theorem dX12_readPattern_2 : decode cX12_readPattern 2 = .ok (.putfield 241, 3) := by decide +kernel
theorem dX12_readPattern_5 : decode cX12_readPattern 5 = .ok (.aload_n 0, 1) := by decide +kernel
theorem dX12_readPattern_6 : decode cX12_readPattern 6 = .ok (.iconst 0, 1) := by decide +kernel
theorem dX12_readPattern_7 : decode cX12_readPattern 7 = .ok (.putfield 244, 3) := by decide +kernel
theorem dX12_readPattern_10 : decode cX12_readPattern 10 = .ok (.aload_n 0, 1) := by decide +kernel
theorem dX12_readPattern_11 : decode cX12_readPattern 11 = .ok (.getfield 67, 3) := by decide +kernel
theorem dX12_readPattern_14 : decode cX12_readPattern 14 = .ok (.iconst 1, 1) := by decide +kernel
theorem dX12_readPattern_15 : decode cX12_readPattern 15 = .ok (.isub, 1) := by decide +kernel
theorem dX12_readPattern_16 : decode cX12_readPattern 16 = .ok (.istore_n 1, 1) := by decide +kernel
theorem dX12_readPattern_17 : decode cX12_readPattern 17 = .ok (.iload_n 1, 1) := by decide +kernel
theorem dX12_readPattern_18 : decode cX12_readPattern 18 = .ok (.ifCond .lt 137, 3) := by decide +kernel
theorem dX12_readPattern_21 : decode cX12_readPattern 21 = .ok (.aload_n 0, 1) := by decide +kernel
theorem dX12_readPattern_22 : decode cX12_readPattern 22 = .ok (.getfield 233, 3) := by decide +kernel
theorem dX12_readPattern_25 : decode cX12_readPattern 25 = .ok (.ifCond .eq 130, 3) := by decide +kernel
theorem dX12_readPattern_28 : decode cX12_readPattern 28 = .ok (.aload_n 0, 1) := by decide +kernel
theorem dX12_readPattern_29 : decode cX12_readPattern 29 = .ok (.aload_n 0, 1) := by decide +kernel
theorem dX12_readPattern_30 : decode cX12_readPattern 30 = .ok (.bipush 48, 2) := by decide +kernel
theorem dX12_readPattern_32 : decode cX12_readPattern 32 = .ok (.invokevirtual 237, 3) := by decide +kernel
theorem dX12_readPattern_35 : decode cX12_readPattern 35 = .ok (.ifCond .ne 21, 3) := by decide +kernel
theorem dX12_readPattern_38 : decode cX12_readPattern 38 = .ok (.aload_n 0, 1) := by decide +kernel
theorem dX12_readPattern_39 : decode cX12_readPattern 39 = .ok (.bipush 49, 2) := by decide +kernel
theorem dX12_readPattern_41 : decode cX12_readPattern 41 = .ok (.invokevirtual 237, 3) := by decide +kernel
theorem dX12_readPattern_44 : decode cX12_readPattern 44 = .ok (.ifCond .ne 12, 3) := by decide +kernel
theorem dX12_readPattern_47 : decode cX12_readPattern 47 = .ok (.aload_n 0, 1) := by decide +kernel
theorem dX12_readPattern_48 : decode cX12_readPattern 48 = .ok (.bipush 42, 2) := by decide +kernel
theorem dX12_readPattern_50 : decode cX12_readPattern 50 = .ok (.invokevirtual 237, 3) := by decide +kernel
theorem dX12_readPattern_53 : decode cX12_readPattern 53 = .ok (.ifCond .eq 7, 3) := by decide +kernel
theorem dX12_readPattern_56 : decode cX12_readPattern 56 = .ok (.iconst 1, 1) := by decide +kernel
theorem dX12_readPattern_57 : decode cX12_readPattern 57 = .ok (.goto 4, 3) := by decide +kernel
theorem dX12_readPattern_60 : decode cX12_readPattern 60 = .ok (.iconst 0, 1) := by decide +kernel
theorem dX12_readPattern_61 : decode cX12_readPattern 61 = .ok (.putfield 233, 3) := by decide +kernel
theorem dX12_readPattern_64 : decode cX12_readPattern 64 = .ok (.aload_n 0, 1) := by decide +kernel
theorem dX12_readPattern_65 : decode cX12_readPattern 65 = .ok (.dup, 1) := by decide +kernel
theorem dX12_readPattern_66 : decode cX12_readPattern 66 = .ok (.getfield 241, 3) := by decide +kernel
theorem dX12_readPattern_69 : decode cX12_readPattern 69 = .ok (.aload_n 0, 1) := by decide +kernel
theorem dX12_readPattern_70 : decode cX12_readPattern 70 = .ok (.getfield 233, 3) := by decide +kernel
theorem dX12_readPattern_73 : decode cX12_readPattern 73 = .ok (.ifCond .eq 18, 3) := by decide +kernel
theorem dX12_readPattern_76 : decode cX12_readPattern 76 = .ok (.aload_n 0, 1) := by decide +kernel
theorem dX12_readPattern_77 : decode cX12_readPattern 77 = .ok (.bipush 42, 2) := by decide +kernel
theorem dX12_readPattern_79 : decode cX12_readPattern 79 = .ok (.invokevirtual 237, 3) := by decide +kernel
theorem dX12_readPattern_82 : decode cX12_readPattern 82 = .ok (.ifCond .ne 9, 3) := by decide +kernel
theorem dX12_readPattern_85 : decode cX12_readPattern 85 = .ok (.iconst 1, 1) := by decide +kernel
theorem dX12_readPattern_86 : decode cX12_readPattern 86 = .ok (.iload_n 1, 1) := by decide +kernel
theorem dX12_readPattern_87 : decode cX12_readPattern 87 = .ok (.ishl, 1) := by decide +kernel
theorem dX12_readPattern_88 : decode cX12_readPattern 88 = .ok (.goto 4, 3) := by decide +kernel
theorem dX12_readPattern_91 : decode cX12_readPattern 91 = .ok (.iconst 0, 1) := by decide +kernel
theorem dX12_readPattern_92 : decode cX12_readPattern 92 = .ok (.ior, 1) := by decide +kernel
theorem dX12_readPattern_93 : decode cX12_readPattern 93 = .ok (.putfield 241, 3) := by decide +kernel
theorem dX12_readPattern_96 : decode cX12_readPattern 96 = .ok (.aload_n 0, 1) := by decide +kernel
theorem dX12_readPattern_97 : decode cX12_readPattern 97 = .ok (.dup, 1) := by decide +kernel
theorem dX12_readPattern_98 : decode cX12_readPattern 98 = .ok (.getfield 244, 3) := by decide +kernel
theorem dX12_readPattern_101 : decode cX12_readPattern 101 = .ok (.aload_n 0, 1) := by decide +kernel
theorem dX12_readPattern_102 : decode cX12_readPattern 102 = .ok (.getfield 233, 3) := by decide +kernel
theorem dX12_readPattern_105 : decode cX12_readPattern 105 = .ok (.ifCond .eq 18, 3) := by decide +kernel
theorem dX12_readPattern_108 : decode cX12_readPattern 108 = .ok (.aload_n 0, 1) := by decide +kernel
theorem dX12_readPattern_109 : decode cX12_readPattern 109 = .ok (.bipush 49, 2) := by decide +kernel
theorem dX12_readPattern_111 : decode cX12_readPattern 111 = .ok (.invokevirtual 237, 3) := by decide +kernel
theorem dX12_readPattern_114 : decode cX12_readPattern 114 = .ok (.ifCond .eq 9, 3) := by decide +kernel
theorem dX12_readPattern_117 : decode cX12_readPattern 117 = .ok (.iconst 1, 1) := by decide +kernel
theorem dX12_readPattern_118 : decode cX12_readPattern 118 = .ok (.iload_n 1, 1) := by decide +kernel
theorem dX12_readPattern_119 : decode cX12_readPattern 119 = .ok (.ishl, 1) := by decide +kernel
theorem dX12_readPattern_120 : decode cX12_readPattern 120 = .ok (.goto 4, 3) := by decide +kernel
theorem dX12_readPattern_123 : decode cX12_readPattern 123 = .ok (.iconst 0, 1) := by decide +kernel
theorem dX12_readPattern_124 : decode cX12_readPattern 124 = .ok (.ior, 1) := by decide +kernel
theorem dX12_readPattern_125 : decode cX12_readPattern 125 = .ok (.putfield 244, 3) := by decide +kernel
theorem dX12_readPattern_128 : decode cX12_readPattern 128 = .ok (.aload_n 0, 1) := by decide +kernel
theorem dX12_readPattern_129 : decode cX12_readPattern 129 = .ok (.dup, 1) := by decide +kernel
theorem dX12_readPattern_130 : decode cX12_readPattern 130 = .ok (.getfield 230, 3) := by decide +kernel
theorem dX12_readPattern_133 : decode cX12_readPattern 133 = .ok (.aload_n 0, 1) := by decide +kernel
theorem dX12_readPattern_134 : decode cX12_readPattern 134 = .ok (.getfield 233, 3) := by decide +kernel
theorem dX12_readPattern_137 : decode cX12_readPattern 137 = .ok (.ifCond .eq 7, 3) := by decide +kernel
theorem dX12_readPattern_140 : decode cX12_readPattern 140 = .ok (.iconst 1, 1) := by decide +kernel
theorem dX12_readPattern_141 : decode cX12_readPattern 141 = .ok (.goto 4, 3) := by decide +kernel
theorem dX12_readPattern_144 : decode cX12_readPattern 144 = .ok (.iconst 0, 1) := by decide +kernel
theorem dX12_readPattern_145 : decode cX12_readPattern 145 = .ok (.iadd, 1) := by decide +kernel
theorem dX12_readPattern_146 : decode cX12_readPattern 146 = .ok (.putfield 230, 3) := by decide +kernel
theorem dX12_readPattern_149 : decode cX12_readPattern 149 = .ok (.iinc 1 (-1), 3) := by decide +kernel
theorem dX12_readPattern_152 : decode cX12_readPattern 152 = .ok (.goto (-135), 3) := by decide +kernel
theorem dX12_readPattern_155 : decode cX12_readPattern 155 = .ok (.return_, 1) := by decide +kernel
theorem dX12_readRule_0 : decode cX12_readRule 0 = .ok (.iload_n 1, 1) := by decide +kernel
theorem dX12_readRule_1 : decode cX12_readRule 1 = .ok (.invokestatic 102, 3) := by decide +kernel
theorem dX12_readRule_4 : decode cX12_readRule 4 = .ok (.ifCond .eq 5, 3) := by decide +kernel
theorem dX12_readRule_7 : decode cX12_readRule 7 = .ok (.iconst (-1), 1) := by decide +kernel
theorem dX12_readRule_8 : decode cX12_readRule 8 = .ok (.ireturn, 1) := by decide +kernel
theorem dX12_readRule_9 : decode cX12_readRule 9 = .ok (.aload_n 0, 1) := by decide +kernel
theorem dX12_readRule_10 : decode cX12_readRule 10 = .ok (.iconst 0, 1) := by decide +kernel
theorem dX12_readRule_11 : decode cX12_readRule 11 = .ok (.putfield 230, 3) := by decide +kernel
theorem dX12_readRule_14 : decode cX12_readRule 14 = .ok (.aload_n 0, 1) := by decide +kernel
theorem dX12_readRule_15 : decode cX12_readRule 15 = .ok (.iconst 1, 1) := by decide +kernel
theorem dX12_readRule_16 : decode cX12_readRule 16 = .ok (.putfield 233, 3) := by decide +kernel
theorem dX12_readRule_19 : decode cX12_readRule 19 = .ok (.bipush 15, 2) := by decide +kernel
theorem dX12_readRule_21 : decode cX12_readRule 21 = .ok (.istore_n 2, 1) := by decide +kernel
theorem dX12_readRule_22 : decode cX12_readRule 22 = .ok (.aload_n 0, 1) := by decide +kernel
theorem dX12_readRule_23 : decode cX12_readRule 23 = .ok (.bipush 42, 2) := by decide +kernel
theorem dX12_readRule_25 : decode cX12_readRule 25 = .ok (.invokevirtual 237, 3) := by decide +kernel
theorem dX12_readRule_28 : decode cX12_readRule 28 = .ok (.ifCond .eq 16, 3) := by decide +kernel
theorem dX12_readRule_31 : decode cX12_readRule 31 = .ok (.aload_n 0, 1) := by decide +kernel
theorem dX12_readRule_32 : decode cX12_readRule 32 = .ok (.dup, 1) := by decide +kernel
theorem dX12_readRule_33 : decode cX12_readRule 33 = .ok (.getfield 230, 3) := by decide +kernel
theorem dX12_readRule_36 : decode cX12_readRule 36 = .ok (.iconst 1, 1) := by decide +kernel
theorem dX12_readRule_37 : decode cX12_readRule 37 = .ok (.iadd, 1) := by decide +kernel
theorem dX12_readRule_38 : decode cX12_readRule 38 = .ok (.putfield 230, 3) := by decide +kernel
theorem dX12_readRule_41 : decode cX12_readRule 41 = .ok (.goto 8, 3) := by decide +kernel
theorem dX12_readRule_44 : decode cX12_readRule 44 = .ok (.aload_n 0, 1) := by decide +kernel
theorem dX12_readRule_45 : decode cX12_readRule 45 = .ok (.invokevirtual 247, 3) := by decide +kernel
theorem dX12_readRule_48 : decode cX12_readRule 48 = .ok (.istore_n 2, 1) := by decide +kernel
theorem dX12_readRule_49 : decode cX12_readRule 49 = .ok (.aload_n 0, 1) := by decide +kernel
theorem dX12_readRule_50 : decode cX12_readRule 50 = .ok (.bipush 58, 2) := by decide +kernel
theorem dX12_readRule_52 : decode cX12_readRule 52 = .ok (.invokevirtual 250, 3) := by decide +kernel
theorem dX12_readRule_55 : decode cX12_readRule 55 = .ok (.aload_n 0, 1) := by decide +kernel
theorem dX12_readRule_56 : decode cX12_readRule 56 = .ok (.invokevirtual 254, 3) := by decide +kernel
theorem dX12_readRule_59 : decode cX12_readRule 59 = .ok (.aload_n 0, 1) := by decide +kernel
theorem dX12_readRule_60 : decode cX12_readRule 60 = .ok (.getfield 241, 3) := by decide +kernel
theorem dX12_readRule_63 : decode cX12_readRule 63 = .ok (.istore_n 3, 1) := by decide +kernel
theorem dX12_readRule_64 : decode cX12_readRule 64 = .ok (.aload_n 0, 1) := by decide +kernel
theorem dX12_readRule_65 : decode cX12_readRule 65 = .ok (.getfield 244, 3) := by decide +kernel
theorem dX12_readRule_68 : decode cX12_readRule 68 = .ok (.istore 4, 2) := by decide +kernel
theorem dX12_readRule_70 : decode cX12_readRule 70 = .ok (.iconst 0, 1) := by decide +kernel
theorem dX12_readRule_71 : decode cX12_readRule 71 = .ok (.istore 5, 2) := by decide +kernel
theorem dX12_readRule_73 : decode cX12_readRule 73 = .ok (.aload_n 0, 1) := by decide +kernel
theorem dX12_readRule_74 : decode cX12_readRule 74 = .ok (.iconst 0, 1) := by decide +kernel
theorem dX12_readRule_75 : decode cX12_readRule 75 = .ok (.putfield 241, 3) := by decide +kernel
theorem dX12_readRule_78 : decode cX12_readRule 78 = .ok (.aload_n 0, 1) := by decide +kernel
theorem dX12_readRule_79 : decode cX12_readRule 79 = .ok (.iconst 0, 1) := by decide +kernel
theorem dX12_readRule_80 : decode cX12_readRule 80 = .ok (.putfield 244, 3) := by decide +kernel
theorem dX12_readRule_83 : decode cX12_readRule 83 = .ok (.aload_n 0, 1) := by decide +kernel
theorem dX12_readRule_84 : decode cX12_readRule 84 = .ok (.getfield 233, 3) := by decide +kernel
theorem dX12_readRule_87 : decode cX12_readRule 87 = .ok (.ifCond .eq 16, 3) := by decide +kernel
theorem dX12_readRule_90 : decode cX12_readRule 90 = .ok (.aload_n 0, 1) := by decide +kernel
theorem dX12_readRule_91 : decode cX12_readRule 91 = .ok (.bipush 33, 2) := by decide +kernel
theorem dX12_readRule_93 : decode cX12_readRule 93 = .ok (.invokevirtual 237, 3) := by decide +kernel
theorem dX12_readRule_96 : decode cX12_readRule 96 = .ok (.ifCond .eq 7, 3) := by decide +kernel
theorem dX12_readRule_99 : decode cX12_readRule 99 = .ok (.iconst 1, 1) := by decide +kernel
theorem dX12_readRule_100 : decode cX12_readRule 100 = .ok (.goto 4, 3) := by decide +kernel
theorem dX12_readRule_103 : decode cX12_readRule 103 = .ok (.iconst 0, 1) := by decide +kernel
theorem dX12_readRule_104 : decode cX12_readRule 104 = .ok (.istore 6, 2) := by decide +kernel
theorem dX12_readRule_106 : decode cX12_readRule 106 = .ok (.iload 6, 2) := by decide +kernel
theorem dX12_readRule_108 : decode cX12_readRule 108 = .ok (.ifCond .eq 16, 3) := by decide +kernel
theorem dX12_readRule_111 : decode cX12_readRule 111 = .ok (.aload_n 0, 1) := by decide +kernel
theorem dX12_readRule_112 : decode cX12_readRule 112 = .ok (.dup, 1) := by decide +kernel
theorem dX12_readRule_113 : decode cX12_readRule 113 = .ok (.getfield 230, 3) := by decide +kernel
theorem dX12_readRule_116 : decode cX12_readRule 116 = .ok (.iconst 1, 1) := by decide +kernel
theorem dX12_readRule_117 : decode cX12_readRule 117 = .ok (.iadd, 1) := by decide +kernel
theorem dX12_readRule_118 : decode cX12_readRule 118 = .ok (.putfield 230, 3) := by decide +kernel
theorem dX12_readRule_121 : decode cX12_readRule 121 = .ok (.goto 45, 3) := by decide +kernel
theorem dX12_readRule_124 : decode cX12_readRule 124 = .ok (.aload_n 0, 1) := by decide +kernel
theorem dX12_readRule_125 : decode cX12_readRule 125 = .ok (.bipush 62, 2) := by decide +kernel
theorem dX12_readRule_127 : decode cX12_readRule 127 = .ok (.invokevirtual 250, 3) := by decide +kernel
theorem dX12_readRule_130 : decode cX12_readRule 130 = .ok (.aload_n 0, 1) := by decide +kernel
theorem dX12_readRule_131 : decode cX12_readRule 131 = .ok (.invokevirtual 247, 3) := by decide +kernel
theorem dX12_readRule_134 : decode cX12_readRule 134 = .ok (.istore 5, 2) := by decide +kernel
theorem dX12_readRule_136 : decode cX12_readRule 136 = .ok (.aload_n 0, 1) := by decide +kernel
theorem dX12_readRule_137 : decode cX12_readRule 137 = .ok (.getfield 233, 3) := by decide +kernel
theorem dX12_readRule_140 : decode cX12_readRule 140 = .ok (.ifCond .eq 26, 3) := by decide +kernel
theorem dX12_readRule_143 : decode cX12_readRule 143 = .ok (.aload_n 0, 1) := by decide +kernel
theorem dX12_readRule_144 : decode cX12_readRule 144 = .ok (.bipush 61, 2) := by decide +kernel
theorem dX12_readRule_146 : decode cX12_readRule 146 = .ok (.invokevirtual 237, 3) := by decide +kernel
theorem dX12_readRule_149 : decode cX12_readRule 149 = .ok (.ifCond .eq 17, 3) := by decide +kernel
theorem dX12_readRule_152 : decode cX12_readRule 152 = .ok (.aload_n 0, 1) := by decide +kernel
theorem dX12_readRule_153 : decode cX12_readRule 153 = .ok (.dup, 1) := by decide +kernel
theorem dX12_readRule_154 : decode cX12_readRule 154 = .ok (.getfield 230, 3) := by decide +kernel
theorem dX12_readRule_157 : decode cX12_readRule 157 = .ok (.iconst 1, 1) := by decide +kernel
theorem dX12_readRule_158 : decode cX12_readRule 158 = .ok (.iadd, 1) := by decide +kernel
theorem dX12_readRule_159 : decode cX12_readRule 159 = .ok (.putfield 230, 3) := by decide +kernel
theorem dX12_readRule_162 : decode cX12_readRule 162 = .ok (.aload_n 0, 1) := by decide +kernel
theorem dX12_readRule_163 : decode cX12_readRule 163 = .ok (.invokevirtual 254, 3) := by decide +kernel
theorem dX12_readRule_166 : decode cX12_readRule 166 = .ok (.aload_n 0, 1) := by decide +kernel
theorem dX12_readRule_167 : decode cX12_readRule 167 = .ok (.getfield 233, 3) := by decide +kernel
theorem dX12_readRule_170 : decode cX12_readRule 170 = .ok (.ifCond .eq 14, 3) := by decide +kernel
theorem dX12_readRule_173 : decode cX12_readRule 173 = .ok (.aload_n 0, 1) := by decide +kernel
theorem dX12_readRule_174 : decode cX12_readRule 174 = .ok (.getfield 230, 3) := by decide +kernel
theorem dX12_readRule_177 : decode cX12_readRule 177 = .ok (.aload_n 0, 1) := by decide +kernel
theorem dX12_readRule_178 : decode cX12_readRule 178 = .ok (.getfield 227, 3) := by decide +kernel
theorem dX12_readRule_181 : decode cX12_readRule 181 = .ok (.if_icmp .ge 11, 3) := by decide +kernel
theorem dX12_readRule_184 : decode cX12_readRule 184 = .ok (.bipush (-100), 2) := by decide +kernel
theorem dX12_readRule_186 : decode cX12_readRule 186 = .ok (.aload_n 0, 1) := by decide +kernel
theorem dX12_readRule_187 : decode cX12_readRule 187 = .ok (.getfield 230, 3) := by decide +kernel
theorem dX12_readRule_190 : decode cX12_readRule 190 = .ok (.isub, 1) := by decide +kernel
theorem dX12_readRule_191 : decode cX12_readRule 191 = .ok (.ireturn, 1) := by decide +kernel
theorem dX12_readRule_192 : decode cX12_readRule 192 = .ok (.aload_n 0, 1) := by decide +kernel
theorem dX12_readRule_193 : decode cX12_readRule 193 = .ok (.iload_n 1, 1) := by decide +kernel
theorem dX12_readRule_194 : decode cX12_readRule 194 = .ok (.invokevirtual 110, 3) := by decide +kernel
theorem dX12_readRule_197 : decode cX12_readRule 197 = .ok (.bipush 6, 2) := by decide +kernel
theorem dX12_readRule_199 : decode cX12_readRule 199 = .ok (.if_icmp .ne 6, 3) := by decide +kernel
theorem dX12_readRule_202 : decode cX12_readRule 202 = .ok (.bipush (-5), 2) := by decide +kernel
theorem dX12_readRule_204 : decode cX12_readRule 204 = .ok (.ireturn, 1) := by decide +kernel
theorem dX12_readRule_205 : decode cX12_readRule 205 = .ok (.aload_n 0, 1) := by decide +kernel
theorem dX12_readRule_206 : decode cX12_readRule 206 = .ok (.iload_n 1, 1) := by decide +kernel
theorem dX12_readRule_207 : decode cX12_readRule 207 = .ok (.invokevirtual 110, 3) := by decide +kernel
theorem dX12_readRule_210 : decode cX12_readRule 210 = .ok (.istore 7, 2) := by decide +kernel
theorem dX12_readRule_212 : decode cX12_readRule 212 = .ok (.aload_n 0, 1) := by decide +kernel
theorem dX12_readRule_213 : decode cX12_readRule 213 = .ok (.iload_n 1, 1) := by decide +kernel
theorem dX12_readRule_214 : decode cX12_readRule 214 = .ok (.iload 7, 2) := by decide +kernel
theorem dX12_readRule_216 : decode cX12_readRule 216 = .ok (.iload_n 2, 1) := by decide +kernel
theorem dX12_readRule_217 : decode cX12_readRule 217 = .ok (.iload_n 3, 1) := by decide +kernel
theorem dX12_readRule_218 : decode cX12_readRule 218 = .ok (.iload 4, 2) := by decide +kernel
theorem dX12_readRule_220 : decode cX12_readRule 220 = .ok (.iload 5, 2) := by decide +kernel
theorem dX12_readRule_222 : decode cX12_readRule 222 = .ok (.invokevirtual 132, 3) := by decide +kernel
theorem dX12_readRule_225 : decode cX12_readRule 225 = .ok (.istore 8, 2) := by decide +kernel
theorem dX12_readRule_227 : decode cX12_readRule 227 = .ok (.aload_n 0, 1) := by decide +kernel
theorem dX12_readRule_228 : decode cX12_readRule 228 = .ok (.iload_n 1, 1) := by decide +kernel
theorem dX12_readRule_229 : decode cX12_readRule 229 = .ok (.iload 7, 2) := by decide +kernel
theorem dX12_readRule_231 : decode cX12_readRule 231 = .ok (.iconst 4, 1) := by decide +kernel
theorem dX12_readRule_232 : decode cX12_readRule 232 = .ok (.aload_n 0, 1) := by decide +kernel
theorem dX12_readRule_233 : decode cX12_readRule 233 = .ok (.getfield 241, 3) := by decide +kernel
theorem dX12_readRule_236 : decode cX12_readRule 236 = .ok (.invokevirtual 118, 3) := by decide +kernel
theorem dX12_readRule_239 : decode cX12_readRule 239 = .ok (.aload_n 0, 1) := by decide +kernel
theorem dX12_readRule_240 : decode cX12_readRule 240 = .ok (.iload_n 1, 1) := by decide +kernel
theorem dX12_readRule_241 : decode cX12_readRule 241 = .ok (.iload 7, 2) := by decide +kernel
theorem dX12_readRule_243 : decode cX12_readRule 243 = .ok (.iconst 5, 1) := by decide +kernel
theorem dX12_readRule_244 : decode cX12_readRule 244 = .ok (.aload_n 0, 1) := by decide +kernel
theorem dX12_readRule_245 : decode cX12_readRule 245 = .ok (.getfield 244, 3) := by decide +kernel
theorem dX12_readRule_248 : decode cX12_readRule 248 = .ok (.invokevirtual 118, 3) := by decide +kernel
theorem dX12_readRule_251 : decode cX12_readRule 251 = .ok (.iload 8, 2) := by decide +kernel
theorem dX12_readRule_253 : decode cX12_readRule 253 = .ok (.ireturn, 1) := by decide +kernel
theorem dX12_write_0 : decode cX12_write 0 = .ok (.aload_n 0, 1) := by decide +kernel
theorem dX12_write_1 : decode cX12_write 1 = .ok (.getfield 64, 3) := by decide +kernel
theorem dX12_write_4 : decode cX12_write 4 = .ok (.aload_n 0, 1) := by decide +kernel
theorem dX12_write_5 : decode cX12_write 5 = .ok (.getfield 257, 3) := by decide +kernel
theorem dX12_write_8 : decode cX12_write 8 = .ok (.iload_n 1, 1) := by decide +kernel
theorem dX12_write_9 : decode cX12_write 9 = .ok (.iastore, 1) := by decide +kernel
theorem dX12_write_10 : decode cX12_write 10 = .ok (.aload_n 0, 1) := by decide +kernel
theorem dX12_write_11 : decode cX12_write 11 = .ok (.dup, 1) := by decide +kernel
theorem dX12_write_12 : decode cX12_write 12 = .ok (.getfield 257, 3) := by decide +kernel
theorem dX12_write_15 : decode cX12_write 15 = .ok (.iconst 1, 1) := by decide +kernel
theorem dX12_write_16 : decode cX12_write 16 = .ok (.iadd, 1) := by decide +kernel
theorem dX12_write_17 : decode cX12_write 17 = .ok (.putfield 257, 3) := by decide +kernel
theorem dX12_write_20 : decode cX12_write 20 = .ok (.return_, 1) := by decide +kernel
theorem dX12_writePorts_0 : decode cX12_writePorts 0 = .ok (.iconst 0, 1) := by decide +kernel
theorem dX12_writePorts_1 : decode cX12_writePorts 1 = .ok (.istore_n 2, 1) := by decide +kernel
theorem dX12_writePorts_2 : decode cX12_writePorts 2 = .ok (.iload_n 2, 1) := by decide +kernel
theorem dX12_writePorts_3 : decode cX12_writePorts 3 = .ok (.iconst 4, 1) := by decide +kernel
theorem dX12_writePorts_4 : decode cX12_writePorts 4 = .ok (.if_icmp .ge 26, 3) := by decide +kernel
theorem dX12_writePorts_7 : decode cX12_writePorts 7 = .ok (.iload_n 1, 1) := by decide +kernel
theorem dX12_writePorts_8 : decode cX12_writePorts 8 = .ok (.iload_n 2, 1) := by decide +kernel
theorem dX12_writePorts_9 : decode cX12_writePorts 9 = .ok (.ishr, 1) := by decide +kernel
theorem dX12_writePorts_10 : decode cX12_writePorts 10 = .ok (.iconst 1, 1) := by decide +kernel
theorem dX12_writePorts_11 : decode cX12_writePorts 11 = .ok (.iand, 1) := by decide +kernel
theorem dX12_writePorts_12 : decode cX12_writePorts 12 = .ok (.iconst 1, 1) := by decide +kernel
theorem dX12_writePorts_13 : decode cX12_writePorts 13 = .ok (.if_icmp .ne 11, 3) := by decide +kernel
theorem dX12_writePorts_16 : decode cX12_writePorts 16 = .ok (.aload_n 0, 1) := by decide +kernel
theorem dX12_writePorts_17 : decode cX12_writePorts 17 = .ok (.bipush 48, 2) := by decide +kernel
theorem dX12_writePorts_19 : decode cX12_writePorts 19 = .ok (.iload_n 2, 1) := by decide +kernel
theorem dX12_writePorts_20 : decode cX12_writePorts 20 = .ok (.iadd, 1) := by decide +kernel
theorem dX12_writePorts_21 : decode cX12_writePorts 21 = .ok (.invokevirtual 260, 3) := by decide +kernel
theorem dX12_writePorts_24 : decode cX12_writePorts 24 = .ok (.iinc 2 1, 3) := by decide +kernel
theorem dX12_writePorts_27 : decode cX12_writePorts 27 = .ok (.goto (-25), 3) := by decide +kernel
theorem dX12_writePorts_30 : decode cX12_writePorts 30 = .ok (.return_, 1) := by decide +kernel
theorem dX12_writePattern_0 : decode cX12_writePattern 0 = .ok (.aload_n 0, 1) := by decide +kernel
theorem dX12_writePattern_1 : decode cX12_writePattern 1 = .ok (.getfield 67, 3) := by decide +kernel
theorem dX12_writePattern_4 : decode cX12_writePattern 4 = .ok (.iconst 1, 1) := by decide +kernel
theorem dX12_writePattern_5 : decode cX12_writePattern 5 = .ok (.isub, 1) := by decide +kernel
theorem dX12_writePattern_6 : decode cX12_writePattern 6 = .ok (.istore_n 3, 1) := by decide +kernel
theorem dX12_writePattern_7 : decode cX12_writePattern 7 = .ok (.iload_n 3, 1) := by decide +kernel
theorem dX12_writePattern_8 : decode cX12_writePattern 8 = .ok (.ifCond .lt 34, 3) := by decide +kernel
theorem dX12_writePattern_11 : decode cX12_writePattern 11 = .ok (.aload_n 0, 1) := by decide +kernel
theorem dX12_writePattern_12 : decode cX12_writePattern 12 = .ok (.iload_n 1, 1) := by decide +kernel
theorem dX12_writePattern_13 : decode cX12_writePattern 13 = .ok (.iload_n 3, 1) := by decide +kernel
theorem dX12_writePattern_14 : decode cX12_writePattern 14 = .ok (.ishr, 1) := by decide +kernel
theorem dX12_writePattern_15 : decode cX12_writePattern 15 = .ok (.iconst 1, 1) := by decide +kernel
theorem dX12_writePattern_16 : decode cX12_writePattern 16 = .ok (.iand, 1) := by decide +kernel
theorem dX12_writePattern_17 : decode cX12_writePattern 17 = .ok (.ifCond .ne 8, 3) := by decide +kernel
theorem dX12_writePattern_20 : decode cX12_writePattern 20 = .ok (.bipush 42, 2) := by decide +kernel
theorem dX12_writePattern_22 : decode cX12_writePattern 22 = .ok (.goto 11, 3) := by decide +kernel
theorem dX12_writePattern_25 : decode cX12_writePattern 25 = .ok (.bipush 48, 2) := by decide +kernel
theorem dX12_writePattern_27 : decode cX12_writePattern 27 = .ok (.iload_n 2, 1) := by decide +kernel
theorem dX12_writePattern_28 : decode cX12_writePattern 28 = .ok (.iload_n 3, 1) := by decide +kernel
theorem dX12_writePattern_29 : decode cX12_writePattern 29 = .ok (.ishr, 1) := by decide +kernel
theorem dX12_writePattern_30 : decode cX12_writePattern 30 = .ok (.iconst 1, 1) := by decide +kernel
theorem dX12_writePattern_31 : decode cX12_writePattern 31 = .ok (.iand, 1) := by decide +kernel
theorem dX12_writePattern_32 : decode cX12_writePattern 32 = .ok (.iadd, 1) := by decide +kernel
theorem dX12_writePattern_33 : decode cX12_writePattern 33 = .ok (.invokevirtual 260, 3) := by decide +kernel
theorem dX12_writePattern_36 : decode cX12_writePattern 36 = .ok (.iinc 3 (-1), 3) := by decide +kernel
theorem dX12_writePattern_39 : decode cX12_writePattern 39 = .ok (.goto (-32), 3) := by decide +kernel
theorem dX12_writePattern_42 : decode cX12_writePattern 42 = .ok (.return_, 1) := by decide +kernel
theorem dX12_ruleText_0 : decode cX12_ruleText 0 = .ok (.aload_n 0, 1) := by decide +kernel
theorem dX12_ruleText_1 : decode cX12_ruleText 1 = .ok (.iload_n 1, 1) := by decide +kernel
theorem dX12_ruleText_2 : decode cX12_ruleText 2 = .ok (.iload_n 2, 1) := by decide +kernel
theorem dX12_ruleText_3 : decode cX12_ruleText 3 = .ok (.invokevirtual 139, 3) := by decide +kernel
theorem dX12_ruleText_6 : decode cX12_ruleText 6 = .ok (.istore 4, 2) := by decide +kernel
theorem dX12_ruleText_8 : decode cX12_ruleText 8 = .ok (.iload 4, 2) := by decide +kernel
theorem dX12_ruleText_10 : decode cX12_ruleText 10 = .ok (.ifCond .ge 6, 3) := by decide +kernel
theorem dX12_ruleText_13 : decode cX12_ruleText 13 = .ok (.iload 4, 2) := by decide +kernel
theorem dX12_ruleText_15 : decode cX12_ruleText 15 = .ok (.ireturn, 1) := by decide +kernel
theorem dX12_ruleText_16 : decode cX12_ruleText 16 = .ok (.iload_n 3, 1) := by decide +kernel
theorem dX12_ruleText_17 : decode cX12_ruleText 17 = .ok (.ifCond .ge 6, 3) := by decide +kernel
theorem dX12_ruleText_20 : decode cX12_ruleText 20 = .ok (.bipush (-3), 2) := by decide +kernel
theorem dX12_ruleText_22 : decode cX12_ruleText 22 = .ok (.ireturn, 1) := by decide +kernel
theorem dX12_ruleText_23 : decode cX12_ruleText 23 = .ok (.aload_n 0, 1) := by decide +kernel
theorem dX12_ruleText_24 : decode cX12_ruleText 24 = .ok (.iconst 0, 1) := by decide +kernel
theorem dX12_ruleText_25 : decode cX12_ruleText 25 = .ok (.putfield 257, 3) := by decide +kernel
theorem dX12_ruleText_28 : decode cX12_ruleText 28 = .ok (.aload_n 0, 1) := by decide +kernel
theorem dX12_ruleText_29 : decode cX12_ruleText 29 = .ok (.iload_n 1, 1) := by decide +kernel
theorem dX12_ruleText_30 : decode cX12_ruleText 30 = .ok (.iload_n 2, 1) := by decide +kernel
theorem dX12_ruleText_31 : decode cX12_ruleText 31 = .ok (.iconst 0, 1) := by decide +kernel
theorem dX12_ruleText_32 : decode cX12_ruleText 32 = .ok (.invokevirtual 114, 3) := by decide +kernel
theorem dX12_ruleText_35 : decode cX12_ruleText 35 = .ok (.bipush 15, 2) := by decide +kernel
theorem dX12_ruleText_37 : decode cX12_ruleText 37 = .ok (.if_icmp .ne 12, 3) := by decide +kernel
theorem dX12_ruleText_40 : decode cX12_ruleText 40 = .ok (.aload_n 0, 1) := by decide +kernel
theorem dX12_ruleText_41 : decode cX12_ruleText 41 = .ok (.bipush 42, 2) := by decide +kernel
theorem dX12_ruleText_43 : decode cX12_ruleText 43 = .ok (.invokevirtual 260, 3) := by decide +kernel
theorem dX12_ruleText_46 : decode cX12_ruleText 46 = .ok (.goto 14, 3) := by decide +kernel
theorem dX12_ruleText_49 : decode cX12_ruleText 49 = .ok (.aload_n 0, 1) := by decide +kernel
theorem dX12_ruleText_50 : decode cX12_ruleText 50 = .ok (.aload_n 0, 1) := by decide +kernel
theorem dX12_ruleText_51 : decode cX12_ruleText 51 = .ok (.iload_n 1, 1) := by decide +kernel
theorem dX12_ruleText_52 : decode cX12_ruleText 52 = .ok (.iload_n 2, 1) := by decide +kernel
theorem dX12_ruleText_53 : decode cX12_ruleText 53 = .ok (.iconst 0, 1) := by decide +kernel
theorem dX12_ruleText_54 : decode cX12_ruleText 54 = .ok (.invokevirtual 114, 3) := by decide +kernel
theorem dX12_ruleText_57 : decode cX12_ruleText 57 = .ok (.invokevirtual 263, 3) := by decide +kernel
theorem dX12_ruleText_60 : decode cX12_ruleText 60 = .ok (.aload_n 0, 1) := by decide +kernel
theorem dX12_ruleText_61 : decode cX12_ruleText 61 = .ok (.bipush 58, 2) := by decide +kernel
theorem dX12_ruleText_63 : decode cX12_ruleText 63 = .ok (.invokevirtual 260, 3) := by decide +kernel
theorem dX12_ruleText_66 : decode cX12_ruleText 66 = .ok (.aload_n 0, 1) := by decide +kernel
theorem dX12_ruleText_67 : decode cX12_ruleText 67 = .ok (.aload_n 0, 1) := by decide +kernel
theorem dX12_ruleText_68 : decode cX12_ruleText 68 = .ok (.iload_n 1, 1) := by decide +kernel
theorem dX12_ruleText_69 : decode cX12_ruleText 69 = .ok (.iload_n 2, 1) := by decide +kernel
theorem dX12_ruleText_70 : decode cX12_ruleText 70 = .ok (.iconst 1, 1) := by decide +kernel
theorem dX12_ruleText_71 : decode cX12_ruleText 71 = .ok (.invokevirtual 114, 3) := by decide +kernel
theorem dX12_ruleText_74 : decode cX12_ruleText 74 = .ok (.aload_n 0, 1) := by decide +kernel
theorem dX12_ruleText_75 : decode cX12_ruleText 75 = .ok (.iload_n 1, 1) := by decide +kernel
theorem dX12_ruleText_76 : decode cX12_ruleText 76 = .ok (.iload_n 2, 1) := by decide +kernel
theorem dX12_ruleText_77 : decode cX12_ruleText 77 = .ok (.iconst 2, 1) := by decide +kernel
theorem dX12_ruleText_78 : decode cX12_ruleText 78 = .ok (.invokevirtual 114, 3) := by decide +kernel
theorem dX12_ruleText_81 : decode cX12_ruleText 81 = .ok (.invokevirtual 266, 3) := by decide +kernel
theorem dX12_ruleText_84 : decode cX12_ruleText 84 = .ok (.aload_n 0, 1) := by decide +kernel
theorem dX12_ruleText_85 : decode cX12_ruleText 85 = .ok (.iload_n 1, 1) := by decide +kernel
theorem dX12_ruleText_86 : decode cX12_ruleText 86 = .ok (.iload_n 2, 1) := by decide +kernel
theorem dX12_ruleText_87 : decode cX12_ruleText 87 = .ok (.iconst 3, 1) := by decide +kernel
theorem dX12_ruleText_88 : decode cX12_ruleText 88 = .ok (.invokevirtual 114, 3) := by decide +kernel
theorem dX12_ruleText_91 : decode cX12_ruleText 91 = .ok (.ifCond .ne 12, 3) := by decide +kernel
theorem dX12_ruleText_94 : decode cX12_ruleText 94 = .ok (.aload_n 0, 1) := by decide +kernel
theorem dX12_ruleText_95 : decode cX12_ruleText 95 = .ok (.bipush 33, 2) := by decide +kernel
theorem dX12_ruleText_97 : decode cX12_ruleText 97 = .ok (.invokevirtual 260, 3) := by decide +kernel
theorem dX12_ruleText_100 : decode cX12_ruleText 100 = .ok (.goto 20, 3) := by decide +kernel
theorem dX12_ruleText_103 : decode cX12_ruleText 103 = .ok (.aload_n 0, 1) := by decide +kernel
theorem dX12_ruleText_104 : decode cX12_ruleText 104 = .ok (.bipush 62, 2) := by decide +kernel
theorem dX12_ruleText_106 : decode cX12_ruleText 106 = .ok (.invokevirtual 260, 3) := by decide +kernel
theorem dX12_ruleText_109 : decode cX12_ruleText 109 = .ok (.aload_n 0, 1) := by decide +kernel
theorem dX12_ruleText_110 : decode cX12_ruleText 110 = .ok (.aload_n 0, 1) := by decide +kernel
theorem dX12_ruleText_111 : decode cX12_ruleText 111 = .ok (.iload_n 1, 1) := by decide +kernel
theorem dX12_ruleText_112 : decode cX12_ruleText 112 = .ok (.iload_n 2, 1) := by decide +kernel
theorem dX12_ruleText_113 : decode cX12_ruleText 113 = .ok (.iconst 3, 1) := by decide +kernel
theorem dX12_ruleText_114 : decode cX12_ruleText 114 = .ok (.invokevirtual 114, 3) := by decide +kernel
theorem dX12_ruleText_117 : decode cX12_ruleText 117 = .ok (.invokevirtual 263, 3) := by decide +kernel
theorem dX12_ruleText_120 : decode cX12_ruleText 120 = .ok (.aload_n 0, 1) := by decide +kernel
theorem dX12_ruleText_121 : decode cX12_ruleText 121 = .ok (.iload_n 1, 1) := by decide +kernel
theorem dX12_ruleText_122 : decode cX12_ruleText 122 = .ok (.iload_n 2, 1) := by decide +kernel
theorem dX12_ruleText_123 : decode cX12_ruleText 123 = .ok (.iconst 4, 1) := by decide +kernel
theorem dX12_ruleText_124 : decode cX12_ruleText 124 = .ok (.invokevirtual 114, 3) := by decide +kernel
theorem dX12_ruleText_127 : decode cX12_ruleText 127 = .ok (.ifCond .eq 27, 3) := by decide +kernel
theorem dX12_ruleText_130 : decode cX12_ruleText 130 = .ok (.aload_n 0, 1) := by decide +kernel
theorem dX12_ruleText_131 : decode cX12_ruleText 131 = .ok (.bipush 61, 2) := by decide +kernel
theorem dX12_ruleText_133 : decode cX12_ruleText 133 = .ok (.invokevirtual 260, 3) := by decide +kernel
theorem dX12_ruleText_136 : decode cX12_ruleText 136 = .ok (.aload_n 0, 1) := by decide +kernel
theorem dX12_ruleText_137 : decode cX12_ruleText 137 = .ok (.aload_n 0, 1) := by decide +kernel
theorem dX12_ruleText_138 : decode cX12_ruleText 138 = .ok (.iload_n 1, 1) := by decide +kernel
theorem dX12_ruleText_139 : decode cX12_ruleText 139 = .ok (.iload_n 2, 1) := by decide +kernel
theorem dX12_ruleText_140 : decode cX12_ruleText 140 = .ok (.iconst 4, 1) := by decide +kernel
theorem dX12_ruleText_141 : decode cX12_ruleText 141 = .ok (.invokevirtual 114, 3) := by decide +kernel
theorem dX12_ruleText_144 : decode cX12_ruleText 144 = .ok (.aload_n 0, 1) := by decide +kernel
theorem dX12_ruleText_145 : decode cX12_ruleText 145 = .ok (.iload_n 1, 1) := by decide +kernel
theorem dX12_ruleText_146 : decode cX12_ruleText 146 = .ok (.iload_n 2, 1) := by decide +kernel
theorem dX12_ruleText_147 : decode cX12_ruleText 147 = .ok (.iconst 5, 1) := by decide +kernel
theorem dX12_ruleText_148 : decode cX12_ruleText 148 = .ok (.invokevirtual 114, 3) := by decide +kernel
theorem dX12_ruleText_151 : decode cX12_ruleText 151 = .ok (.invokevirtual 266, 3) := by decide +kernel
theorem dX12_ruleText_154 : decode cX12_ruleText 154 = .ok (.iload_n 3, 1) := by decide +kernel
theorem dX12_ruleText_155 : decode cX12_ruleText 155 = .ok (.aload_n 0, 1) := by decide +kernel
theorem dX12_ruleText_156 : decode cX12_ruleText 156 = .ok (.getfield 257, 3) := by decide +kernel
theorem dX12_ruleText_159 : decode cX12_ruleText 159 = .ok (.if_icmp .ge 12, 3) := by decide +kernel
theorem dX12_ruleText_162 : decode cX12_ruleText 162 = .ok (.aload_n 0, 1) := by decide +kernel
theorem dX12_ruleText_163 : decode cX12_ruleText 163 = .ok (.getfield 64, 3) := by decide +kernel
theorem dX12_ruleText_166 : decode cX12_ruleText 166 = .ok (.iload_n 3, 1) := by decide +kernel
theorem dX12_ruleText_167 : decode cX12_ruleText 167 = .ok (.iaload, 1) := by decide +kernel
theorem dX12_ruleText_168 : decode cX12_ruleText 168 = .ok (.goto 5, 3) := by decide +kernel
theorem dX12_ruleText_171 : decode cX12_ruleText 171 = .ok (.bipush (-6), 2) := by decide +kernel
theorem dX12_ruleText_173 : decode cX12_ruleText 173 = .ok (.ireturn, 1) := by decide +kernel
