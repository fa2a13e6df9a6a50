theorem dX11_init_0 : decode cX11_init 0 = .ok (.aload_n 0, 1) := by decide +kernel
theorem dX11_init_1 : decode cX11_init 1 = .ok (.invokespecial 5, 3) := by decide +kernel
theorem dX11_init_4 : decode cX11_init 4 = .ok (.aload_n 0, 1) := by decide +kernel
theorem dX11_init_5 : decode cX11_init 5 = .ok (.new 11, 3) := by decide +kernel
theorem dX11_init_8 : decode cX11_init 8 = .ok (.dup, 1) := by decide +kernel
theorem dX11_init_9 : decode cX11_init 9 = .ok (.invokespecial 13, 3) := by decide +kernel
theorem dX11_init_12 : decode cX11_init 12 = .ok (.putfield 14, 3) := by decide +kernel
theorem dX11_init_15 : decode cX11_init 15 = .ok (.aload_n 0, 1) := by decide +kernel
theorem dX11_init_16 : decode cX11_init 16 = .ok (.new 18, 3) := by decide +kernel
theorem dX11_init_19 : decode cX11_init 19 = .ok (.dup, 1) := by decide +kernel
theorem dX11_init_20 : decode cX11_init 20 = .ok (.invokespecial 20, 3) := by decide +kernel
theorem dX11_init_23 : decode cX11_init 23 = .ok (.putfield 21, 3) := by decide +kernel
theorem dX11_init_26 : decode cX11_init 26 = .ok (.aload_n 0, 1) := by decide +kernel
theorem dX11_init_27 : decode cX11_init 27 = .ok (.new 25, 3) := by decide +kernel
theorem dX11_init_30 : decode cX11_init 30 = .ok (.dup, 1) := by decide +kernel
theorem dX11_init_31 : decode cX11_init 31 = .ok (.aload_n 0, 1) := by decide +kernel
theorem dX11_init_32 : decode cX11_init 32 = .ok (.getfield 14, 3) := by decide +kernel
theorem dX11_init_35 : decode cX11_init 35 = .ok (.invokespecial 27, 3) := by decide +kernel
theorem dX11_init_38 : decode cX11_init 38 = .ok (.putfield 30, 3) := by decide +kernel
theorem dX11_init_41 : decode cX11_init 41 = .ok (.aload_n 0, 1) := by decide +kernel
theorem dX11_init_42 : decode cX11_init 42 = .ok (.new 34, 3) := by decide +kernel
theorem dX11_init_45 : decode cX11_init 45 = .ok (.dup, 1) := by decide +kernel
theorem dX11_init_46 : decode cX11_init 46 = .ok (.aload_n 0, 1) := by decide +kernel
theorem dX11_init_47 : decode cX11_init 47 = .ok (.getfield 14, 3) := by decide +kernel
theorem dX11_init_50 : decode cX11_init 50 = .ok (.invokespecial 36, 3) := by decide +kernel
theorem dX11_init_53 : decode cX11_init 53 = .ok (.putfield 37, 3) := by decide +kernel
theorem dX11_init_56 : decode cX11_init 56 = .ok (.aload_n 0, 1) := by decide +kernel
theorem dX11_init_57 : decode cX11_init 57 = .ok (.new 41, 3) := by decide +kernel
theorem dX11_init_60 : decode cX11_init 60 = .ok (.dup, 1) := by decide +kernel
theorem dX11_init_61 : decode cX11_init 61 = .ok (.aload_n 0, 1) := by decide +kernel
theorem dX11_init_62 : decode cX11_init 62 = .ok (.getfield 14, 3) := by decide +kernel
theorem dX11_init_65 : decode cX11_init 65 = .ok (.invokespecial 43, 3) := by decide +kernel
theorem dX11_init_68 : decode cX11_init 68 = .ok (.putfield 44, 3) := by decide +kernel
theorem dX11_init_71 : decode cX11_init 71 = .ok (.aload_n 0, 1) := by decide +kernel
theorem dX11_init_72 : decode cX11_init 72 = .ok (.new 48, 3) := by decide +kernel
theorem dX11_init_75 : decode cX11_init 75 = .ok (.dup, 1) := by decide +kernel
theorem dX11_init_76 : decode cX11_init 76 = .ok (.aload_n 0, 1) := by decide +kernel
theorem dX11_init_77 : decode cX11_init 77 = .ok (.getfield 14, 3) := by decide +kernel
theorem dX11_init_80 : decode cX11_init 80 = .ok (.invokespecial 50, 3) := by decide +kernel
theorem dX11_init_83 : decode cX11_init 83 = .ok (.putfield 51, 3) := by decide +kernel
theorem dX11_init_86 : decode cX11_init 86 = .ok (.aload_n 0, 1) := by decide +kernel
theorem dX11_init_87 : decode cX11_init 87 = .ok (.new 55, 3) := by decide +kernel
theorem dX11_init_90 : decode cX11_init 90 = .ok (.dup, 1) := by decide +kernel
theorem dX11_init_91 : decode cX11_init 91 = .ok (.invokespecial 57, 3) := by decide +kernel
theorem dX11_init_94 : decode cX11_init 94 = .ok (.putfield 58, 3) := by decide +kernel
theorem dX11_init_97 : decode cX11_init 97 = .ok (.aload_n 0, 1) := by decide +kernel
theorem dX11_init_98 : decode cX11_init 98 = .ok (.new 62, 3) := by decide +kernel
theorem dX11_init_101 : decode cX11_init 101 = .ok (.dup, 1) := by decide +kernel
theorem dX11_init_102 : decode cX11_init 102 = .ok (.invokespecial 64, 3) := by decide +kernel
theorem dX11_init_105 : decode cX11_init 105 = .ok (.putfield 65, 3) := by decide +kernel
theorem dX11_init_108 : decode cX11_init 108 = .ok (.aload_n 0, 1) := by decide +kernel
theorem dX11_init_109 : decode cX11_init 109 = .ok (.bipush 8, 2) := by decide +kernel
theorem dX11_init_111 : decode cX11_init 111 = .ok (.anewarray 69, 3) := by decide +kernel
theorem dX11_init_114 : decode cX11_init 114 = .ok (.putfield 71, 3) := by decide +kernel
theorem dX11_init_117 : decode cX11_init 117 = .ok (.iconst 0, 1) := by decide +kernel
theorem dX11_init_118 : decode cX11_init 118 = .ok (.istore_n 1, 1) := by decide +kernel
theorem dX11_init_119 : decode cX11_init 119 = .ok (.iload_n 1, 1) := by decide +kernel
theorem dX11_init_120 : decode cX11_init 120 = .ok (.bipush 8, 2) := by decide +kernel
theorem dX11_init_122 : decode cX11_init 122 = .ok (.if_icmp .ge 22, 3) := by decide +kernel
theorem dX11_init_125 : decode cX11_init 125 = .ok (.aload_n 0, 1) := by decide +kernel
theorem dX11_init_126 : decode cX11_init 126 = .ok (.getfield 71, 3) := by decide +kernel
theorem dX11_init_129 : decode cX11_init 129 = .ok (.iload_n 1, 1) := by decide +kernel
theorem dX11_init_130 : decode cX11_init 130 = .ok (.new 69, 3) := by decide +kernel
theorem dX11_init_133 : decode cX11_init 133 = .ok (.dup, 1) := by decide +kernel
theorem dX11_init_134 : decode cX11_init 134 = .ok (.invokespecial 75, 3) := by decide +kernel
theorem dX11_init_137 : decode cX11_init 137 = .ok (.aastore, 1) := by decide +kernel
theorem dX11_init_138 : decode cX11_init 138 = .ok (.iinc 1 1, 3) := by decide +kernel
theorem dX11_init_141 : decode cX11_init 141 = .ok (.goto (-22), 3) := by decide +kernel
theorem dX11_init_144 : decode cX11_init 144 = .ok (.aload_n 0, 1) := by decide +kernel
theorem dX11_init_145 : decode cX11_init 145 = .ok (.aload_n 0, 1) := by decide +kernel
theorem dX11_init_146 : decode cX11_init 146 = .ok (.getfield 14, 3) := by decide +kernel
theorem dX11_init_149 : decode cX11_init 149 = .ok (.invokevirtual 76, 3) := by decide +kernel
theorem dX11_init_152 : decode cX11_init 152 = .ok (.putfield 80, 3) := by decide +kernel
theorem dX11_init_155 : decode cX11_init 155 = .ok (.return_, 1) := by decide +kernel
theorem dX11_reset_0 : decode cX11_reset 0 = .ok (.iload_n 1, 1) := by decide +kernel
theorem dX11_reset_1 : decode cX11_reset 1 = .ok (.iconst 1, 1) := by decide +kernel
theorem dX11_reset_2 : decode cX11_reset 2 = .ok (.if_icmp .lt 8, 3) := by decide +kernel
theorem dX11_reset_5 : decode cX11_reset 5 = .ok (.iload_n 1, 1) := by decide +kernel
theorem dX11_reset_6 : decode cX11_reset 6 = .ok (.iconst 5, 1) := by decide +kernel
theorem dX11_reset_7 : decode cX11_reset 7 = .ok (.if_icmp .le 6, 3) := by decide +kernel
theorem dX11_reset_10 : decode cX11_reset 10 = .ok (.bipush (-3), 2) := by decide +kernel
theorem dX11_reset_12 : decode cX11_reset 12 = .ok (.ireturn, 1) := by decide +kernel
theorem dX11_reset_13 : decode cX11_reset 13 = .ok (.aload_n 0, 1) := by decide +kernel
theorem dX11_reset_14 : decode cX11_reset 14 = .ok (.getfield 14, 3) := by decide +kernel
theorem dX11_reset_17 : decode cX11_reset 17 = .ok (.getfield 84, 3) := by decide +kernel
theorem dX11_reset_20 : decode cX11_reset 20 = .ok (.istore_n 2, 1) := by decide +kernel
theorem dX11_reset_21 : decode cX11_reset 21 = .ok (.aload_n 0, 1) := by decide +kernel
theorem dX11_reset_22 : decode cX11_reset 22 = .ok (.getfield 14, 3) := by decide +kernel
theorem dX11_reset_25 : decode cX11_reset 25 = .ok (.iload_n 1, 1) := by decide +kernel
theorem dX11_reset_26 : decode cX11_reset 26 = .ok (.invokevirtual 88, 3) := by decide +kernel
theorem dX11_reset_29 : decode cX11_reset 29 = .ok (.aload_n 0, 1) := by decide +kernel
theorem dX11_reset_30 : decode cX11_reset 30 = .ok (.getfield 21, 3) := by decide +kernel
theorem dX11_reset_33 : decode cX11_reset 33 = .ok (.iconst 0, 1) := by decide +kernel
theorem dX11_reset_34 : decode cX11_reset 34 = .ok (.putfield 92, 3) := by decide +kernel
theorem dX11_reset_37 : decode cX11_reset 37 = .ok (.aload_n 0, 1) := by decide +kernel
theorem dX11_reset_38 : decode cX11_reset 38 = .ok (.iconst 0, 1) := by decide +kernel
theorem dX11_reset_39 : decode cX11_reset 39 = .ok (.putfield 95, 3) := by decide +kernel
theorem dX11_reset_42 : decode cX11_reset 42 = .ok (.aload_n 0, 1) := by decide +kernel
theorem dX11_reset_43 : decode cX11_reset 43 = .ok (.iconst 0, 1) := by decide +kernel
theorem dX11_reset_44 : decode cX11_reset 44 = .ok (.putfield 98, 3) := by decide +kernel
theorem dX11_reset_47 : decode cX11_reset 47 = .ok (.aload_n 0, 1) := by decide +kernel
theorem dX11_reset_48 : decode cX11_reset 48 = .ok (.aload_n 0, 1) := by decide +kernel
theorem dX11_reset_49 : decode cX11_reset 49 = .ok (.getfield 14, 3) := by decide +kernel
theorem dX11_reset_52 : decode cX11_reset 52 = .ok (.invokevirtual 76, 3) := by decide +kernel
theorem dX11_reset_55 : decode cX11_reset 55 = .ok (.putfield 80, 3) := by decide +kernel
theorem dX11_reset_58 : decode cX11_reset 58 = .ok (.iload_n 2, 1) := by decide +kernel
theorem dX11_reset_59 : decode cX11_reset 59 = .ok (.ireturn, 1) := by decide +kernel
theorem dX11_connect_0 : decode cX11_connect 0 = .ok (.iload_n 1, 1) := by decide +kernel
theorem dX11_connect_1 : decode cX11_connect 1 = .ok (.iload_n 2, 1) := by decide +kernel
theorem dX11_connect_2 : decode cX11_connect 2 = .ok (.invokestatic 101, 3) := by decide +kernel
theorem dX11_connect_5 : decode cX11_connect 5 = .ok (.ifCond .eq 12, 3) := by decide +kernel
theorem dX11_connect_8 : decode cX11_connect 8 = .ok (.iload_n 3, 1) := by decide +kernel
theorem dX11_connect_9 : decode cX11_connect 9 = .ok (.iload 4, 2) := by decide +kernel
theorem dX11_connect_11 : decode cX11_connect 11 = .ok (.invokestatic 101, 3) := by decide +kernel
theorem dX11_connect_14 : decode cX11_connect 14 = .ok (.ifCond .ne 5, 3) := by decide +kernel
theorem dX11_connect_17 : decode cX11_connect 17 = .ok (.iconst (-1), 1) := by decide +kernel
theorem dX11_connect_18 : decode cX11_connect 18 = .ok (.ireturn, 1) := by decide +kernel
theorem dX11_connect_19 : decode cX11_connect 19 = .ok (.iload_n 1, 1) := by decide +kernel
theorem dX11_connect_20 : decode cX11_connect 20 = .ok (.iload_n 2, 1) := by decide +kernel
theorem dX11_connect_21 : decode cX11_connect 21 = .ok (.invokestatic 105, 3) := by decide +kernel
theorem dX11_connect_24 : decode cX11_connect 24 = .ok (.istore 5, 2) := by decide +kernel
theorem dX11_connect_26 : decode cX11_connect 26 = .ok (.iload_n 3, 1) := by decide +kernel
theorem dX11_connect_27 : decode cX11_connect 27 = .ok (.iload 4, 2) := by decide +kernel
theorem dX11_connect_29 : decode cX11_connect 29 = .ok (.invokestatic 105, 3) := by decide +kernel
theorem dX11_connect_32 : decode cX11_connect 32 = .ok (.istore 6, 2) := by decide +kernel
theorem dX11_connect_34 : decode cX11_connect 34 = .ok (.iload 5, 2) := by decide +kernel
theorem dX11_connect_36 : decode cX11_connect 36 = .ok (.iload 6, 2) := by decide +kernel
theorem dX11_connect_38 : decode cX11_connect 38 = .ok (.if_icmp .eq 31, 3) := by decide +kernel
theorem dX11_connect_41 : decode cX11_connect 41 = .ok (.aload_n 0, 1) := by decide +kernel
theorem dX11_connect_42 : decode cX11_connect 42 = .ok (.getfield 14, 3) := by decide +kernel
theorem dX11_connect_45 : decode cX11_connect 45 = .ok (.getfield 109, 3) := by decide +kernel
theorem dX11_connect_48 : decode cX11_connect 48 = .ok (.iload 5, 2) := by decide +kernel
theorem dX11_connect_50 : decode cX11_connect 50 = .ok (.iaload, 1) := by decide +kernel
theorem dX11_connect_51 : decode cX11_connect 51 = .ok (.iconst (-1), 1) := by decide +kernel
theorem dX11_connect_52 : decode cX11_connect 52 = .ok (.if_icmp .ne 17, 3) := by decide +kernel
theorem dX11_connect_55 : decode cX11_connect 55 = .ok (.aload_n 0, 1) := by decide +kernel
theorem dX11_connect_56 : decode cX11_connect 56 = .ok (.getfield 14, 3) := by decide +kernel
theorem dX11_connect_59 : decode cX11_connect 59 = .ok (.getfield 109, 3) := by decide +kernel
theorem dX11_connect_62 : decode cX11_connect 62 = .ok (.iload 6, 2) := by decide +kernel
theorem dX11_connect_64 : decode cX11_connect 64 = .ok (.iaload, 1) := by decide +kernel
theorem dX11_connect_65 : decode cX11_connect 65 = .ok (.iconst (-1), 1) := by decide +kernel
theorem dX11_connect_66 : decode cX11_connect 66 = .ok (.if_icmp .eq 6, 3) := by decide +kernel
theorem dX11_connect_69 : decode cX11_connect 69 = .ok (.bipush (-4), 2) := by decide +kernel
theorem dX11_connect_71 : decode cX11_connect 71 = .ok (.ireturn, 1) := by decide +kernel
theorem dX11_connect_72 : decode cX11_connect 72 = .ok (.aload_n 0, 1) := by decide +kernel
theorem dX11_connect_73 : decode cX11_connect 73 = .ok (.getfield 14, 3) := by decide +kernel
theorem dX11_connect_76 : decode cX11_connect 76 = .ok (.getfield 109, 3) := by decide +kernel
theorem dX11_connect_79 : decode cX11_connect 79 = .ok (.iload 5, 2) := by decide +kernel
theorem dX11_connect_81 : decode cX11_connect 81 = .ok (.iload 6, 2) := by decide +kernel
theorem dX11_connect_83 : decode cX11_connect 83 = .ok (.iastore, 1) := by decide +kernel
theorem dX11_connect_84 : decode cX11_connect 84 = .ok (.aload_n 0, 1) := by decide +kernel
theorem dX11_connect_85 : decode cX11_connect 85 = .ok (.getfield 14, 3) := by decide +kernel
theorem dX11_connect_88 : decode cX11_connect 88 = .ok (.getfield 109, 3) := by decide +kernel
theorem dX11_connect_91 : decode cX11_connect 91 = .ok (.iload 6, 2) := by decide +kernel
theorem dX11_connect_93 : decode cX11_connect 93 = .ok (.iload 5, 2) := by decide +kernel
theorem dX11_connect_95 : decode cX11_connect 95 = .ok (.iastore, 1) := by decide +kernel
theorem dX11_connect_96 : decode cX11_connect 96 = .ok (.aload_n 0, 1) := by decide +kernel
theorem dX11_connect_97 : decode cX11_connect 97 = .ok (.getfield 14, 3) := by decide +kernel
theorem dX11_connect_100 : decode cX11_connect 100 = .ok (.dup, 1) := by decide +kernel
theorem dX11_connect_101 : decode cX11_connect 101 = .ok (.getfield 113, 3) := by decide +kernel
theorem dX11_connect_104 : decode cX11_connect 104 = .ok (.iconst 1, 1) := by decide +kernel
theorem dX11_connect_105 : decode cX11_connect 105 = .ok (.iadd, 1) := by decide +kernel
theorem dX11_connect_106 : decode cX11_connect 106 = .ok (.putfield 113, 3) := by decide +kernel
theorem dX11_connect_109 : decode cX11_connect 109 = .ok (.aload_n 0, 1) := by decide +kernel
theorem dX11_connect_110 : decode cX11_connect 110 = .ok (.getfield 14, 3) := by decide +kernel
theorem dX11_connect_113 : decode cX11_connect 113 = .ok (.getfield 113, 3) := by decide +kernel
theorem dX11_connect_116 : decode cX11_connect 116 = .ok (.ireturn, 1) := by decide +kernel
theorem dX11_disconnect_0 : decode cX11_disconnect 0 = .ok (.iload_n 1, 1) := by decide +kernel
theorem dX11_disconnect_1 : decode cX11_disconnect 1 = .ok (.iload_n 2, 1) := by decide +kernel
theorem dX11_disconnect_2 : decode cX11_disconnect 2 = .ok (.invokestatic 101, 3) := by decide +kernel
theorem dX11_disconnect_5 : decode cX11_disconnect 5 = .ok (.ifCond .ne 5, 3) := by decide +kernel
theorem dX11_disconnect_8 : decode cX11_disconnect 8 = .ok (.iconst (-1), 1) := by decide +kernel
theorem dX11_disconnect_9 : decode cX11_disconnect 9 = .ok (.ireturn, 1) := by decide +kernel
theorem dX11_disconnect_10 : decode cX11_disconnect 10 = .ok (.iload_n 1, 1) := by decide +kernel
theorem dX11_disconnect_11 : decode cX11_disconnect 11 = .ok (.iload_n 2, 1) := by decide +kernel
theorem dX11_disconnect_12 : decode cX11_disconnect 12 = .ok (.invokestatic 105, 3) := by decide +kernel
theorem dX11_disconnect_15 : decode cX11_disconnect 15 = .ok (.istore_n 3, 1) := by decide +kernel
theorem dX11_disconnect_16 : decode cX11_disconnect 16 = .ok (.aload_n 0, 1) := by decide +kernel
theorem dX11_disconnect_17 : decode cX11_disconnect 17 = .ok (.getfield 14, 3) := by decide +kernel
theorem dX11_disconnect_20 : decode cX11_disconnect 20 = .ok (.getfield 109, 3) := by decide +kernel
theorem dX11_disconnect_23 : decode cX11_disconnect 23 = .ok (.iload_n 3, 1) := by decide +kernel
theorem dX11_disconnect_24 : decode cX11_disconnect 24 = .ok (.iaload, 1) := by decide +kernel
theorem dX11_disconnect_25 : decode cX11_disconnect 25 = .ok (.istore 4, 2) := by decide +kernel
theorem dX11_disconnect_27 : decode cX11_disconnect 27 = .ok (.iload 4, 2) := by decide +kernel
theorem dX11_disconnect_29 : decode cX11_disconnect 29 = .ok (.iconst (-1), 1) := by decide +kernel
theorem dX11_disconnect_30 : decode cX11_disconnect 30 = .ok (.if_icmp .ne 6, 3) := by decide +kernel
theorem dX11_disconnect_33 : decode cX11_disconnect 33 = .ok (.bipush (-6), 2) := by decide +kernel
theorem dX11_disconnect_35 : decode cX11_disconnect 35 = .ok (.ireturn, 1) := by decide +kernel
theorem dX11_disconnect_36 : decode cX11_disconnect 36 = .ok (.aload_n 0, 1) := by decide +kernel
theorem dX11_disconnect_37 : decode cX11_disconnect 37 = .ok (.getfield 14, 3) := by decide +kernel
theorem dX11_disconnect_40 : decode cX11_disconnect 40 = .ok (.getfield 109, 3) := by decide +kernel
theorem dX11_disconnect_43 : decode cX11_disconnect 43 = .ok (.iload_n 3, 1) := by decide +kernel
theorem dX11_disconnect_44 : decode cX11_disconnect 44 = .ok (.iconst (-1), 1) := by decide +kernel
theorem dX11_disconnect_45 : decode cX11_disconnect 45 = .ok (.iastore, 1) := by decide +kernel
theorem dX11_disconnect_46 : decode cX11_disconnect 46 = .ok (.aload_n 0, 1) := by decide +kernel
theorem dX11_disconnect_47 : decode cX11_disconnect 47 = .ok (.getfield 14, 3) := by decide +kernel
theorem dX11_disconnect_50 : decode cX11_disconnect 50 = .ok (.getfield 109, 3) := by decide +kernel
theorem dX11_disconnect_53 : decode cX11_disconnect 53 = .ok (.iload 4, 2) := by decide +kernel
theorem dX11_disconnect_55 : decode cX11_disconnect 55 = .ok (.iconst (-1), 1) := by decide +kernel
theorem dX11_disconnect_56 : decode cX11_disconnect 56 = .ok (.iastore, 1) := by decide +kernel
theorem dX11_disconnect_57 : decode cX11_disconnect 57 = .ok (.aload_n 0, 1) := by decide +kernel
theorem dX11_disconnect_58 : decode cX11_disconnect 58 = .ok (.getfield 14, 3) := by decide +kernel
theorem dX11_disconnect_61 : decode cX11_disconnect 61 = .ok (.dup, 1) := by decide +kernel
theorem dX11_disconnect_62 : decode cX11_disconnect 62 = .ok (.getfield 113, 3) := by decide +kernel
theorem dX11_disconnect_65 : decode cX11_disconnect 65 = .ok (.iconst 1, 1) := by decide +kernel
theorem dX11_disconnect_66 : decode cX11_disconnect 66 = .ok (.isub, 1) := by decide +kernel
theorem dX11_disconnect_67 : decode cX11_disconnect 67 = .ok (.putfield 113, 3) := by decide +kernel
theorem dX11_disconnect_70 : decode cX11_disconnect 70 = .ok (.aload_n 0, 1) := by decide +kernel
theorem dX11_disconnect_71 : decode cX11_disconnect 71 = .ok (.getfield 14, 3) := by decide +kernel
theorem dX11_disconnect_74 : decode cX11_disconnect 74 = .ok (.getfield 113, 3) := by decide +kernel
theorem dX11_disconnect_77 : decode cX11_disconnect 77 = .ok (.ireturn, 1) := by decide +kernel
theorem dX11_other_0 : decode cX11_other 0 = .ok (.iload_n 1, 1) := by decide +kernel
theorem dX11_other_1 : decode cX11_other 1 = .ok (.iload_n 2, 1) := by decide +kernel
theorem dX11_other_2 : decode cX11_other 2 = .ok (.invokestatic 101, 3) := by decide +kernel
theorem dX11_other_5 : decode cX11_other 5 = .ok (.ifCond .ne 5, 3) := by decide +kernel
theorem dX11_other_8 : decode cX11_other 8 = .ok (.iconst (-1), 1) := by decide +kernel
theorem dX11_other_9 : decode cX11_other 9 = .ok (.ireturn, 1) := by decide +kernel
theorem dX11_other_10 : decode cX11_other 10 = .ok (.aload_n 0, 1) := by decide +kernel
theorem dX11_other_11 : decode cX11_other 11 = .ok (.getfield 14, 3) := by decide +kernel
theorem dX11_other_14 : decode cX11_other 14 = .ok (.getfield 109, 3) := by decide +kernel
theorem dX11_other_17 : decode cX11_other 17 = .ok (.iload_n 1, 1) := by decide +kernel
theorem dX11_other_18 : decode cX11_other 18 = .ok (.iload_n 2, 1) := by decide +kernel
theorem dX11_other_19 : decode cX11_other 19 = .ok (.invokestatic 105, 3) := by decide +kernel
theorem dX11_other_22 : decode cX11_other 22 = .ok (.iaload, 1) := by decide +kernel
theorem dX11_other_23 : decode cX11_other 23 = .ok (.istore_n 3, 1) := by decide +kernel
theorem dX11_other_24 : decode cX11_other 24 = .ok (.iload_n 3, 1) := by decide +kernel
theorem dX11_other_25 : decode cX11_other 25 = .ok (.iconst (-1), 1) := by decide +kernel
theorem dX11_other_26 : decode cX11_other 26 = .ok (.if_icmp .ne 8, 3) := by decide +kernel
theorem dX11_other_29 : decode cX11_other 29 = .ok (.bipush (-6), 2) := by decide +kernel
theorem dX11_other_31 : decode cX11_other 31 = .ok (.goto 13, 3) := by decide +kernel
theorem dX11_other_34 : decode cX11_other 34 = .ok (.bipush 10, 2) := by decide +kernel
theorem dX11_other_36 : decode cX11_other 36 = .ok (.iload_n 3, 1) := by decide +kernel
theorem dX11_other_37 : decode cX11_other 37 = .ok (.iconst 4, 1) := by decide +kernel
theorem dX11_other_38 : decode cX11_other 38 = .ok (.idiv, 1) := by decide +kernel
theorem dX11_other_39 : decode cX11_other 39 = .ok (.imul, 1) := by decide +kernel
theorem dX11_other_40 : decode cX11_other 40 = .ok (.iload_n 3, 1) := by decide +kernel
theorem dX11_other_41 : decode cX11_other 41 = .ok (.iconst 4, 1) := by decide +kernel
theorem dX11_other_42 : decode cX11_other 42 = .ok (.irem, 1) := by decide +kernel
theorem dX11_other_43 : decode cX11_other 43 = .ok (.iadd, 1) := by decide +kernel
theorem dX11_other_44 : decode cX11_other 44 = .ok (.ireturn, 1) := by decide +kernel
theorem dX11_insertDrop_0 : decode cX11_insertDrop 0 = .ok (.iload_n 1, 1) := by decide +kernel
theorem dX11_insertDrop_1 : decode cX11_insertDrop 1 = .ok (.invokestatic 116, 3) := by decide +kernel
theorem dX11_insertDrop_4 : decode cX11_insertDrop 4 = .ok (.ifCond .ne 5, 3) := by decide +kernel
theorem dX11_insertDrop_7 : decode cX11_insertDrop 7 = .ok (.iconst (-1), 1) := by decide +kernel
theorem dX11_insertDrop_8 : decode cX11_insertDrop 8 = .ok (.ireturn, 1) := by decide +kernel
theorem dX11_insertDrop_9 : decode cX11_insertDrop 9 = .ok (.aload_n 0, 1) := by decide +kernel
theorem dX11_insertDrop_10 : decode cX11_insertDrop 10 = .ok (.iload_n 1, 1) := by decide +kernel
theorem dX11_insertDrop_11 : decode cX11_insertDrop 11 = .ok (.iload_n 2, 1) := by decide +kernel
theorem dX11_insertDrop_12 : decode cX11_insertDrop 12 = .ok (.iload_n 3, 1) := by decide +kernel
theorem dX11_insertDrop_13 : decode cX11_insertDrop 13 = .ok (.iload 4, 2) := by decide +kernel
theorem dX11_insertDrop_15 : decode cX11_insertDrop 15 = .ok (.iload 5, 2) := by decide +kernel
theorem dX11_insertDrop_17 : decode cX11_insertDrop 17 = .ok (.invokevirtual 120, 3) := by decide +kernel
theorem dX11_insertDrop_20 : decode cX11_insertDrop 20 = .ok (.ifCond .ne 6, 3) := by decide +kernel
theorem dX11_insertDrop_23 : decode cX11_insertDrop 23 = .ok (.bipush (-3), 2) := by decide +kernel
theorem dX11_insertDrop_25 : decode cX11_insertDrop 25 = .ok (.ireturn, 1) := by decide +kernel
theorem dX11_insertDrop_26 : decode cX11_insertDrop 26 = .ok (.aload_n 0, 1) := by decide +kernel
theorem dX11_insertDrop_27 : decode cX11_insertDrop 27 = .ok (.iload_n 1, 1) := by decide +kernel
theorem dX11_insertDrop_28 : decode cX11_insertDrop 28 = .ok (.iload_n 2, 1) := by decide +kernel
theorem dX11_insertDrop_29 : decode cX11_insertDrop 29 = .ok (.new 124, 3) := by decide +kernel
theorem dX11_insertDrop_32 : decode cX11_insertDrop 32 = .ok (.dup, 1) := by decide +kernel
theorem dX11_insertDrop_33 : decode cX11_insertDrop 33 = .ok (.iload_n 3, 1) := by decide +kernel
theorem dX11_insertDrop_34 : decode cX11_insertDrop 34 = .ok (.iload 4, 2) := by decide +kernel
theorem dX11_insertDrop_36 : decode cX11_insertDrop 36 = .ok (.iload 5, 2) := by decide +kernel
theorem dX11_insertDrop_38 : decode cX11_insertDrop 38 = .ok (.iconst 0, 1) := by decide +kernel
theorem dX11_insertDrop_39 : decode cX11_insertDrop 39 = .ok (.iconst 0, 1) := by decide +kernel
theorem dX11_insertDrop_40 : decode cX11_insertDrop 40 = .ok (.iconst 0, 1) := by decide +kernel
theorem dX11_insertDrop_41 : decode cX11_insertDrop 41 = .ok (.iconst 1, 1) := by decide +kernel
theorem dX11_insertDrop_42 : decode cX11_insertDrop 42 = .ok (.invokespecial 126, 3) := by decide +kernel
theorem dX11_insertDrop_45 : decode cX11_insertDrop 45 = .ok (.invokevirtual 129, 3) := by decide +kernel
theorem dX11_insertDrop_48 : decode cX11_insertDrop 48 = .ok (.ireturn, 1) := by decide +kernel
theorem dX11_insertForward_0 : decode cX11_insertForward 0 = .ok (.iload_n 1, 1) := by decide +kernel
theorem dX11_insertForward_1 : decode cX11_insertForward 1 = .ok (.invokestatic 116, 3) := by decide +kernel
theorem dX11_insertForward_4 : decode cX11_insertForward 4 = .ok (.ifCond .ne 5, 3) := by decide +kernel
theorem dX11_insertForward_7 : decode cX11_insertForward 7 = .ok (.iconst (-1), 1) := by decide +kernel
theorem dX11_insertForward_8 : decode cX11_insertForward 8 = .ok (.ireturn, 1) := by decide +kernel
theorem dX11_insertForward_9 : decode cX11_insertForward 9 = .ok (.aload_n 0, 1) := by decide +kernel
theorem dX11_insertForward_10 : decode cX11_insertForward 10 = .ok (.iload_n 1, 1) := by decide +kernel
theorem dX11_insertForward_11 : decode cX11_insertForward 11 = .ok (.iload_n 2, 1) := by decide +kernel
theorem dX11_insertForward_12 : decode cX11_insertForward 12 = .ok (.iload_n 3, 1) := by decide +kernel
theorem dX11_insertForward_13 : decode cX11_insertForward 13 = .ok (.iload 4, 2) := by decide +kernel
theorem dX11_insertForward_15 : decode cX11_insertForward 15 = .ok (.iload 5, 2) := by decide +kernel
theorem dX11_insertForward_17 : decode cX11_insertForward 17 = .ok (.invokevirtual 120, 3) := by decide +kernel
theorem dX11_insertForward_20 : decode cX11_insertForward 20 = .ok (.ifCond .eq 11, 3) := by decide +kernel
theorem dX11_insertForward_23 : decode cX11_insertForward 23 = .ok (.iload 6, 2) := by decide +kernel
theorem dX11_insertForward_25 : decode cX11_insertForward 25 = .ok (.invokestatic 133, 3) := by decide +kernel
theorem dX11_insertForward_28 : decode cX11_insertForward 28 = .ok (.ifCond .ne 6, 3) := by decide +kernel
theorem dX11_insertForward_31 : decode cX11_insertForward 31 = .ok (.bipush (-3), 2) := by decide +kernel
theorem dX11_insertForward_33 : decode cX11_insertForward 33 = .ok (.ireturn, 1) := by decide +kernel
theorem dX11_insertForward_34 : decode cX11_insertForward 34 = .ok (.aload_n 0, 1) := by decide +kernel
theorem dX11_insertForward_35 : decode cX11_insertForward 35 = .ok (.iload_n 1, 1) := by decide +kernel
theorem dX11_insertForward_36 : decode cX11_insertForward 36 = .ok (.iload_n 2, 1) := by decide +kernel
theorem dX11_insertForward_37 : decode cX11_insertForward 37 = .ok (.new 124, 3) := by decide +kernel
theorem dX11_insertForward_40 : decode cX11_insertForward 40 = .ok (.dup, 1) := by decide +kernel
theorem dX11_insertForward_41 : decode cX11_insertForward 41 = .ok (.iload_n 3, 1) := by decide +kernel
theorem dX11_insertForward_42 : decode cX11_insertForward 42 = .ok (.iload 4, 2) := by decide +kernel
theorem dX11_insertForward_44 : decode cX11_insertForward 44 = .ok (.iload 5, 2) := by decide +kernel
theorem dX11_insertForward_46 : decode cX11_insertForward 46 = .ok (.iload 6, 2) := by decide +kernel
theorem dX11_insertForward_48 : decode cX11_insertForward 48 = .ok (.iconst 0, 1) := by decide +kernel
theorem dX11_insertForward_49 : decode cX11_insertForward 49 = .ok (.iconst 0, 1) := by decide +kernel
theorem dX11_insertForward_50 : decode cX11_insertForward 50 = .ok (.iconst 1, 1) := by decide +kernel
theorem dX11_insertForward_51 : decode cX11_insertForward 51 = .ok (.invokespecial 126, 3) := by decide +kernel
theorem dX11_insertForward_54 : decode cX11_insertForward 54 = .ok (.invokevirtual 129, 3) := by decide +kernel
theorem dX11_insertForward_57 : decode cX11_insertForward 57 = .ok (.ireturn, 1) := by decide +kernel
theorem dX11_setRewriting_0 : decode cX11_setRewriting 0 = .ok (.aload_n 0, 1) := by decide +kernel
theorem dX11_setRewriting_1 : decode cX11_setRewriting 1 = .ok (.iload_n 1, 1) := by decide +kernel
theorem dX11_setRewriting_2 : decode cX11_setRewriting 2 = .ok (.iload_n 2, 1) := by decide +kernel
theorem dX11_setRewriting_3 : decode cX11_setRewriting 3 = .ok (.invokevirtual 136, 3) := by decide +kernel
theorem dX11_setRewriting_6 : decode cX11_setRewriting 6 = .ok (.istore 5, 2) := by decide +kernel
theorem dX11_setRewriting_8 : decode cX11_setRewriting 8 = .ok (.iload 5, 2) := by decide +kernel
theorem dX11_setRewriting_10 : decode cX11_setRewriting 10 = .ok (.ifCond .eq 6, 3) := by decide +kernel
theorem dX11_setRewriting_13 : decode cX11_setRewriting 13 = .ok (.iload 5, 2) := by decide +kernel
theorem dX11_setRewriting_15 : decode cX11_setRewriting 15 = .ok (.ireturn, 1) := by decide +kernel
theorem dX11_setRewriting_16 : decode cX11_setRewriting 16 = .ok (.aload_n 0, 1) := by decide +kernel
theorem dX11_setRewriting_17 : decode cX11_setRewriting 17 = .ok (.getfield 14, 3) := by decide +kernel
theorem dX11_setRewriting_20 : decode cX11_setRewriting 20 = .ok (.iload_n 3, 1) := by decide +kernel
theorem dX11_setRewriting_21 : decode cX11_setRewriting 21 = .ok (.iload 4, 2) := by decide +kernel
theorem dX11_setRewriting_23 : decode cX11_setRewriting 23 = .ok (.invokevirtual 139, 3) := by decide +kernel
theorem dX11_setRewriting_26 : decode cX11_setRewriting 26 = .ok (.ifCond .ne 6, 3) := by decide +kernel
theorem dX11_setRewriting_29 : decode cX11_setRewriting 29 = .ok (.bipush (-3), 2) := by decide +kernel
theorem dX11_setRewriting_31 : decode cX11_setRewriting 31 = .ok (.ireturn, 1) := by decide +kernel
theorem dX11_setRewriting_32 : decode cX11_setRewriting 32 = .ok (.aload_n 0, 1) := by decide +kernel
theorem dX11_setRewriting_33 : decode cX11_setRewriting 33 = .ok (.getfield 14, 3) := by decide +kernel
theorem dX11_setRewriting_36 : decode cX11_setRewriting 36 = .ok (.getfield 142, 3) := by decide +kernel
theorem dX11_setRewriting_39 : decode cX11_setRewriting 39 = .ok (.iload_n 1, 1) := by decide +kernel
theorem dX11_setRewriting_40 : decode cX11_setRewriting 40 = .ok (.aaload, 1) := by decide +kernel
theorem dX11_setRewriting_41 : decode cX11_setRewriting 41 = .ok (.getfield 146, 3) := by decide +kernel
theorem dX11_setRewriting_44 : decode cX11_setRewriting 44 = .ok (.iload_n 2, 1) := by decide +kernel
theorem dX11_setRewriting_45 : decode cX11_setRewriting 45 = .ok (.aaload, 1) := by decide +kernel
theorem dX11_setRewriting_46 : decode cX11_setRewriting 46 = .ok (.astore 6, 2) := by decide +kernel
theorem dX11_setRewriting_48 : decode cX11_setRewriting 48 = .ok (.aload 6, 2) := by decide +kernel
theorem dX11_setRewriting_50 : decode cX11_setRewriting 50 = .ok (.getfield 152, 3) := by decide +kernel
theorem dX11_setRewriting_53 : decode cX11_setRewriting 53 = .ok (.ifCond .ne 6, 3) := by decide +kernel
theorem dX11_setRewriting_56 : decode cX11_setRewriting 56 = .ok (.bipush (-4), 2) := by decide +kernel
theorem dX11_setRewriting_58 : decode cX11_setRewriting 58 = .ok (.ireturn, 1) := by decide +kernel
theorem dX11_setRewriting_59 : decode cX11_setRewriting 59 = .ok (.aload 6, 2) := by decide +kernel
theorem dX11_setRewriting_61 : decode cX11_setRewriting 61 = .ok (.iload_n 3, 1) := by decide +kernel
theorem dX11_setRewriting_62 : decode cX11_setRewriting 62 = .ok (.iload 4, 2) := by decide +kernel
theorem dX11_setRewriting_64 : decode cX11_setRewriting 64 = .ok (.invokevirtual 155, 3) := by decide +kernel
theorem dX11_setRewriting_67 : decode cX11_setRewriting 67 = .ok (.astore 7, 2) := by decide +kernel
theorem dX11_setRewriting_69 : decode cX11_setRewriting 69 = .ok (.aload_n 0, 1) := by decide +kernel
theorem dX11_setRewriting_70 : decode cX11_setRewriting 70 = .ok (.iload_n 1, 1) := by decide +kernel
theorem dX11_setRewriting_71 : decode cX11_setRewriting 71 = .ok (.iload_n 2, 1) := by decide +kernel
theorem dX11_setRewriting_72 : decode cX11_setRewriting 72 = .ok (.aload 7, 2) := by decide +kernel
theorem dX11_setRewriting_74 : decode cX11_setRewriting 74 = .ok (.invokevirtual 159, 3) := by decide +kernel
theorem dX11_setRewriting_77 : decode cX11_setRewriting 77 = .ok (.aload 7, 2) := by decide +kernel
theorem dX11_setRewriting_79 : decode cX11_setRewriting 79 = .ok (.getfield 163, 3) := by decide +kernel
theorem dX11_setRewriting_82 : decode cX11_setRewriting 82 = .ok (.aload 6, 2) := by decide +kernel
theorem dX11_setRewriting_84 : decode cX11_setRewriting 84 = .ok (.getfield 163, 3) := by decide +kernel
theorem dX11_setRewriting_87 : decode cX11_setRewriting 87 = .ok (.if_icmp .ne 16, 3) := by decide +kernel
theorem dX11_setRewriting_90 : decode cX11_setRewriting 90 = .ok (.aload 7, 2) := by decide +kernel
theorem dX11_setRewriting_92 : decode cX11_setRewriting 92 = .ok (.getfield 166, 3) := by decide +kernel
theorem dX11_setRewriting_95 : decode cX11_setRewriting 95 = .ok (.aload 6, 2) := by decide +kernel
theorem dX11_setRewriting_97 : decode cX11_setRewriting 97 = .ok (.getfield 166, 3) := by decide +kernel
theorem dX11_setRewriting_100 : decode cX11_setRewriting 100 = .ok (.if_icmp .eq 7, 3) := by decide +kernel
theorem dX11_setRewriting_103 : decode cX11_setRewriting 103 = .ok (.iconst 1, 1) := by decide +kernel
theorem dX11_setRewriting_104 : decode cX11_setRewriting 104 = .ok (.goto 4, 3) := by decide +kernel
theorem dX11_setRewriting_107 : decode cX11_setRewriting 107 = .ok (.iconst 0, 1) := by decide +kernel
theorem dX11_setRewriting_108 : decode cX11_setRewriting 108 = .ok (.ireturn, 1) := by decide +kernel
theorem dX11_removeRule_0 : decode cX11_removeRule 0 = .ok (.aload_n 0, 1) := by decide +kernel
theorem dX11_removeRule_1 : decode cX11_removeRule 1 = .ok (.iload_n 1, 1) := by decide +kernel
theorem dX11_removeRule_2 : decode cX11_removeRule 2 = .ok (.iload_n 2, 1) := by decide +kernel
theorem dX11_removeRule_3 : decode cX11_removeRule 3 = .ok (.invokevirtual 136, 3) := by decide +kernel
theorem dX11_removeRule_6 : decode cX11_removeRule 6 = .ok (.istore_n 3, 1) := by decide +kernel
theorem dX11_removeRule_7 : decode cX11_removeRule 7 = .ok (.iload_n 3, 1) := by decide +kernel
theorem dX11_removeRule_8 : decode cX11_removeRule 8 = .ok (.ifCond .eq 5, 3) := by decide +kernel
theorem dX11_removeRule_11 : decode cX11_removeRule 11 = .ok (.iload_n 3, 1) := by decide +kernel
theorem dX11_removeRule_12 : decode cX11_removeRule 12 = .ok (.ireturn, 1) := by decide +kernel
theorem dX11_removeRule_13 : decode cX11_removeRule 13 = .ok (.aload_n 0, 1) := by decide +kernel
theorem dX11_removeRule_14 : decode cX11_removeRule 14 = .ok (.getfield 14, 3) := by decide +kernel
theorem dX11_removeRule_17 : decode cX11_removeRule 17 = .ok (.getfield 142, 3) := by decide +kernel
theorem dX11_removeRule_20 : decode cX11_removeRule 20 = .ok (.iload_n 1, 1) := by decide +kernel
theorem dX11_removeRule_21 : decode cX11_removeRule 21 = .ok (.aaload, 1) := by decide +kernel
theorem dX11_removeRule_22 : decode cX11_removeRule 22 = .ok (.astore 4, 2) := by decide +kernel
theorem dX11_removeRule_24 : decode cX11_removeRule 24 = .ok (.aload_n 0, 1) := by decide +kernel
theorem dX11_removeRule_25 : decode cX11_removeRule 25 = .ok (.getfield 21, 3) := by decide +kernel
theorem dX11_removeRule_28 : decode cX11_removeRule 28 = .ok (.iload_n 1, 1) := by decide +kernel
theorem dX11_removeRule_29 : decode cX11_removeRule 29 = .ok (.aload 4, 2) := by decide +kernel
theorem dX11_removeRule_31 : decode cX11_removeRule 31 = .ok (.invokevirtual 169, 3) := by decide +kernel
theorem dX11_removeRule_34 : decode cX11_removeRule 34 = .ok (.aload 4, 2) := by decide +kernel
theorem dX11_removeRule_36 : decode cX11_removeRule 36 = .ok (.iload_n 2, 1) := by decide +kernel
theorem dX11_removeRule_37 : decode cX11_removeRule 37 = .ok (.invokevirtual 173, 3) := by decide +kernel
theorem dX11_removeRule_40 : decode cX11_removeRule 40 = .ok (.aload 4, 2) := by decide +kernel
theorem dX11_removeRule_42 : decode cX11_removeRule 42 = .ok (.getfield 176, 3) := by decide +kernel
theorem dX11_removeRule_45 : decode cX11_removeRule 45 = .ok (.ireturn, 1) := by decide +kernel
theorem dX11_moveRule_0 : decode cX11_moveRule 0 = .ok (.aload_n 0, 1) := by decide +kernel
theorem dX11_moveRule_1 : decode cX11_moveRule 1 = .ok (.iload_n 1, 1) := by decide +kernel
theorem dX11_moveRule_2 : decode cX11_moveRule 2 = .ok (.iload_n 2, 1) := by decide +kernel
theorem dX11_moveRule_3 : decode cX11_moveRule 3 = .ok (.invokevirtual 136, 3) := by decide +kernel
theorem dX11_moveRule_6 : decode cX11_moveRule 6 = .ok (.istore 4, 2) := by decide +kernel
theorem dX11_moveRule_8 : decode cX11_moveRule 8 = .ok (.iload 4, 2) := by decide +kernel
theorem dX11_moveRule_10 : decode cX11_moveRule 10 = .ok (.ifCond .ne 11, 3) := by decide +kernel
theorem dX11_moveRule_13 : decode cX11_moveRule 13 = .ok (.aload_n 0, 1) := by decide +kernel
theorem dX11_moveRule_14 : decode cX11_moveRule 14 = .ok (.iload_n 1, 1) := by decide +kernel
theorem dX11_moveRule_15 : decode cX11_moveRule 15 = .ok (.iload_n 3, 1) := by decide +kernel
theorem dX11_moveRule_16 : decode cX11_moveRule 16 = .ok (.invokevirtual 136, 3) := by decide +kernel
theorem dX11_moveRule_19 : decode cX11_moveRule 19 = .ok (.istore 4, 2) := by decide +kernel
theorem dX11_moveRule_21 : decode cX11_moveRule 21 = .ok (.iload 4, 2) := by decide +kernel
theorem dX11_moveRule_23 : decode cX11_moveRule 23 = .ok (.ifCond .eq 6, 3) := by decide +kernel
theorem dX11_moveRule_26 : decode cX11_moveRule 26 = .ok (.iload 4, 2) := by decide +kernel
theorem dX11_moveRule_28 : decode cX11_moveRule 28 = .ok (.ireturn, 1) := by decide +kernel
theorem dX11_moveRule_29 : decode cX11_moveRule 29 = .ok (.aload_n 0, 1) := by decide +kernel
theorem dX11_moveRule_30 : decode cX11_moveRule 30 = .ok (.getfield 14, 3) := by decide +kernel
theorem dX11_moveRule_33 : decode cX11_moveRule 33 = .ok (.getfield 142, 3) := by decide +kernel
theorem dX11_moveRule_36 : decode cX11_moveRule 36 = .ok (.iload_n 1, 1) := by decide +kernel
theorem dX11_moveRule_37 : decode cX11_moveRule 37 = .ok (.aaload, 1) := by decide +kernel
theorem dX11_moveRule_38 : decode cX11_moveRule 38 = .ok (.astore 5, 2) := by decide +kernel
theorem dX11_moveRule_40 : decode cX11_moveRule 40 = .ok (.aload_n 0, 1) := by decide +kernel
theorem dX11_moveRule_41 : decode cX11_moveRule 41 = .ok (.getfield 21, 3) := by decide +kernel
theorem dX11_moveRule_44 : decode cX11_moveRule 44 = .ok (.iload_n 1, 1) := by decide +kernel
theorem dX11_moveRule_45 : decode cX11_moveRule 45 = .ok (.aload 5, 2) := by decide +kernel
theorem dX11_moveRule_47 : decode cX11_moveRule 47 = .ok (.invokevirtual 169, 3) := by decide +kernel
theorem dX11_moveRule_50 : decode cX11_moveRule 50 = .ok (.aload 5, 2) := by decide +kernel
theorem dX11_moveRule_52 : decode cX11_moveRule 52 = .ok (.getfield 146, 3) := by decide +kernel
theorem dX11_moveRule_55 : decode cX11_moveRule 55 = .ok (.iload_n 2, 1) := by decide +kernel
theorem dX11_moveRule_56 : decode cX11_moveRule 56 = .ok (.aaload, 1) := by decide +kernel
theorem dX11_moveRule_57 : decode cX11_moveRule 57 = .ok (.astore 6, 2) := by decide +kernel
theorem dX11_moveRule_59 : decode cX11_moveRule 59 = .ok (.aload 5, 2) := by decide +kernel
theorem dX11_moveRule_61 : decode cX11_moveRule 61 = .ok (.iload_n 2, 1) := by decide +kernel
theorem dX11_moveRule_62 : decode cX11_moveRule 62 = .ok (.invokevirtual 173, 3) := by decide +kernel
theorem dX11_moveRule_65 : decode cX11_moveRule 65 = .ok (.aload 5, 2) := by decide +kernel
theorem dX11_moveRule_67 : decode cX11_moveRule 67 = .ok (.iload_n 3, 1) := by decide +kernel
theorem dX11_moveRule_68 : decode cX11_moveRule 68 = .ok (.aload 6, 2) := by decide +kernel
theorem dX11_moveRule_70 : decode cX11_moveRule 70 = .ok (.invokevirtual 177, 3) := by decide +kernel
theorem dX11_moveRule_73 : decode cX11_moveRule 73 = .ok (.iload_n 2, 1) := by decide +kernel
theorem dX11_moveRule_74 : decode cX11_moveRule 74 = .ok (.iload_n 3, 1) := by decide +kernel
theorem dX11_moveRule_75 : decode cX11_moveRule 75 = .ok (.if_icmp .eq 7, 3) := by decide +kernel
theorem dX11_moveRule_78 : decode cX11_moveRule 78 = .ok (.iconst 1, 1) := by decide +kernel
theorem dX11_moveRule_79 : decode cX11_moveRule 79 = .ok (.goto 4, 3) := by decide +kernel
theorem dX11_moveRule_82 : decode cX11_moveRule 82 = .ok (.iconst 0, 1) := by decide +kernel
theorem dX11_moveRule_83 : decode cX11_moveRule 83 = .ok (.ireturn, 1) := by decide +kernel
theorem dX11_switchRule_0 : decode cX11_switchRule 0 = .ok (.aload_n 0, 1) := by decide +kernel
theorem dX11_switchRule_1 : decode cX11_switchRule 1 = .ok (.iload_n 1, 1) := by decide +kernel
theorem dX11_switchRule_2 : decode cX11_switchRule 2 = .ok (.iload_n 2, 1) := by decide +kernel
theorem dX11_switchRule_3 : decode cX11_switchRule 3 = .ok (.invokevirtual 136, 3) := by decide +kernel
theorem dX11_switchRule_6 : decode cX11_switchRule 6 = .ok (.istore 4, 2) := by decide +kernel
theorem dX11_switchRule_8 : decode cX11_switchRule 8 = .ok (.iload 4, 2) := by decide +kernel
theorem dX11_switchRule_10 : decode cX11_switchRule 10 = .ok (.ifCond .eq 6, 3) := by decide +kernel
theorem dX11_switchRule_13 : decode cX11_switchRule 13 = .ok (.iload 4, 2) := by decide +kernel
theorem dX11_switchRule_15 : decode cX11_switchRule 15 = .ok (.ireturn, 1) := by decide +kernel
theorem dX11_switchRule_16 : decode cX11_switchRule 16 = .ok (.aload_n 0, 1) := by decide +kernel
theorem dX11_switchRule_17 : decode cX11_switchRule 17 = .ok (.getfield 14, 3) := by decide +kernel
theorem dX11_switchRule_20 : decode cX11_switchRule 20 = .ok (.getfield 142, 3) := by decide +kernel
theorem dX11_switchRule_23 : decode cX11_switchRule 23 = .ok (.iload_n 1, 1) := by decide +kernel
theorem dX11_switchRule_24 : decode cX11_switchRule 24 = .ok (.aaload, 1) := by decide +kernel
theorem dX11_switchRule_25 : decode cX11_switchRule 25 = .ok (.getfield 146, 3) := by decide +kernel
theorem dX11_switchRule_28 : decode cX11_switchRule 28 = .ok (.iload_n 2, 1) := by decide +kernel
theorem dX11_switchRule_29 : decode cX11_switchRule 29 = .ok (.aaload, 1) := by decide +kernel
theorem dX11_switchRule_30 : decode cX11_switchRule 30 = .ok (.astore 5, 2) := by decide +kernel
theorem dX11_switchRule_32 : decode cX11_switchRule 32 = .ok (.aload_n 0, 1) := by decide +kernel
theorem dX11_switchRule_33 : decode cX11_switchRule 33 = .ok (.iload_n 1, 1) := by decide +kernel
theorem dX11_switchRule_34 : decode cX11_switchRule 34 = .ok (.iload_n 2, 1) := by decide +kernel
theorem dX11_switchRule_35 : decode cX11_switchRule 35 = .ok (.aload 5, 2) := by decide +kernel
theorem dX11_switchRule_37 : decode cX11_switchRule 37 = .ok (.iload_n 3, 1) := by decide +kernel
theorem dX11_switchRule_38 : decode cX11_switchRule 38 = .ok (.invokevirtual 181, 3) := by decide +kernel
theorem dX11_switchRule_41 : decode cX11_switchRule 41 = .ok (.invokevirtual 159, 3) := by decide +kernel
theorem dX11_switchRule_44 : decode cX11_switchRule 44 = .ok (.aload 5, 2) := by decide +kernel
theorem dX11_switchRule_46 : decode cX11_switchRule 46 = .ok (.getfield 185, 3) := by decide +kernel
theorem dX11_switchRule_49 : decode cX11_switchRule 49 = .ok (.iload_n 3, 1) := by decide +kernel
theorem dX11_switchRule_50 : decode cX11_switchRule 50 = .ok (.if_icmp .eq 7, 3) := by decide +kernel
theorem dX11_switchRule_53 : decode cX11_switchRule 53 = .ok (.iconst 1, 1) := by decide +kernel
theorem dX11_switchRule_54 : decode cX11_switchRule 54 = .ok (.goto 4, 3) := by decide +kernel
theorem dX11_switchRule_57 : decode cX11_switchRule 57 = .ok (.iconst 0, 1) := by decide +kernel
theorem dX11_switchRule_58 : decode cX11_switchRule 58 = .ok (.ireturn, 1) := by decide +kernel
theorem dX11_undo_0 : decode cX11_undo 0 = .ok (.aload_n 0, 1) := by decide +kernel
theorem dX11_undo_1 : decode cX11_undo 1 = .ok (.getfield 21, 3) := by decide +kernel
theorem dX11_undo_4 : decode cX11_undo 4 = .ok (.getfield 92, 3) := by decide +kernel
theorem dX11_undo_7 : decode cX11_undo 7 = .ok (.ifCond .ne 6, 3) := by decide +kernel
theorem dX11_undo_10 : decode cX11_undo 10 = .ok (.bipush (-6), 2) := by decide +kernel
theorem dX11_undo_12 : decode cX11_undo 12 = .ok (.ireturn, 1) := by decide +kernel
theorem dX11_undo_13 : decode cX11_undo 13 = .ok (.aload_n 0, 1) := by decide +kernel
theorem dX11_undo_14 : decode cX11_undo 14 = .ok (.getfield 21, 3) := by decide +kernel
theorem dX11_undo_17 : decode cX11_undo 17 = .ok (.aload_n 0, 1) := by decide +kernel
theorem dX11_undo_18 : decode cX11_undo 18 = .ok (.getfield 14, 3) := by decide +kernel
theorem dX11_undo_21 : decode cX11_undo 21 = .ok (.invokevirtual 189, 3) := by decide +kernel
theorem dX11_undo_24 : decode cX11_undo 24 = .ok (.aload_n 0, 1) := by decide +kernel
theorem dX11_undo_25 : decode cX11_undo 25 = .ok (.getfield 21, 3) := by decide +kernel
theorem dX11_undo_28 : decode cX11_undo 28 = .ok (.getfield 92, 3) := by decide +kernel
theorem dX11_undo_31 : decode cX11_undo 31 = .ok (.ireturn, 1) := by decide +kernel
theorem dX11_rule_0 : decode cX11_rule 0 = .ok (.aload_n 0, 1) := by decide +kernel
theorem dX11_rule_1 : decode cX11_rule 1 = .ok (.iload_n 1, 1) := by decide +kernel
theorem dX11_rule_2 : decode cX11_rule 2 = .ok (.iload_n 2, 1) := by decide +kernel
theorem dX11_rule_3 : decode cX11_rule 3 = .ok (.invokevirtual 136, 3) := by decide +kernel
theorem dX11_rule_6 : decode cX11_rule 6 = .ok (.istore 4, 2) := by decide +kernel
theorem dX11_rule_8 : decode cX11_rule 8 = .ok (.iload 4, 2) := by decide +kernel
theorem dX11_rule_10 : decode cX11_rule 10 = .ok (.ifCond .eq 6, 3) := by decide +kernel
theorem dX11_rule_13 : decode cX11_rule 13 = .ok (.iload 4, 2) := by decide +kernel
theorem dX11_rule_15 : decode cX11_rule 15 = .ok (.ireturn, 1) := by decide +kernel
theorem dX11_rule_16 : decode cX11_rule 16 = .ok (.aload_n 0, 1) := by decide +kernel
theorem dX11_rule_17 : decode cX11_rule 17 = .ok (.getfield 14, 3) := by decide +kernel
theorem dX11_rule_20 : decode cX11_rule 20 = .ok (.getfield 142, 3) := by decide +kernel
theorem dX11_rule_23 : decode cX11_rule 23 = .ok (.iload_n 1, 1) := by decide +kernel
theorem dX11_rule_24 : decode cX11_rule 24 = .ok (.aaload, 1) := by decide +kernel
theorem dX11_rule_25 : decode cX11_rule 25 = .ok (.getfield 146, 3) := by decide +kernel
theorem dX11_rule_28 : decode cX11_rule 28 = .ok (.iload_n 2, 1) := by decide +kernel
theorem dX11_rule_29 : decode cX11_rule 29 = .ok (.aaload, 1) := by decide +kernel
theorem dX11_rule_30 : decode cX11_rule 30 = .ok (.astore 5, 2) := by decide +kernel
theorem dX11_rule_32 : decode cX11_rule 32 = .ok (.iload_n 3, 1) := by decide +kernel
theorem dX11_rule_33 : decode cX11_rule 33 = .ok (.tableswitch 93 0 6 #[43, 49, 55, 61, 67, 73, 79], 43) := by decide +kernel
theorem dX11_rule_76 : decode cX11_rule 76 = .ok (.aload 5, 2) := by decide +kernel
theorem dX11_rule_78 : decode cX11_rule 78 = .ok (.getfield 192, 3) := by decide +kernel
theorem dX11_rule_81 : decode cX11_rule 81 = .ok (.ireturn, 1) := by decide +kernel
theorem dX11_rule_82 : decode cX11_rule 82 = .ok (.aload 5, 2) := by decide +kernel
theorem dX11_rule_84 : decode cX11_rule 84 = .ok (.getfield 195, 3) := by decide +kernel
theorem dX11_rule_87 : decode cX11_rule 87 = .ok (.ireturn, 1) := by decide +kernel
theorem dX11_rule_88 : decode cX11_rule 88 = .ok (.aload 5, 2) := by decide +kernel
theorem dX11_rule_90 : decode cX11_rule 90 = .ok (.getfield 198, 3) := by decide +kernel
theorem dX11_rule_93 : decode cX11_rule 93 = .ok (.ireturn, 1) := by decide +kernel
theorem dX11_rule_94 : decode cX11_rule 94 = .ok (.aload 5, 2) := by decide +kernel
theorem dX11_rule_96 : decode cX11_rule 96 = .ok (.getfield 152, 3) := by decide +kernel
theorem dX11_rule_99 : decode cX11_rule 99 = .ok (.ireturn, 1) := by decide +kernel
theorem dX11_rule_100 : decode cX11_rule 100 = .ok (.aload 5, 2) := by decide +kernel
theorem dX11_rule_102 : decode cX11_rule 102 = .ok (.getfield 163, 3) := by decide +kernel
theorem dX11_rule_105 : decode cX11_rule 105 = .ok (.ireturn, 1) := by decide +kernel
theorem dX11_rule_106 : decode cX11_rule 106 = .ok (.aload 5, 2) := by decide +kernel
theorem dX11_rule_108 : decode cX11_rule 108 = .ok (.getfield 166, 3) := by decide +kernel
theorem dX11_rule_111 : decode cX11_rule 111 = .ok (.ireturn, 1) := by decide +kernel
theorem dX11_rule_112 : decode cX11_rule 112 = .ok (.aload 5, 2) := by decide +kernel
theorem dX11_rule_114 : decode cX11_rule 114 = .ok (.getfield 185, 3) := by decide +kernel
theorem dX11_rule_117 : decode cX11_rule 117 = .ok (.ifCond .eq 7, 3) := by decide +kernel
theorem dX11_rule_120 : decode cX11_rule 120 = .ok (.iconst 1, 1) := by decide +kernel
theorem dX11_rule_121 : decode cX11_rule 121 = .ok (.goto 4, 3) := by decide +kernel
theorem dX11_rule_124 : decode cX11_rule 124 = .ok (.iconst 0, 1) := by decide +kernel
theorem dX11_rule_125 : decode cX11_rule 125 = .ok (.ireturn, 1) := by decide +kernel
theorem dX11_rule_126 : decode cX11_rule 126 = .ok (.bipush (-3), 2) := by decide +kernel
theorem dX11_rule_128 : decode cX11_rule 128 = .ok (.ireturn, 1) := by decide +kernel
theorem dX11_count_0 : decode cX11_count 0 = .ok (.iload_n 1, 1) := by decide +kernel
theorem dX11_count_1 : decode cX11_count 1 = .ok (.tableswitch 72 0 4 #[35, 43, 51, 59, 64], 35) := by decide +kernel
theorem dX11_count_36 : decode cX11_count 36 = .ok (.aload_n 0, 1) := by decide +kernel
theorem dX11_count_37 : decode cX11_count 37 = .ok (.getfield 14, 3) := by decide +kernel
theorem dX11_count_40 : decode cX11_count 40 = .ok (.getfield 84, 3) := by decide +kernel
theorem dX11_count_43 : decode cX11_count 43 = .ok (.ireturn, 1) := by decide +kernel
theorem dX11_count_44 : decode cX11_count 44 = .ok (.aload_n 0, 1) := by decide +kernel
theorem dX11_count_45 : decode cX11_count 45 = .ok (.getfield 14, 3) := by decide +kernel
theorem dX11_count_48 : decode cX11_count 48 = .ok (.getfield 113, 3) := by decide +kernel
theorem dX11_count_51 : decode cX11_count 51 = .ok (.ireturn, 1) := by decide +kernel
theorem dX11_count_52 : decode cX11_count 52 = .ok (.aload_n 0, 1) := by decide +kernel
theorem dX11_count_53 : decode cX11_count 53 = .ok (.getfield 14, 3) := by decide +kernel
theorem dX11_count_56 : decode cX11_count 56 = .ok (.invokevirtual 201, 3) := by decide +kernel
theorem dX11_count_59 : decode cX11_count 59 = .ok (.ireturn, 1) := by decide +kernel
theorem dX11_count_60 : decode cX11_count 60 = .ok (.aload_n 0, 1) := by decide +kernel
theorem dX11_count_61 : decode cX11_count 61 = .ok (.getfield 95, 3) := by decide +kernel
theorem dX11_count_64 : decode cX11_count 64 = .ok (.ireturn, 1) := by decide +kernel
theorem dX11_count_65 : decode cX11_count 65 = .ok (.aload_n 0, 1) := by decide +kernel
theorem dX11_count_66 : decode cX11_count 66 = .ok (.getfield 21, 3) := by decide +kernel
theorem dX11_count_69 : decode cX11_count 69 = .ok (.getfield 92, 3) := by decide +kernel
theorem dX11_count_72 : decode cX11_count 72 = .ok (.ireturn, 1) := by decide +kernel
theorem dX11_count_73 : decode cX11_count 73 = .ok (.bipush (-3), 2) := by decide +kernel
theorem dX11_count_75 : decode cX11_count 75 = .ok (.ireturn, 1) := by decide +kernel
theorem dX11_shadowed_0 : decode cX11_shadowed 0 = .ok (.iload_n 1, 1) := by decide +kernel
theorem dX11_shadowed_1 : decode cX11_shadowed 1 = .ok (.invokestatic 116, 3) := by decide +kernel
theorem dX11_shadowed_4 : decode cX11_shadowed 4 = .ok (.ifCond .eq 18, 3) := by decide +kernel
theorem dX11_shadowed_7 : decode cX11_shadowed 7 = .ok (.aload_n 0, 1) := by decide +kernel
theorem dX11_shadowed_8 : decode cX11_shadowed 8 = .ok (.getfield 14, 3) := by decide +kernel
theorem dX11_shadowed_11 : decode cX11_shadowed 11 = .ok (.getfield 142, 3) := by decide +kernel
theorem dX11_shadowed_14 : decode cX11_shadowed 14 = .ok (.iload_n 1, 1) := by decide +kernel
theorem dX11_shadowed_15 : decode cX11_shadowed 15 = .ok (.aaload, 1) := by decide +kernel
theorem dX11_shadowed_16 : decode cX11_shadowed 16 = .ok (.invokevirtual 205, 3) := by decide +kernel
theorem dX11_shadowed_19 : decode cX11_shadowed 19 = .ok (.goto 4, 3) := by decide +kernel
theorem dX11_shadowed_22 : decode cX11_shadowed 22 = .ok (.iconst (-1), 1) := by decide +kernel
theorem dX11_shadowed_23 : decode cX11_shadowed 23 = .ok (.ireturn, 1) := by decide +kernel
theorem dX11_inject_0 : decode cX11_inject 0 = .ok (.iload_n 1, 1) := by decide +kernel
theorem dX11_inject_1 : decode cX11_inject 1 = .ok (.iload_n 2, 1) := by decide +kernel
theorem dX11_inject_2 : decode cX11_inject 2 = .ok (.invokestatic 101, 3) := by decide +kernel
theorem dX11_inject_5 : decode cX11_inject 5 = .ok (.ifCond .ne 5, 3) := by decide +kernel
theorem dX11_inject_8 : decode cX11_inject 8 = .ok (.iconst (-1), 1) := by decide +kernel
theorem dX11_inject_9 : decode cX11_inject 9 = .ok (.ireturn, 1) := by decide +kernel
theorem dX11_inject_10 : decode cX11_inject 10 = .ok (.aload_n 0, 1) := by decide +kernel
theorem dX11_inject_11 : decode cX11_inject 11 = .ok (.getfield 14, 3) := by decide +kernel
theorem dX11_inject_14 : decode cX11_inject 14 = .ok (.iload_n 3, 1) := by decide +kernel
theorem dX11_inject_15 : decode cX11_inject 15 = .ok (.iload 4, 2) := by decide +kernel
theorem dX11_inject_17 : decode cX11_inject 17 = .ok (.invokevirtual 139, 3) := by decide +kernel
theorem dX11_inject_20 : decode cX11_inject 20 = .ok (.ifCond .ne 6, 3) := by decide +kernel
theorem dX11_inject_23 : decode cX11_inject 23 = .ok (.bipush (-3), 2) := by decide +kernel
theorem dX11_inject_25 : decode cX11_inject 25 = .ok (.ireturn, 1) := by decide +kernel
theorem dX11_inject_26 : decode cX11_inject 26 = .ok (.aload_n 0, 1) := by decide +kernel
theorem dX11_inject_27 : decode cX11_inject 27 = .ok (.iload_n 1, 1) := by decide +kernel
theorem dX11_inject_28 : decode cX11_inject 28 = .ok (.iload_n 2, 1) := by decide +kernel
theorem dX11_inject_29 : decode cX11_inject 29 = .ok (.invokestatic 105, 3) := by decide +kernel
theorem dX11_inject_32 : decode cX11_inject 32 = .ok (.putfield 98, 3) := by decide +kernel
theorem dX11_inject_35 : decode cX11_inject 35 = .ok (.aload_n 0, 1) := by decide +kernel
theorem dX11_inject_36 : decode cX11_inject 36 = .ok (.aload_n 0, 1) := by decide +kernel
theorem dX11_inject_37 : decode cX11_inject 37 = .ok (.getfield 14, 3) := by decide +kernel
theorem dX11_inject_40 : decode cX11_inject 40 = .ok (.invokevirtual 76, 3) := by decide +kernel
theorem dX11_inject_43 : decode cX11_inject 43 = .ok (.iload_n 3, 1) := by decide +kernel
theorem dX11_inject_44 : decode cX11_inject 44 = .ok (.iload 4, 2) := by decide +kernel
theorem dX11_inject_46 : decode cX11_inject 46 = .ok (.invokestatic 208, 3) := by decide +kernel
theorem dX11_inject_49 : decode cX11_inject 49 = .ok (.land, 1) := by decide +kernel
theorem dX11_inject_50 : decode cX11_inject 50 = .ok (.putfield 80, 3) := by decide +kernel
theorem dX11_inject_53 : decode cX11_inject 53 = .ok (.aload_n 0, 1) := by decide +kernel
theorem dX11_inject_54 : decode cX11_inject 54 = .ok (.getfield 80, 3) := by decide +kernel
theorem dX11_inject_57 : decode cX11_inject 57 = .ok (.invokestatic 212, 3) := by decide +kernel
theorem dX11_inject_60 : decode cX11_inject 60 = .ok (.ireturn, 1) := by decide +kernel
theorem dX11_arriving_0 : decode cX11_arriving 0 = .ok (.iload_n 1, 1) := by decide +kernel
theorem dX11_arriving_1 : decode cX11_arriving 1 = .ok (.iload_n 2, 1) := by decide +kernel
theorem dX11_arriving_2 : decode cX11_arriving 2 = .ok (.invokestatic 101, 3) := by decide +kernel
theorem dX11_arriving_5 : decode cX11_arriving 5 = .ok (.ifCond .ne 7, 3) := by decide +kernel
theorem dX11_arriving_8 : decode cX11_arriving 8 = .ok (.ldc2_w 216, 3) := by decide +kernel
theorem dX11_arriving_11 : decode cX11_arriving 11 = .ok (.lreturn, 1) := by decide +kernel
theorem dX11_arriving_12 : decode cX11_arriving 12 = .ok (.aload_n 0, 1) := by decide +kernel
theorem dX11_arriving_13 : decode cX11_arriving 13 = .ok (.getfield 30, 3) := by decide +kernel
theorem dX11_arriving_16 : decode cX11_arriving 16 = .ok (.aload_n 0, 1) := by decide +kernel
theorem dX11_arriving_17 : decode cX11_arriving 17 = .ok (.getfield 98, 3) := by decide +kernel
theorem dX11_arriving_20 : decode cX11_arriving 20 = .ok (.aload_n 0, 1) := by decide +kernel
theorem dX11_arriving_21 : decode cX11_arriving 21 = .ok (.getfield 80, 3) := by decide +kernel
theorem dX11_arriving_24 : decode cX11_arriving 24 = .ok (.invokevirtual 218, 3) := by decide +kernel
theorem dX11_arriving_27 : decode cX11_arriving 27 = .ok (.aload_n 0, 1) := by decide +kernel
theorem dX11_arriving_28 : decode cX11_arriving 28 = .ok (.getfield 30, 3) := by decide +kernel
theorem dX11_arriving_31 : decode cX11_arriving 31 = .ok (.getfield 222, 3) := by decide +kernel
theorem dX11_arriving_34 : decode cX11_arriving 34 = .ok (.iload_n 1, 1) := by decide +kernel
theorem dX11_arriving_35 : decode cX11_arriving 35 = .ok (.iload_n 2, 1) := by decide +kernel
theorem dX11_arriving_36 : decode cX11_arriving 36 = .ok (.invokestatic 105, 3) := by decide +kernel
theorem dX11_arriving_39 : decode cX11_arriving 39 = .ok (.laload, 1) := by decide +kernel
theorem dX11_arriving_40 : decode cX11_arriving 40 = .ok (.lreturn, 1) := by decide +kernel
theorem dX11_delivered_0 : decode cX11_delivered 0 = .ok (.iload_n 1, 1) := by decide +kernel
theorem dX11_delivered_1 : decode cX11_delivered 1 = .ok (.iload_n 2, 1) := by decide +kernel
theorem dX11_delivered_2 : decode cX11_delivered 2 = .ok (.invokestatic 101, 3) := by decide +kernel
theorem dX11_delivered_5 : decode cX11_delivered 5 = .ok (.ifCond .ne 7, 3) := by decide +kernel
theorem dX11_delivered_8 : decode cX11_delivered 8 = .ok (.ldc2_w 216, 3) := by decide +kernel
theorem dX11_delivered_11 : decode cX11_delivered 11 = .ok (.lreturn, 1) := by decide +kernel
theorem dX11_delivered_12 : decode cX11_delivered 12 = .ok (.aload_n 0, 1) := by decide +kernel
theorem dX11_delivered_13 : decode cX11_delivered 13 = .ok (.getfield 30, 3) := by decide +kernel
theorem dX11_delivered_16 : decode cX11_delivered 16 = .ok (.aload_n 0, 1) := by decide +kernel
theorem dX11_delivered_17 : decode cX11_delivered 17 = .ok (.getfield 98, 3) := by decide +kernel
theorem dX11_delivered_20 : decode cX11_delivered 20 = .ok (.aload_n 0, 1) := by decide +kernel
theorem dX11_delivered_21 : decode cX11_delivered 21 = .ok (.getfield 80, 3) := by decide +kernel
theorem dX11_delivered_24 : decode cX11_delivered 24 = .ok (.invokevirtual 218, 3) := by decide +kernel
theorem dX11_delivered_27 : decode cX11_delivered 27 = .ok (.aload_n 0, 1) := by decide +kernel
theorem dX11_delivered_28 : decode cX11_delivered 28 = .ok (.getfield 30, 3) := by decide +kernel
theorem dX11_delivered_31 : decode cX11_delivered 31 = .ok (.iload_n 1, 1) := by decide +kernel
theorem dX11_delivered_32 : decode cX11_delivered 32 = .ok (.iload_n 2, 1) := by decide +kernel
theorem dX11_delivered_33 : decode cX11_delivered 33 = .ok (.invokevirtual 226, 3) := by decide +kernel
theorem dX11_delivered_36 : decode cX11_delivered 36 = .ok (.lreturn, 1) := by decide +kernel
theorem dX11_arrivals_0 : decode cX11_arrivals 0 = .ok (.iload_n 1, 1) := by decide +kernel
theorem dX11_arrivals_1 : decode cX11_arrivals 1 = .ok (.invokestatic 116, 3) := by decide +kernel
theorem dX11_arrivals_4 : decode cX11_arrivals 4 = .ok (.ifCond .ne 5, 3) := by decide +kernel
theorem dX11_arrivals_7 : decode cX11_arrivals 7 = .ok (.iconst (-1), 1) := by decide +kernel
theorem dX11_arrivals_8 : decode cX11_arrivals 8 = .ok (.ireturn, 1) := by decide +kernel
theorem dX11_arrivals_9 : decode cX11_arrivals 9 = .ok (.iload_n 2, 1) := by decide +kernel
theorem dX11_arrivals_10 : decode cX11_arrivals 10 = .ok (.ifCond .lt 8, 3) := by decide +kernel
theorem dX11_arrivals_13 : decode cX11_arrivals 13 = .ok (.iload_n 2, 1) := by decide +kernel
theorem dX11_arrivals_14 : decode cX11_arrivals 14 = .ok (.iconst 2, 1) := by decide +kernel
theorem dX11_arrivals_15 : decode cX11_arrivals 15 = .ok (.if_icmp .le 6, 3) := by decide +kernel
theorem dX11_arrivals_18 : decode cX11_arrivals 18 = .ok (.bipush (-3), 2) := by decide +kernel
theorem dX11_arrivals_20 : decode cX11_arrivals 20 = .ok (.ireturn, 1) := by decide +kernel
theorem dX11_arrivals_21 : decode cX11_arrivals 21 = .ok (.aload_n 0, 1) := by decide +kernel
theorem dX11_arrivals_22 : decode cX11_arrivals 22 = .ok (.getfield 30, 3) := by decide +kernel
theorem dX11_arrivals_25 : decode cX11_arrivals 25 = .ok (.aload_n 0, 1) := by decide +kernel
theorem dX11_arrivals_26 : decode cX11_arrivals 26 = .ok (.getfield 98, 3) := by decide +kernel
theorem dX11_arrivals_29 : decode cX11_arrivals 29 = .ok (.aload_n 0, 1) := by decide +kernel
theorem dX11_arrivals_30 : decode cX11_arrivals 30 = .ok (.getfield 80, 3) := by decide +kernel
theorem dX11_arrivals_33 : decode cX11_arrivals 33 = .ok (.invokevirtual 218, 3) := by decide +kernel
theorem dX11_arrivals_36 : decode cX11_arrivals 36 = .ok (.iload_n 2, 1) := by decide +kernel
theorem dX11_arrivals_37 : decode cX11_arrivals 37 = .ok (.lookupswitch 45 #[(0, 27), (1, 36)], 27) := by decide +kernel
theorem dX11_arrivals_64 : decode cX11_arrivals 64 = .ok (.aload_n 0, 1) := by decide +kernel
theorem dX11_arrivals_65 : decode cX11_arrivals 65 = .ok (.getfield 30, 3) := by decide +kernel
theorem dX11_arrivals_68 : decode cX11_arrivals 68 = .ok (.iload_n 1, 1) := by decide +kernel
theorem dX11_arrivals_69 : decode cX11_arrivals 69 = .ok (.invokevirtual 229, 3) := by decide +kernel
theorem dX11_arrivals_72 : decode cX11_arrivals 72 = .ok (.ireturn, 1) := by decide +kernel
theorem dX11_arrivals_73 : decode cX11_arrivals 73 = .ok (.aload_n 0, 1) := by decide +kernel
theorem dX11_arrivals_74 : decode cX11_arrivals 74 = .ok (.getfield 30, 3) := by decide +kernel
theorem dX11_arrivals_77 : decode cX11_arrivals 77 = .ok (.iload_n 1, 1) := by decide +kernel
theorem dX11_arrivals_78 : decode cX11_arrivals 78 = .ok (.invokevirtual 233, 3) := by decide +kernel
theorem dX11_arrivals_81 : decode cX11_arrivals 81 = .ok (.ireturn, 1) := by decide +kernel
theorem dX11_arrivals_82 : decode cX11_arrivals 82 = .ok (.aload_n 0, 1) := by decide +kernel
theorem dX11_arrivals_83 : decode cX11_arrivals 83 = .ok (.getfield 30, 3) := by decide +kernel
theorem dX11_arrivals_86 : decode cX11_arrivals 86 = .ok (.iload_n 1, 1) := by decide +kernel
theorem dX11_arrivals_87 : decode cX11_arrivals 87 = .ok (.invokevirtual 236, 3) := by decide +kernel
theorem dX11_arrivals_90 : decode cX11_arrivals 90 = .ok (.ireturn, 1) := by decide +kernel
theorem dX11_hits_0 : decode cX11_hits 0 = .ok (.aload_n 0, 1) := by decide +kernel
theorem dX11_hits_1 : decode cX11_hits 1 = .ok (.iload_n 1, 1) := by decide +kernel
theorem dX11_hits_2 : decode cX11_hits 2 = .ok (.iload_n 2, 1) := by decide +kernel
theorem dX11_hits_3 : decode cX11_hits 3 = .ok (.invokevirtual 136, 3) := by decide +kernel
theorem dX11_hits_6 : decode cX11_hits 6 = .ok (.istore_n 3, 1) := by decide +kernel
theorem dX11_hits_7 : decode cX11_hits 7 = .ok (.iload_n 3, 1) := by decide +kernel
theorem dX11_hits_8 : decode cX11_hits 8 = .ok (.ifCond .eq 5, 3) := by decide +kernel
theorem dX11_hits_11 : decode cX11_hits 11 = .ok (.iload_n 3, 1) := by decide +kernel
theorem dX11_hits_12 : decode cX11_hits 12 = .ok (.ireturn, 1) := by decide +kernel
theorem dX11_hits_13 : decode cX11_hits 13 = .ok (.aload_n 0, 1) := by decide +kernel
theorem dX11_hits_14 : decode cX11_hits 14 = .ok (.getfield 30, 3) := by decide +kernel
theorem dX11_hits_17 : decode cX11_hits 17 = .ok (.aload_n 0, 1) := by decide +kernel
theorem dX11_hits_18 : decode cX11_hits 18 = .ok (.getfield 98, 3) := by decide +kernel
theorem dX11_hits_21 : decode cX11_hits 21 = .ok (.aload_n 0, 1) := by decide +kernel
theorem dX11_hits_22 : decode cX11_hits 22 = .ok (.getfield 80, 3) := by decide +kernel
theorem dX11_hits_25 : decode cX11_hits 25 = .ok (.invokevirtual 218, 3) := by decide +kernel
theorem dX11_hits_28 : decode cX11_hits 28 = .ok (.aload_n 0, 1) := by decide +kernel
theorem dX11_hits_29 : decode cX11_hits 29 = .ok (.getfield 30, 3) := by decide +kernel
theorem dX11_hits_32 : decode cX11_hits 32 = .ok (.iload_n 1, 1) := by decide +kernel
theorem dX11_hits_33 : decode cX11_hits 33 = .ok (.iload_n 2, 1) := by decide +kernel
theorem dX11_hits_34 : decode cX11_hits 34 = .ok (.invokevirtual 239, 3) := by decide +kernel
theorem dX11_hits_37 : decode cX11_hits 37 = .ok (.ireturn, 1) := by decide +kernel
theorem dX11_cube_0 : decode cX11_cube 0 = .ok (.iload_n 1, 1) := by decide +kernel
theorem dX11_cube_1 : decode cX11_cube 1 = .ok (.iload_n 2, 1) := by decide +kernel
theorem dX11_cube_2 : decode cX11_cube 2 = .ok (.invokestatic 101, 3) := by decide +kernel
theorem dX11_cube_5 : decode cX11_cube 5 = .ok (.ifCond .ne 5, 3) := by decide +kernel
theorem dX11_cube_8 : decode cX11_cube 8 = .ok (.iconst (-1), 1) := by decide +kernel
theorem dX11_cube_9 : decode cX11_cube 9 = .ok (.ireturn, 1) := by decide +kernel
theorem dX11_cube_10 : decode cX11_cube 10 = .ok (.iload_n 3, 1) := by decide +kernel
theorem dX11_cube_11 : decode cX11_cube 11 = .ok (.ifCond .lt 14, 3) := by decide +kernel
theorem dX11_cube_14 : decode cX11_cube 14 = .ok (.iload 4, 2) := by decide +kernel
theorem dX11_cube_16 : decode cX11_cube 16 = .ok (.ifCond .lt 9, 3) := by decide +kernel
theorem dX11_cube_19 : decode cX11_cube 19 = .ok (.iload 4, 2) := by decide +kernel
theorem dX11_cube_21 : decode cX11_cube 21 = .ok (.iconst 1, 1) := by decide +kernel
theorem dX11_cube_22 : decode cX11_cube 22 = .ok (.if_icmp .le 6, 3) := by decide +kernel
theorem dX11_cube_25 : decode cX11_cube 25 = .ok (.bipush (-3), 2) := by decide +kernel
theorem dX11_cube_27 : decode cX11_cube 27 = .ok (.ireturn, 1) := by decide +kernel
theorem dX11_cube_28 : decode cX11_cube 28 = .ok (.aload_n 0, 1) := by decide +kernel
theorem dX11_cube_29 : decode cX11_cube 29 = .ok (.getfield 30, 3) := by decide +kernel
theorem dX11_cube_32 : decode cX11_cube 32 = .ok (.aload_n 0, 1) := by decide +kernel
theorem dX11_cube_33 : decode cX11_cube 33 = .ok (.getfield 98, 3) := by decide +kernel
theorem dX11_cube_36 : decode cX11_cube 36 = .ok (.aload_n 0, 1) := by decide +kernel
theorem dX11_cube_37 : decode cX11_cube 37 = .ok (.getfield 80, 3) := by decide +kernel
theorem dX11_cube_40 : decode cX11_cube 40 = .ok (.invokevirtual 218, 3) := by decide +kernel
theorem dX11_cube_43 : decode cX11_cube 43 = .ok (.aload_n 0, 1) := by decide +kernel
theorem dX11_cube_44 : decode cX11_cube 44 = .ok (.getfield 30, 3) := by decide +kernel
theorem dX11_cube_47 : decode cX11_cube 47 = .ok (.getfield 222, 3) := by decide +kernel
theorem dX11_cube_50 : decode cX11_cube 50 = .ok (.iload_n 1, 1) := by decide +kernel
theorem dX11_cube_51 : decode cX11_cube 51 = .ok (.iload_n 2, 1) := by decide +kernel
theorem dX11_cube_52 : decode cX11_cube 52 = .ok (.invokestatic 105, 3) := by decide +kernel
theorem dX11_cube_55 : decode cX11_cube 55 = .ok (.laload, 1) := by decide +kernel
theorem dX11_cube_56 : decode cX11_cube 56 = .ok (.lstore 5, 2) := by decide +kernel
theorem dX11_cube_58 : decode cX11_cube 58 = .ok (.lload 5, 2) := by decide +kernel
theorem dX11_cube_60 : decode cX11_cube 60 = .ok (.lstore 7, 2) := by decide +kernel
theorem dX11_cube_62 : decode cX11_cube 62 = .ok (.iconst 0, 1) := by decide +kernel
theorem dX11_cube_63 : decode cX11_cube 63 = .ok (.istore 9, 2) := by decide +kernel
theorem dX11_cube_65 : decode cX11_cube 65 = .ok (.iconst 0, 1) := by decide +kernel
theorem dX11_cube_66 : decode cX11_cube 66 = .ok (.istore 10, 2) := by decide +kernel
theorem dX11_cube_68 : decode cX11_cube 68 = .ok (.iload 10, 2) := by decide +kernel
theorem dX11_cube_70 : decode cX11_cube 70 = .ok (.bipush 32, 2) := by decide +kernel
theorem dX11_cube_72 : decode cX11_cube 72 = .ok (.if_icmp .ge 70, 3) := by decide +kernel
theorem dX11_cube_75 : decode cX11_cube 75 = .ok (.lload 7, 2) := by decide +kernel
theorem dX11_cube_77 : decode cX11_cube 77 = .ok (.iload 10, 2) := by decide +kernel
theorem dX11_cube_79 : decode cX11_cube 79 = .ok (.invokestatic 242, 3) := by decide +kernel
theorem dX11_cube_82 : decode cX11_cube 82 = .ok (.ifCond .eq 54, 3) := by decide +kernel
theorem dX11_cube_85 : decode cX11_cube 85 = .ok (.aload_n 0, 1) := by decide +kernel
theorem dX11_cube_86 : decode cX11_cube 86 = .ok (.iload 10, 2) := by decide +kernel
theorem dX11_cube_88 : decode cX11_cube 88 = .ok (.lload 5, 2) := by decide +kernel
theorem dX11_cube_90 : decode cX11_cube 90 = .ok (.invokevirtual 246, 3) := by decide +kernel
theorem dX11_cube_93 : decode cX11_cube 93 = .ok (.istore 11, 2) := by decide +kernel
theorem dX11_cube_95 : decode cX11_cube 95 = .ok (.iload 9, 2) := by decide +kernel
theorem dX11_cube_97 : decode cX11_cube 97 = .ok (.iload_n 3, 1) := by decide +kernel
theorem dX11_cube_98 : decode cX11_cube 98 = .ok (.if_icmp .ne 19, 3) := by decide +kernel
theorem dX11_cube_101 : decode cX11_cube 101 = .ok (.iload 4, 2) := by decide +kernel
theorem dX11_cube_103 : decode cX11_cube 103 = .ok (.ifCond .ne 8, 3) := by decide +kernel
theorem dX11_cube_106 : decode cX11_cube 106 = .ok (.iload 11, 2) := by decide +kernel
theorem dX11_cube_108 : decode cX11_cube 108 = .ok (.goto 8, 3) := by decide +kernel
theorem dX11_cube_111 : decode cX11_cube 111 = .ok (.iload 10, 2) := by decide +kernel
theorem dX11_cube_113 : decode cX11_cube 113 = .ok (.iload 11, 2) := by decide +kernel
theorem dX11_cube_115 : decode cX11_cube 115 = .ok (.iand, 1) := by decide +kernel
theorem dX11_cube_116 : decode cX11_cube 116 = .ok (.ireturn, 1) := by decide +kernel
theorem dX11_cube_117 : decode cX11_cube 117 = .ok (.iinc 9 1, 3) := by decide +kernel
theorem dX11_cube_120 : decode cX11_cube 120 = .ok (.lload 7, 2) := by decide +kernel
theorem dX11_cube_122 : decode cX11_cube 122 = .ok (.iload 11, 2) := by decide +kernel
theorem dX11_cube_124 : decode cX11_cube 124 = .ok (.iload 10, 2) := by decide +kernel
theorem dX11_cube_126 : decode cX11_cube 126 = .ok (.invokestatic 208, 3) := by decide +kernel
theorem dX11_cube_129 : decode cX11_cube 129 = .ok (.ldc2_w 250, 3) := by decide +kernel
theorem dX11_cube_132 : decode cX11_cube 132 = .ok (.lxor, 1) := by decide +kernel
theorem dX11_cube_133 : decode cX11_cube 133 = .ok (.land, 1) := by decide +kernel
theorem dX11_cube_134 : decode cX11_cube 134 = .ok (.lstore 7, 2) := by decide +kernel
theorem dX11_cube_136 : decode cX11_cube 136 = .ok (.iinc 10 1, 3) := by decide +kernel
theorem dX11_cube_139 : decode cX11_cube 139 = .ok (.goto (-71), 3) := by decide +kernel
theorem dX11_cube_142 : decode cX11_cube 142 = .ok (.bipush (-6), 2) := by decide +kernel
theorem dX11_cube_144 : decode cX11_cube 144 = .ok (.ireturn, 1) := by decide +kernel
theorem dX11_origin_0 : decode cX11_origin 0 = .ok (.iload_n 1, 1) := by decide +kernel
theorem dX11_origin_1 : decode cX11_origin 1 = .ok (.iload_n 2, 1) := by decide +kernel
theorem dX11_origin_2 : decode cX11_origin 2 = .ok (.invokestatic 101, 3) := by decide +kernel
theorem dX11_origin_5 : decode cX11_origin 5 = .ok (.ifCond .ne 5, 3) := by decide +kernel
theorem dX11_origin_8 : decode cX11_origin 8 = .ok (.iconst (-1), 1) := by decide +kernel
theorem dX11_origin_9 : decode cX11_origin 9 = .ok (.ireturn, 1) := by decide +kernel
theorem dX11_origin_10 : decode cX11_origin 10 = .ok (.aload_n 0, 1) := by decide +kernel
theorem dX11_origin_11 : decode cX11_origin 11 = .ok (.getfield 14, 3) := by decide +kernel
theorem dX11_origin_14 : decode cX11_origin 14 = .ok (.iload_n 3, 1) := by decide +kernel
theorem dX11_origin_15 : decode cX11_origin 15 = .ok (.invokevirtual 252, 3) := by decide +kernel
theorem dX11_origin_18 : decode cX11_origin 18 = .ok (.ifCond .ne 6, 3) := by decide +kernel
theorem dX11_origin_21 : decode cX11_origin 21 = .ok (.bipush (-3), 2) := by decide +kernel
theorem dX11_origin_23 : decode cX11_origin 23 = .ok (.ireturn, 1) := by decide +kernel
theorem dX11_origin_24 : decode cX11_origin 24 = .ok (.aload_n 0, 1) := by decide +kernel
theorem dX11_origin_25 : decode cX11_origin 25 = .ok (.getfield 30, 3) := by decide +kernel
theorem dX11_origin_28 : decode cX11_origin 28 = .ok (.aload_n 0, 1) := by decide +kernel
theorem dX11_origin_29 : decode cX11_origin 29 = .ok (.getfield 98, 3) := by decide +kernel
theorem dX11_origin_32 : decode cX11_origin 32 = .ok (.aload_n 0, 1) := by decide +kernel
theorem dX11_origin_33 : decode cX11_origin 33 = .ok (.getfield 80, 3) := by decide +kernel
theorem dX11_origin_36 : decode cX11_origin 36 = .ok (.iload_n 1, 1) := by decide +kernel
theorem dX11_origin_37 : decode cX11_origin 37 = .ok (.iload_n 2, 1) := by decide +kernel
theorem dX11_origin_38 : decode cX11_origin 38 = .ok (.invokestatic 105, 3) := by decide +kernel
theorem dX11_origin_41 : decode cX11_origin 41 = .ok (.iload_n 3, 1) := by decide +kernel
theorem dX11_origin_42 : decode cX11_origin 42 = .ok (.invokevirtual 255, 3) := by decide +kernel
theorem dX11_origin_45 : decode cX11_origin 45 = .ok (.ireturn, 1) := by decide +kernel
theorem dX11_distance_0 : decode cX11_distance 0 = .ok (.aload_n 0, 1) := by decide +kernel
theorem dX11_distance_1 : decode cX11_distance 1 = .ok (.iload_n 1, 1) := by decide +kernel
theorem dX11_distance_2 : decode cX11_distance 2 = .ok (.invokevirtual 259, 3) := by decide +kernel
theorem dX11_distance_5 : decode cX11_distance 5 = .ok (.ifCond .ne 6, 3) := by decide +kernel
theorem dX11_distance_8 : decode cX11_distance 8 = .ok (.bipush (-3), 2) := by decide +kernel
theorem dX11_distance_10 : decode cX11_distance 10 = .ok (.ireturn, 1) := by decide +kernel
theorem dX11_distance_11 : decode cX11_distance 11 = .ok (.iload_n 2, 1) := by decide +kernel
theorem dX11_distance_12 : decode cX11_distance 12 = .ok (.iload_n 3, 1) := by decide +kernel
theorem dX11_distance_13 : decode cX11_distance 13 = .ok (.invokestatic 101, 3) := by decide +kernel
theorem dX11_distance_16 : decode cX11_distance 16 = .ok (.ifCond .ne 5, 3) := by decide +kernel
theorem dX11_distance_19 : decode cX11_distance 19 = .ok (.iconst (-1), 1) := by decide +kernel
theorem dX11_distance_20 : decode cX11_distance 20 = .ok (.ireturn, 1) := by decide +kernel
theorem dX11_distance_21 : decode cX11_distance 21 = .ok (.aload_n 0, 1) := by decide +kernel
theorem dX11_distance_22 : decode cX11_distance 22 = .ok (.getfield 30, 3) := by decide +kernel
theorem dX11_distance_25 : decode cX11_distance 25 = .ok (.aload_n 0, 1) := by decide +kernel
theorem dX11_distance_26 : decode cX11_distance 26 = .ok (.getfield 98, 3) := by decide +kernel
theorem dX11_distance_29 : decode cX11_distance 29 = .ok (.iload_n 1, 1) := by decide +kernel
theorem dX11_distance_30 : decode cX11_distance 30 = .ok (.iload_n 2, 1) := by decide +kernel
theorem dX11_distance_31 : decode cX11_distance 31 = .ok (.iload_n 3, 1) := by decide +kernel
theorem dX11_distance_32 : decode cX11_distance 32 = .ok (.invokestatic 105, 3) := by decide +kernel
theorem dX11_distance_35 : decode cX11_distance 35 = .ok (.invokevirtual 262, 3) := by decide +kernel
theorem dX11_distance_38 : decode cX11_distance 38 = .ok (.ireturn, 1) := by decide +kernel
theorem dX11_trace_0 : decode cX11_trace 0 = .ok (.aload_n 0, 1) := by decide +kernel
theorem dX11_trace_1 : decode cX11_trace 1 = .ok (.iload_n 1, 1) := by decide +kernel
theorem dX11_trace_2 : decode cX11_trace 2 = .ok (.invokevirtual 259, 3) := by decide +kernel
theorem dX11_trace_5 : decode cX11_trace 5 = .ok (.ifCond .eq 7, 3) := by decide +kernel
theorem dX11_trace_8 : decode cX11_trace 8 = .ok (.iload_n 2, 1) := by decide +kernel
theorem dX11_trace_9 : decode cX11_trace 9 = .ok (.ifCond .ge 6, 3) := by decide +kernel
theorem dX11_trace_12 : decode cX11_trace 12 = .ok (.bipush (-3), 2) := by decide +kernel
theorem dX11_trace_14 : decode cX11_trace 14 = .ok (.ireturn, 1) := by decide +kernel
theorem dX11_trace_15 : decode cX11_trace 15 = .ok (.aload_n 0, 1) := by decide +kernel
theorem dX11_trace_16 : decode cX11_trace 16 = .ok (.getfield 44, 3) := by decide +kernel
theorem dX11_trace_19 : decode cX11_trace 19 = .ok (.aload_n 0, 1) := by decide +kernel
theorem dX11_trace_20 : decode cX11_trace 20 = .ok (.getfield 98, 3) := by decide +kernel
theorem dX11_trace_23 : decode cX11_trace 23 = .ok (.iload_n 1, 1) := by decide +kernel
theorem dX11_trace_24 : decode cX11_trace 24 = .ok (.iload_n 2, 1) := by decide +kernel
theorem dX11_trace_25 : decode cX11_trace 25 = .ok (.sipush 768, 3) := by decide +kernel
theorem dX11_trace_28 : decode cX11_trace 28 = .ok (.invokestatic 266, 3) := by decide +kernel
theorem dX11_trace_31 : decode cX11_trace 31 = .ok (.invokevirtual 271, 3) := by decide +kernel
theorem dX11_trace_34 : decode cX11_trace 34 = .ok (.istore_n 3, 1) := by decide +kernel
theorem dX11_trace_35 : decode cX11_trace 35 = .ok (.iload_n 3, 1) := by decide +kernel
theorem dX11_trace_36 : decode cX11_trace 36 = .ok (.iload_n 2, 1) := by decide +kernel
theorem dX11_trace_37 : decode cX11_trace 37 = .ok (.if_icmp .ge 6, 3) := by decide +kernel
theorem dX11_trace_40 : decode cX11_trace 40 = .ok (.bipush (-6), 2) := by decide +kernel
theorem dX11_trace_42 : decode cX11_trace 42 = .ok (.ireturn, 1) := by decide +kernel
theorem dX11_trace_43 : decode cX11_trace 43 = .ok (.sipush 1000, 3) := by decide +kernel
theorem dX11_trace_46 : decode cX11_trace 46 = .ok (.aload_n 0, 1) := by decide +kernel
theorem dX11_trace_47 : decode cX11_trace 47 = .ok (.getfield 44, 3) := by decide +kernel
theorem dX11_trace_50 : decode cX11_trace 50 = .ok (.getfield 274, 3) := by decide +kernel
theorem dX11_trace_53 : decode cX11_trace 53 = .ok (.iconst 4, 1) := by decide +kernel
theorem dX11_trace_54 : decode cX11_trace 54 = .ok (.idiv, 1) := by decide +kernel
theorem dX11_trace_55 : decode cX11_trace 55 = .ok (.imul, 1) := by decide +kernel
theorem dX11_trace_56 : decode cX11_trace 56 = .ok (.bipush 100, 2) := by decide +kernel
theorem dX11_trace_58 : decode cX11_trace 58 = .ok (.aload_n 0, 1) := by decide +kernel
theorem dX11_trace_59 : decode cX11_trace 59 = .ok (.getfield 44, 3) := by decide +kernel
theorem dX11_trace_62 : decode cX11_trace 62 = .ok (.getfield 274, 3) := by decide +kernel
theorem dX11_trace_65 : decode cX11_trace 65 = .ok (.iconst 4, 1) := by decide +kernel
theorem dX11_trace_66 : decode cX11_trace 66 = .ok (.irem, 1) := by decide +kernel
theorem dX11_trace_67 : decode cX11_trace 67 = .ok (.imul, 1) := by decide +kernel
theorem dX11_trace_68 : decode cX11_trace 68 = .ok (.iadd, 1) := by decide +kernel
theorem dX11_trace_69 : decode cX11_trace 69 = .ok (.aload_n 0, 1) := by decide +kernel
theorem dX11_trace_70 : decode cX11_trace 70 = .ok (.getfield 44, 3) := by decide +kernel
theorem dX11_trace_73 : decode cX11_trace 73 = .ok (.getfield 277, 3) := by decide +kernel
theorem dX11_trace_76 : decode cX11_trace 76 = .ok (.iadd, 1) := by decide +kernel
theorem dX11_trace_77 : decode cX11_trace 77 = .ok (.ireturn, 1) := by decide +kernel
theorem dX11_traceEnd_0 : decode cX11_traceEnd 0 = .ok (.aload_n 0, 1) := by decide +kernel
theorem dX11_traceEnd_1 : decode cX11_traceEnd 1 = .ok (.iload_n 1, 1) := by decide +kernel
theorem dX11_traceEnd_2 : decode cX11_traceEnd 2 = .ok (.invokevirtual 259, 3) := by decide +kernel
theorem dX11_traceEnd_5 : decode cX11_traceEnd 5 = .ok (.ifCond .ne 6, 3) := by decide +kernel
theorem dX11_traceEnd_8 : decode cX11_traceEnd 8 = .ok (.bipush (-3), 2) := by decide +kernel
theorem dX11_traceEnd_10 : decode cX11_traceEnd 10 = .ok (.ireturn, 1) := by decide +kernel
theorem dX11_traceEnd_11 : decode cX11_traceEnd 11 = .ok (.aload_n 0, 1) := by decide +kernel
theorem dX11_traceEnd_12 : decode cX11_traceEnd 12 = .ok (.getfield 44, 3) := by decide +kernel
theorem dX11_traceEnd_15 : decode cX11_traceEnd 15 = .ok (.aload_n 0, 1) := by decide +kernel
theorem dX11_traceEnd_16 : decode cX11_traceEnd 16 = .ok (.getfield 98, 3) := by decide +kernel
theorem dX11_traceEnd_19 : decode cX11_traceEnd 19 = .ok (.iload_n 1, 1) := by decide +kernel
theorem dX11_traceEnd_20 : decode cX11_traceEnd 20 = .ok (.sipush 768, 3) := by decide +kernel
theorem dX11_traceEnd_23 : decode cX11_traceEnd 23 = .ok (.invokevirtual 271, 3) := by decide +kernel
theorem dX11_traceEnd_26 : decode cX11_traceEnd 26 = .ok (.pop, 1) := by decide +kernel
theorem dX11_traceEnd_27 : decode cX11_traceEnd 27 = .ok (.aload_n 0, 1) := by decide +kernel
theorem dX11_traceEnd_28 : decode cX11_traceEnd 28 = .ok (.getfield 44, 3) := by decide +kernel
theorem dX11_traceEnd_31 : decode cX11_traceEnd 31 = .ok (.getfield 280, 3) := by decide +kernel
theorem dX11_traceEnd_34 : decode cX11_traceEnd 34 = .ok (.ireturn, 1) := by decide +kernel
theorem dX11_loops_0 : decode cX11_loops 0 = .ok (.aload_n 0, 1) := by decide +kernel
theorem dX11_loops_1 : decode cX11_loops 1 = .ok (.getfield 37, 3) := by decide +kernel
theorem dX11_loops_4 : decode cX11_loops 4 = .ok (.iconst (-1), 1) := by decide +kernel
theorem dX11_loops_5 : decode cX11_loops 5 = .ok (.invokevirtual 283, 3) := by decide +kernel
theorem dX11_loops_8 : decode cX11_loops 8 = .ok (.aload_n 0, 1) := by decide +kernel
theorem dX11_loops_9 : decode cX11_loops 9 = .ok (.getfield 80, 3) := by decide +kernel
theorem dX11_loops_12 : decode cX11_loops 12 = .ok (.aload_n 0, 1) := by decide +kernel
theorem dX11_loops_13 : decode cX11_loops 13 = .ok (.getfield 37, 3) := by decide +kernel
theorem dX11_loops_16 : decode cX11_loops 16 = .ok (.getfield 286, 3) := by decide +kernel
theorem dX11_loops_19 : decode cX11_loops 19 = .ok (.aload_n 0, 1) := by decide +kernel
theorem dX11_loops_20 : decode cX11_loops 20 = .ok (.getfield 98, 3) := by decide +kernel
theorem dX11_loops_23 : decode cX11_loops 23 = .ok (.laload, 1) := by decide +kernel
theorem dX11_loops_24 : decode cX11_loops 24 = .ok (.ldc2_w 250, 3) := by decide +kernel
theorem dX11_loops_27 : decode cX11_loops 27 = .ok (.lxor, 1) := by decide +kernel
theorem dX11_loops_28 : decode cX11_loops 28 = .ok (.land, 1) := by decide +kernel
theorem dX11_loops_29 : decode cX11_loops 29 = .ok (.lreturn, 1) := by decide +kernel
theorem dX11_cutSize_0 : decode cX11_cutSize 0 = .ok (.iload_n 1, 1) := by decide +kernel
theorem dX11_cutSize_1 : decode cX11_cutSize 1 = .ok (.iload_n 2, 1) := by decide +kernel
theorem dX11_cutSize_2 : decode cX11_cutSize 2 = .ok (.invokestatic 101, 3) := by decide +kernel
theorem dX11_cutSize_5 : decode cX11_cutSize 5 = .ok (.ifCond .ne 5, 3) := by decide +kernel
theorem dX11_cutSize_8 : decode cX11_cutSize 8 = .ok (.iconst (-1), 1) := by decide +kernel
theorem dX11_cutSize_9 : decode cX11_cutSize 9 = .ok (.ireturn, 1) := by decide +kernel
theorem dX11_cutSize_10 : decode cX11_cutSize 10 = .ok (.aload_n 0, 1) := by decide +kernel
theorem dX11_cutSize_11 : decode cX11_cutSize 11 = .ok (.getfield 51, 3) := by decide +kernel
theorem dX11_cutSize_14 : decode cX11_cutSize 14 = .ok (.aload_n 0, 1) := by decide +kernel
theorem dX11_cutSize_15 : decode cX11_cutSize 15 = .ok (.getfield 98, 3) := by decide +kernel
theorem dX11_cutSize_18 : decode cX11_cutSize 18 = .ok (.aload_n 0, 1) := by decide +kernel
theorem dX11_cutSize_19 : decode cX11_cutSize 19 = .ok (.getfield 80, 3) := by decide +kernel
theorem dX11_cutSize_22 : decode cX11_cutSize 22 = .ok (.iload_n 1, 1) := by decide +kernel
theorem dX11_cutSize_23 : decode cX11_cutSize 23 = .ok (.iload_n 2, 1) := by decide +kernel
theorem dX11_cutSize_24 : decode cX11_cutSize 24 = .ok (.invokestatic 105, 3) := by decide +kernel
theorem dX11_cutSize_27 : decode cX11_cutSize 27 = .ok (.invokevirtual 289, 3) := by decide +kernel
theorem dX11_cutSize_30 : decode cX11_cutSize 30 = .ok (.ireturn, 1) := by decide +kernel
theorem dX11_cutRule_0 : decode cX11_cutRule 0 = .ok (.iload_n 1, 1) := by decide +kernel
theorem dX11_cutRule_1 : decode cX11_cutRule 1 = .ok (.iload_n 2, 1) := by decide +kernel
theorem dX11_cutRule_2 : decode cX11_cutRule 2 = .ok (.invokestatic 101, 3) := by decide +kernel
theorem dX11_cutRule_5 : decode cX11_cutRule 5 = .ok (.ifCond .ne 5, 3) := by decide +kernel
theorem dX11_cutRule_8 : decode cX11_cutRule 8 = .ok (.iconst (-1), 1) := by decide +kernel
theorem dX11_cutRule_9 : decode cX11_cutRule 9 = .ok (.ireturn, 1) := by decide +kernel
theorem dX11_cutRule_10 : decode cX11_cutRule 10 = .ok (.iload_n 3, 1) := by decide +kernel
theorem dX11_cutRule_11 : decode cX11_cutRule 11 = .ok (.ifCond .ge 6, 3) := by decide +kernel
theorem dX11_cutRule_14 : decode cX11_cutRule 14 = .ok (.bipush (-3), 2) := by decide +kernel
theorem dX11_cutRule_16 : decode cX11_cutRule 16 = .ok (.ireturn, 1) := by decide +kernel
theorem dX11_cutRule_17 : decode cX11_cutRule 17 = .ok (.aload_n 0, 1) := by decide +kernel
theorem dX11_cutRule_18 : decode cX11_cutRule 18 = .ok (.getfield 51, 3) := by decide +kernel
theorem dX11_cutRule_21 : decode cX11_cutRule 21 = .ok (.aload_n 0, 1) := by decide +kernel
theorem dX11_cutRule_22 : decode cX11_cutRule 22 = .ok (.getfield 98, 3) := by decide +kernel
theorem dX11_cutRule_25 : decode cX11_cutRule 25 = .ok (.aload_n 0, 1) := by decide +kernel
theorem dX11_cutRule_26 : decode cX11_cutRule 26 = .ok (.getfield 80, 3) := by decide +kernel
theorem dX11_cutRule_29 : decode cX11_cutRule 29 = .ok (.iload_n 1, 1) := by decide +kernel
theorem dX11_cutRule_30 : decode cX11_cutRule 30 = .ok (.iload_n 2, 1) := by decide +kernel
theorem dX11_cutRule_31 : decode cX11_cutRule 31 = .ok (.invokestatic 105, 3) := by decide +kernel
theorem dX11_cutRule_34 : decode cX11_cutRule 34 = .ok (.invokevirtual 289, 3) := by decide +kernel
theorem dX11_cutRule_37 : decode cX11_cutRule 37 = .ok (.istore 4, 2) := by decide +kernel
theorem dX11_cutRule_39 : decode cX11_cutRule 39 = .ok (.iload_n 3, 1) := by decide +kernel
theorem dX11_cutRule_40 : decode cX11_cutRule 40 = .ok (.iload 4, 2) := by decide +kernel
theorem dX11_cutRule_42 : decode cX11_cutRule 42 = .ok (.if_icmp .ge 8, 3) := by decide +kernel
theorem dX11_cutRule_45 : decode cX11_cutRule 45 = .ok (.iload_n 3, 1) := by decide +kernel
theorem dX11_cutRule_46 : decode cX11_cutRule 46 = .ok (.iconst 3, 1) := by decide +kernel
theorem dX11_cutRule_47 : decode cX11_cutRule 47 = .ok (.if_icmp .lt 6, 3) := by decide +kernel
theorem dX11_cutRule_50 : decode cX11_cutRule 50 = .ok (.bipush (-6), 2) := by decide +kernel
theorem dX11_cutRule_52 : decode cX11_cutRule 52 = .ok (.ireturn, 1) := by decide +kernel
theorem dX11_cutRule_53 : decode cX11_cutRule 53 = .ok (.aload_n 0, 1) := by decide +kernel
theorem dX11_cutRule_54 : decode cX11_cutRule 54 = .ok (.getfield 51, 3) := by decide +kernel
theorem dX11_cutRule_57 : decode cX11_cutRule 57 = .ok (.getfield 293, 3) := by decide +kernel
theorem dX11_cutRule_60 : decode cX11_cutRule 60 = .ok (.iload_n 3, 1) := by decide +kernel
theorem dX11_cutRule_61 : decode cX11_cutRule 61 = .ok (.iaload, 1) := by decide +kernel
theorem dX11_cutRule_62 : decode cX11_cutRule 62 = .ok (.istore 5, 2) := by decide +kernel
theorem dX11_cutRule_64 : decode cX11_cutRule 64 = .ok (.bipush 10, 2) := by decide +kernel
theorem dX11_cutRule_66 : decode cX11_cutRule 66 = .ok (.iload 5, 2) := by decide +kernel
theorem dX11_cutRule_68 : decode cX11_cutRule 68 = .ok (.bipush 6, 2) := by decide +kernel
theorem dX11_cutRule_70 : decode cX11_cutRule 70 = .ok (.idiv, 1) := by decide +kernel
theorem dX11_cutRule_71 : decode cX11_cutRule 71 = .ok (.imul, 1) := by decide +kernel
theorem dX11_cutRule_72 : decode cX11_cutRule 72 = .ok (.iload 5, 2) := by decide +kernel
theorem dX11_cutRule_74 : decode cX11_cutRule 74 = .ok (.bipush 6, 2) := by decide +kernel
theorem dX11_cutRule_76 : decode cX11_cutRule 76 = .ok (.irem, 1) := by decide +kernel
theorem dX11_cutRule_77 : decode cX11_cutRule 77 = .ok (.iadd, 1) := by decide +kernel
theorem dX11_cutRule_78 : decode cX11_cutRule 78 = .ok (.ireturn, 1) := by decide +kernel
theorem dX11_addPolicy_0 : decode cX11_addPolicy 0 = .ok (.iload_n 2, 1) := by decide +kernel
theorem dX11_addPolicy_1 : decode cX11_addPolicy 1 = .ok (.iload_n 3, 1) := by decide +kernel
theorem dX11_addPolicy_2 : decode cX11_addPolicy 2 = .ok (.invokestatic 101, 3) := by decide +kernel
theorem dX11_addPolicy_5 : decode cX11_addPolicy 5 = .ok (.ifCond .eq 13, 3) := by decide +kernel
theorem dX11_addPolicy_8 : decode cX11_addPolicy 8 = .ok (.iload 4, 2) := by decide +kernel
theorem dX11_addPolicy_10 : decode cX11_addPolicy 10 = .ok (.iload 5, 2) := by decide +kernel
theorem dX11_addPolicy_12 : decode cX11_addPolicy 12 = .ok (.invokestatic 101, 3) := by decide +kernel
theorem dX11_addPolicy_15 : decode cX11_addPolicy 15 = .ok (.ifCond .ne 5, 3) := by decide +kernel
theorem dX11_addPolicy_18 : decode cX11_addPolicy 18 = .ok (.iconst (-1), 1) := by decide +kernel
theorem dX11_addPolicy_19 : decode cX11_addPolicy 19 = .ok (.ireturn, 1) := by decide +kernel
theorem dX11_addPolicy_20 : decode cX11_addPolicy 20 = .ok (.aload_n 0, 1) := by decide +kernel
theorem dX11_addPolicy_21 : decode cX11_addPolicy 21 = .ok (.getfield 95, 3) := by decide +kernel
theorem dX11_addPolicy_24 : decode cX11_addPolicy 24 = .ok (.bipush 8, 2) := by decide +kernel
theorem dX11_addPolicy_26 : decode cX11_addPolicy 26 = .ok (.if_icmp .lt 6, 3) := by decide +kernel
theorem dX11_addPolicy_29 : decode cX11_addPolicy 29 = .ok (.bipush (-5), 2) := by decide +kernel
theorem dX11_addPolicy_31 : decode cX11_addPolicy 31 = .ok (.ireturn, 1) := by decide +kernel
theorem dX11_addPolicy_32 : decode cX11_addPolicy 32 = .ok (.aload_n 0, 1) := by decide +kernel
theorem dX11_addPolicy_33 : decode cX11_addPolicy 33 = .ok (.getfield 71, 3) := by decide +kernel
theorem dX11_addPolicy_36 : decode cX11_addPolicy 36 = .ok (.aload_n 0, 1) := by decide +kernel
theorem dX11_addPolicy_37 : decode cX11_addPolicy 37 = .ok (.getfield 95, 3) := by decide +kernel
theorem dX11_addPolicy_40 : decode cX11_addPolicy 40 = .ok (.aaload, 1) := by decide +kernel
theorem dX11_addPolicy_41 : decode cX11_addPolicy 41 = .ok (.astore 6, 2) := by decide +kernel
theorem dX11_addPolicy_43 : decode cX11_addPolicy 43 = .ok (.aload 6, 2) := by decide +kernel
theorem dX11_addPolicy_45 : decode cX11_addPolicy 45 = .ok (.iload_n 1, 1) := by decide +kernel
theorem dX11_addPolicy_46 : decode cX11_addPolicy 46 = .ok (.putfield 296, 3) := by decide +kernel
theorem dX11_addPolicy_49 : decode cX11_addPolicy 49 = .ok (.aload 6, 2) := by decide +kernel
theorem dX11_addPolicy_51 : decode cX11_addPolicy 51 = .ok (.iload_n 2, 1) := by decide +kernel
theorem dX11_addPolicy_52 : decode cX11_addPolicy 52 = .ok (.iload_n 3, 1) := by decide +kernel
theorem dX11_addPolicy_53 : decode cX11_addPolicy 53 = .ok (.invokestatic 105, 3) := by decide +kernel
theorem dX11_addPolicy_56 : decode cX11_addPolicy 56 = .ok (.putfield 299, 3) := by decide +kernel
theorem dX11_addPolicy_59 : decode cX11_addPolicy 59 = .ok (.aload 6, 2) := by decide +kernel
theorem dX11_addPolicy_61 : decode cX11_addPolicy 61 = .ok (.iload 4, 2) := by decide +kernel
theorem dX11_addPolicy_63 : decode cX11_addPolicy 63 = .ok (.iload 5, 2) := by decide +kernel
theorem dX11_addPolicy_65 : decode cX11_addPolicy 65 = .ok (.invokestatic 105, 3) := by decide +kernel
theorem dX11_addPolicy_68 : decode cX11_addPolicy 68 = .ok (.putfield 302, 3) := by decide +kernel
theorem dX11_addPolicy_71 : decode cX11_addPolicy 71 = .ok (.aload 6, 2) := by decide +kernel
theorem dX11_addPolicy_73 : decode cX11_addPolicy 73 = .ok (.aload_n 0, 1) := by decide +kernel
theorem dX11_addPolicy_74 : decode cX11_addPolicy 74 = .ok (.getfield 14, 3) := by decide +kernel
theorem dX11_addPolicy_77 : decode cX11_addPolicy 77 = .ok (.invokevirtual 76, 3) := by decide +kernel
theorem dX11_addPolicy_80 : decode cX11_addPolicy 80 = .ok (.putfield 305, 3) := by decide +kernel
theorem dX11_addPolicy_83 : decode cX11_addPolicy 83 = .ok (.aload_n 0, 1) := by decide +kernel
theorem dX11_addPolicy_84 : decode cX11_addPolicy 84 = .ok (.dup, 1) := by decide +kernel
theorem dX11_addPolicy_85 : decode cX11_addPolicy 85 = .ok (.getfield 95, 3) := by decide +kernel
theorem dX11_addPolicy_88 : decode cX11_addPolicy 88 = .ok (.iconst 1, 1) := by decide +kernel
theorem dX11_addPolicy_89 : decode cX11_addPolicy 89 = .ok (.iadd, 1) := by decide +kernel
theorem dX11_addPolicy_90 : decode cX11_addPolicy 90 = .ok (.putfield 95, 3) := by decide +kernel
theorem dX11_addPolicy_93 : decode cX11_addPolicy 93 = .ok (.aload_n 0, 1) := by decide +kernel
theorem dX11_addPolicy_94 : decode cX11_addPolicy 94 = .ok (.getfield 95, 3) := by decide +kernel
theorem dX11_addPolicy_97 : decode cX11_addPolicy 97 = .ok (.iconst 1, 1) := by decide +kernel
theorem dX11_addPolicy_98 : decode cX11_addPolicy 98 = .ok (.isub, 1) := by decide +kernel
theorem dX11_addPolicy_99 : decode cX11_addPolicy 99 = .ok (.ireturn, 1) := by decide +kernel
theorem dX11_setPolicyCube_0 : decode cX11_setPolicyCube 0 = .ok (.aload_n 0, 1) := by decide +kernel
theorem dX11_setPolicyCube_1 : decode cX11_setPolicyCube 1 = .ok (.iload_n 1, 1) := by decide +kernel
theorem dX11_setPolicyCube_2 : decode cX11_setPolicyCube 2 = .ok (.invokevirtual 308, 3) := by decide +kernel
theorem dX11_setPolicyCube_5 : decode cX11_setPolicyCube 5 = .ok (.ifCond .eq 15, 3) := by decide +kernel
theorem dX11_setPolicyCube_8 : decode cX11_setPolicyCube 8 = .ok (.aload_n 0, 1) := by decide +kernel
theorem dX11_setPolicyCube_9 : decode cX11_setPolicyCube 9 = .ok (.getfield 14, 3) := by decide +kernel
theorem dX11_setPolicyCube_12 : decode cX11_setPolicyCube 12 = .ok (.iload_n 2, 1) := by decide +kernel
theorem dX11_setPolicyCube_13 : decode cX11_setPolicyCube 13 = .ok (.iload_n 3, 1) := by decide +kernel
theorem dX11_setPolicyCube_14 : decode cX11_setPolicyCube 14 = .ok (.invokevirtual 139, 3) := by decide +kernel
theorem dX11_setPolicyCube_17 : decode cX11_setPolicyCube 17 = .ok (.ifCond .ne 6, 3) := by decide +kernel
theorem dX11_setPolicyCube_20 : decode cX11_setPolicyCube 20 = .ok (.bipush (-3), 2) := by decide +kernel
theorem dX11_setPolicyCube_22 : decode cX11_setPolicyCube 22 = .ok (.ireturn, 1) := by decide +kernel
theorem dX11_setPolicyCube_23 : decode cX11_setPolicyCube 23 = .ok (.aload_n 0, 1) := by decide +kernel
theorem dX11_setPolicyCube_24 : decode cX11_setPolicyCube 24 = .ok (.getfield 14, 3) := by decide +kernel
theorem dX11_setPolicyCube_27 : decode cX11_setPolicyCube 27 = .ok (.invokevirtual 76, 3) := by decide +kernel
theorem dX11_setPolicyCube_30 : decode cX11_setPolicyCube 30 = .ok (.iload_n 2, 1) := by decide +kernel
theorem dX11_setPolicyCube_31 : decode cX11_setPolicyCube 31 = .ok (.iload_n 3, 1) := by decide +kernel
theorem dX11_setPolicyCube_32 : decode cX11_setPolicyCube 32 = .ok (.invokestatic 208, 3) := by decide +kernel
theorem dX11_setPolicyCube_35 : decode cX11_setPolicyCube 35 = .ok (.land, 1) := by decide +kernel
theorem dX11_setPolicyCube_36 : decode cX11_setPolicyCube 36 = .ok (.lstore 4, 2) := by decide +kernel
theorem dX11_setPolicyCube_38 : decode cX11_setPolicyCube 38 = .ok (.aload_n 0, 1) := by decide +kernel
theorem dX11_setPolicyCube_39 : decode cX11_setPolicyCube 39 = .ok (.getfield 71, 3) := by decide +kernel
theorem dX11_setPolicyCube_42 : decode cX11_setPolicyCube 42 = .ok (.iload_n 1, 1) := by decide +kernel
theorem dX11_setPolicyCube_43 : decode cX11_setPolicyCube 43 = .ok (.aaload, 1) := by decide +kernel
theorem dX11_setPolicyCube_44 : decode cX11_setPolicyCube 44 = .ok (.lload 4, 2) := by decide +kernel
theorem dX11_setPolicyCube_46 : decode cX11_setPolicyCube 46 = .ok (.putfield 305, 3) := by decide +kernel
theorem dX11_setPolicyCube_49 : decode cX11_setPolicyCube 49 = .ok (.lload 4, 2) := by decide +kernel
theorem dX11_setPolicyCube_51 : decode cX11_setPolicyCube 51 = .ok (.invokestatic 212, 3) := by decide +kernel
theorem dX11_setPolicyCube_54 : decode cX11_setPolicyCube 54 = .ok (.ireturn, 1) := by decide +kernel
theorem dX11_counterexamples_0 : decode cX11_counterexamples 0 = .ok (.aload_n 0, 1) := by decide +kernel
theorem dX11_counterexamples_1 : decode cX11_counterexamples 1 = .ok (.iload_n 1, 1) := by decide +kernel
theorem dX11_counterexamples_2 : decode cX11_counterexamples 2 = .ok (.invokevirtual 308, 3) := by decide +kernel
theorem dX11_counterexamples_5 : decode cX11_counterexamples 5 = .ok (.ifCond .eq 16, 3) := by decide +kernel
theorem dX11_counterexamples_8 : decode cX11_counterexamples 8 = .ok (.aload_n 0, 1) := by decide +kernel
theorem dX11_counterexamples_9 : decode cX11_counterexamples 9 = .ok (.aload_n 0, 1) := by decide +kernel
theorem dX11_counterexamples_10 : decode cX11_counterexamples 10 = .ok (.getfield 71, 3) := by decide +kernel
theorem dX11_counterexamples_13 : decode cX11_counterexamples 13 = .ok (.iload_n 1, 1) := by decide +kernel
theorem dX11_counterexamples_14 : decode cX11_counterexamples 14 = .ok (.aaload, 1) := by decide +kernel
theorem dX11_counterexamples_15 : decode cX11_counterexamples 15 = .ok (.invokevirtual 311, 3) := by decide +kernel
theorem dX11_counterexamples_18 : decode cX11_counterexamples 18 = .ok (.goto 6, 3) := by decide +kernel
theorem dX11_counterexamples_21 : decode cX11_counterexamples 21 = .ok (.ldc2_w 216, 3) := by decide +kernel
theorem dX11_counterexamples_24 : decode cX11_counterexamples 24 = .ok (.lreturn, 1) := by decide +kernel
theorem dX11_violated_0 : decode cX11_violated 0 = .ok (.iconst 0, 1) := by decide +kernel
theorem dX11_violated_1 : decode cX11_violated 1 = .ok (.istore_n 1, 1) := by decide +kernel
theorem dX11_violated_2 : decode cX11_violated 2 = .ok (.iconst 0, 1) := by decide +kernel
theorem dX11_violated_3 : decode cX11_violated 3 = .ok (.istore_n 2, 1) := by decide +kernel
theorem dX11_violated_4 : decode cX11_violated 4 = .ok (.iload_n 2, 1) := by decide +kernel
theorem dX11_violated_5 : decode cX11_violated 5 = .ok (.aload_n 0, 1) := by decide +kernel
theorem dX11_violated_6 : decode cX11_violated 6 = .ok (.getfield 95, 3) := by decide +kernel
theorem dX11_violated_9 : decode cX11_violated 9 = .ok (.if_icmp .ge 30, 3) := by decide +kernel
theorem dX11_violated_12 : decode cX11_violated 12 = .ok (.aload_n 0, 1) := by decide +kernel
theorem dX11_violated_13 : decode cX11_violated 13 = .ok (.aload_n 0, 1) := by decide +kernel
theorem dX11_violated_14 : decode cX11_violated 14 = .ok (.getfield 71, 3) := by decide +kernel
theorem dX11_violated_17 : decode cX11_violated 17 = .ok (.iload_n 2, 1) := by decide +kernel
theorem dX11_violated_18 : decode cX11_violated 18 = .ok (.aaload, 1) := by decide +kernel
theorem dX11_violated_19 : decode cX11_violated 19 = .ok (.invokevirtual 311, 3) := by decide +kernel
theorem dX11_violated_22 : decode cX11_violated 22 = .ok (.lconst 0, 1) := by decide +kernel
theorem dX11_violated_23 : decode cX11_violated 23 = .ok (.lcmp, 1) := by decide +kernel
theorem dX11_violated_24 : decode cX11_violated 24 = .ok (.ifCond .eq 9, 3) := by decide +kernel
theorem dX11_violated_27 : decode cX11_violated 27 = .ok (.iload_n 1, 1) := by decide +kernel
theorem dX11_violated_28 : decode cX11_violated 28 = .ok (.iconst 1, 1) := by decide +kernel
theorem dX11_violated_29 : decode cX11_violated 29 = .ok (.iload_n 2, 1) := by decide +kernel
theorem dX11_violated_30 : decode cX11_violated 30 = .ok (.ishl, 1) := by decide +kernel
theorem dX11_violated_31 : decode cX11_violated 31 = .ok (.ior, 1) := by decide +kernel
theorem dX11_violated_32 : decode cX11_violated 32 = .ok (.istore_n 1, 1) := by decide +kernel
theorem dX11_violated_33 : decode cX11_violated 33 = .ok (.iinc 2 1, 3) := by decide +kernel
theorem dX11_violated_36 : decode cX11_violated 36 = .ok (.goto (-32), 3) := by decide +kernel
theorem dX11_violated_39 : decode cX11_violated 39 = .ok (.iload_n 1, 1) := by decide +kernel
theorem dX11_violated_40 : decode cX11_violated 40 = .ok (.ireturn, 1) := by decide +kernel
theorem dX11_clearPolicies_0 : decode cX11_clearPolicies 0 = .ok (.aload_n 0, 1) := by decide +kernel
theorem dX11_clearPolicies_1 : decode cX11_clearPolicies 1 = .ok (.getfield 95, 3) := by decide +kernel
theorem dX11_clearPolicies_4 : decode cX11_clearPolicies 4 = .ok (.istore_n 1, 1) := by decide +kernel
theorem dX11_clearPolicies_5 : decode cX11_clearPolicies 5 = .ok (.aload_n 0, 1) := by decide +kernel
theorem dX11_clearPolicies_6 : decode cX11_clearPolicies 6 = .ok (.iconst 0, 1) := by decide +kernel
theorem dX11_clearPolicies_7 : decode cX11_clearPolicies 7 = .ok (.putfield 95, 3) := by decide +kernel
theorem dX11_clearPolicies_10 : decode cX11_clearPolicies 10 = .ok (.iload_n 1, 1) := by decide +kernel
theorem dX11_clearPolicies_11 : decode cX11_clearPolicies 11 = .ok (.ireturn, 1) := by decide +kernel
theorem dX11_type_0 : decode cX11_type 0 = .ok (.aload_n 0, 1) := by decide +kernel
theorem dX11_type_1 : decode cX11_type 1 = .ok (.getfield 58, 3) := by decide +kernel
theorem dX11_type_4 : decode cX11_type 4 = .ok (.getfield 315, 3) := by decide +kernel
theorem dX11_type_7 : decode cX11_type 7 = .ok (.bipush 40, 2) := by decide +kernel
theorem dX11_type_9 : decode cX11_type 9 = .ok (.if_icmp .lt 6, 3) := by decide +kernel
theorem dX11_type_12 : decode cX11_type 12 = .ok (.bipush (-5), 2) := by decide +kernel
theorem dX11_type_14 : decode cX11_type 14 = .ok (.ireturn, 1) := by decide +kernel
theorem dX11_type_15 : decode cX11_type 15 = .ok (.aload_n 0, 1) := by decide +kernel
theorem dX11_type_16 : decode cX11_type 16 = .ok (.getfield 58, 3) := by decide +kernel
theorem dX11_type_19 : decode cX11_type 19 = .ok (.getfield 318, 3) := by decide +kernel
theorem dX11_type_22 : decode cX11_type 22 = .ok (.aload_n 0, 1) := by decide +kernel
theorem dX11_type_23 : decode cX11_type 23 = .ok (.getfield 58, 3) := by decide +kernel
theorem dX11_type_26 : decode cX11_type 26 = .ok (.getfield 315, 3) := by decide +kernel
theorem dX11_type_29 : decode cX11_type 29 = .ok (.iload_n 1, 1) := by decide +kernel
theorem dX11_type_30 : decode cX11_type 30 = .ok (.castore, 1) := by decide +kernel
theorem dX11_type_31 : decode cX11_type 31 = .ok (.aload_n 0, 1) := by decide +kernel
theorem dX11_type_32 : decode cX11_type 32 = .ok (.getfield 58, 3) := by decide +kernel
theorem dX11_type_35 : decode cX11_type 35 = .ok (.dup, 1) := by decide +kernel
theorem dX11_type_36 : decode cX11_type 36 = .ok (.getfield 315, 3) := by decide +kernel
theorem dX11_type_39 : decode cX11_type 39 = .ok (.iconst 1, 1) := by decide +kernel
theorem dX11_type_40 : decode cX11_type 40 = .ok (.iadd, 1) := by decide +kernel
theorem dX11_type_41 : decode cX11_type 41 = .ok (.putfield 315, 3) := by decide +kernel
theorem dX11_type_44 : decode cX11_type 44 = .ok (.aload_n 0, 1) := by decide +kernel
theorem dX11_type_45 : decode cX11_type 45 = .ok (.getfield 58, 3) := by decide +kernel
theorem dX11_type_48 : decode cX11_type 48 = .ok (.getfield 315, 3) := by decide +kernel
theorem dX11_type_51 : decode cX11_type 51 = .ok (.ireturn, 1) := by decide +kernel
theorem dX11_clearText_0 : decode cX11_clearText 0 = .ok (.aload_n 0, 1) := by decide +kernel
theorem dX11_clearText_1 : decode cX11_clearText 1 = .ok (.getfield 58, 3) := by decide +kernel
theorem dX11_clearText_4 : decode cX11_clearText 4 = .ok (.getfield 315, 3) := by decide +kernel
theorem dX11_clearText_7 : decode cX11_clearText 7 = .ok (.istore_n 1, 1) := by decide +kernel
theorem dX11_clearText_8 : decode cX11_clearText 8 = .ok (.aload_n 0, 1) := by decide +kernel
theorem dX11_clearText_9 : decode cX11_clearText 9 = .ok (.getfield 58, 3) := by decide +kernel
theorem dX11_clearText_12 : decode cX11_clearText 12 = .ok (.iconst 0, 1) := by decide +kernel
theorem dX11_clearText_13 : decode cX11_clearText 13 = .ok (.putfield 315, 3) := by decide +kernel
theorem dX11_clearText_16 : decode cX11_clearText 16 = .ok (.iload_n 1, 1) := by decide +kernel
theorem dX11_clearText_17 : decode cX11_clearText 17 = .ok (.ireturn, 1) := by decide +kernel
theorem dX11_readRule_0 : decode cX11_readRule 0 = .ok (.iload_n 1, 1) := by decide +kernel
theorem dX11_readRule_1 : decode cX11_readRule 1 = .ok (.invokestatic 116, 3) := by decide +kernel
theorem dX11_readRule_4 : decode cX11_readRule 4 = .ok (.ifCond .ne 5, 3) := by decide +kernel
theorem dX11_readRule_7 : decode cX11_readRule 7 = .ok (.iconst (-1), 1) := by decide +kernel
theorem dX11_readRule_8 : decode cX11_readRule 8 = .ok (.ireturn, 1) := by decide +kernel
theorem dX11_readRule_9 : decode cX11_readRule 9 = .ok (.aload_n 0, 1) := by decide +kernel
theorem dX11_readRule_10 : decode cX11_readRule 10 = .ok (.getfield 58, 3) := by decide +kernel
theorem dX11_readRule_13 : decode cX11_readRule 13 = .ok (.aload_n 0, 1) := by decide +kernel
theorem dX11_readRule_14 : decode cX11_readRule 14 = .ok (.getfield 14, 3) := by decide +kernel
theorem dX11_readRule_17 : decode cX11_readRule 17 = .ok (.getfield 84, 3) := by decide +kernel
theorem dX11_readRule_20 : decode cX11_readRule 20 = .ok (.invokevirtual 322, 3) := by decide +kernel
theorem dX11_readRule_23 : decode cX11_readRule 23 = .ok (.ifCond .ne 14, 3) := by decide +kernel
theorem dX11_readRule_26 : decode cX11_readRule 26 = .ok (.bipush (-100), 2) := by decide +kernel
theorem dX11_readRule_28 : decode cX11_readRule 28 = .ok (.aload_n 0, 1) := by decide +kernel
theorem dX11_readRule_29 : decode cX11_readRule 29 = .ok (.getfield 58, 3) := by decide +kernel
theorem dX11_readRule_32 : decode cX11_readRule 32 = .ok (.getfield 325, 3) := by decide +kernel
theorem dX11_readRule_35 : decode cX11_readRule 35 = .ok (.isub, 1) := by decide +kernel
theorem dX11_readRule_36 : decode cX11_readRule 36 = .ok (.ireturn, 1) := by decide +kernel
theorem dX11_readRule_37 : decode cX11_readRule 37 = .ok (.aload_n 0, 1) := by decide +kernel
theorem dX11_readRule_38 : decode cX11_readRule 38 = .ok (.iload_n 1, 1) := by decide +kernel
theorem dX11_readRule_39 : decode cX11_readRule 39 = .ok (.aload_n 0, 1) := by decide +kernel
theorem dX11_readRule_40 : decode cX11_readRule 40 = .ok (.getfield 14, 3) := by decide +kernel
theorem dX11_readRule_43 : decode cX11_readRule 43 = .ok (.getfield 142, 3) := by decide +kernel
theorem dX11_readRule_46 : decode cX11_readRule 46 = .ok (.iload_n 1, 1) := by decide +kernel
theorem dX11_readRule_47 : decode cX11_readRule 47 = .ok (.aaload, 1) := by decide +kernel
theorem dX11_readRule_48 : decode cX11_readRule 48 = .ok (.getfield 176, 3) := by decide +kernel
theorem dX11_readRule_51 : decode cX11_readRule 51 = .ok (.aload_n 0, 1) := by decide +kernel
theorem dX11_readRule_52 : decode cX11_readRule 52 = .ok (.getfield 58, 3) := by decide +kernel
theorem dX11_readRule_55 : decode cX11_readRule 55 = .ok (.invokevirtual 328, 3) := by decide +kernel
theorem dX11_readRule_58 : decode cX11_readRule 58 = .ok (.invokevirtual 129, 3) := by decide +kernel
theorem dX11_readRule_61 : decode cX11_readRule 61 = .ok (.ireturn, 1) := by decide +kernel
theorem dX11_ruleText_0 : decode cX11_ruleText 0 = .ok (.aload_n 0, 1) := by decide +kernel
theorem dX11_ruleText_1 : decode cX11_ruleText 1 = .ok (.iload_n 1, 1) := by decide +kernel
theorem dX11_ruleText_2 : decode cX11_ruleText 2 = .ok (.iload_n 2, 1) := by decide +kernel
theorem dX11_ruleText_3 : decode cX11_ruleText 3 = .ok (.invokevirtual 136, 3) := by decide +kernel
theorem dX11_ruleText_6 : decode cX11_ruleText 6 = .ok (.istore 4, 2) := by decide +kernel
theorem dX11_ruleText_8 : decode cX11_ruleText 8 = .ok (.iload 4, 2) := by decide +kernel
theorem dX11_ruleText_10 : decode cX11_ruleText 10 = .ok (.ifCond .eq 6, 3) := by decide +kernel
theorem dX11_ruleText_13 : decode cX11_ruleText 13 = .ok (.iload 4, 2) := by decide +kernel
theorem dX11_ruleText_15 : decode cX11_ruleText 15 = .ok (.ireturn, 1) := by decide +kernel
theorem dX11_ruleText_16 : decode cX11_ruleText 16 = .ok (.iload_n 3, 1) := by decide +kernel
theorem dX11_ruleText_17 : decode cX11_ruleText 17 = .ok (.ifCond .ge 6, 3) := by decide +kernel
theorem dX11_ruleText_20 : decode cX11_ruleText 20 = .ok (.bipush (-3), 2) := by decide +kernel
theorem dX11_ruleText_22 : decode cX11_ruleText 22 = .ok (.ireturn, 1) := by decide +kernel
theorem dX11_ruleText_23 : decode cX11_ruleText 23 = .ok (.aload_n 0, 1) := by decide +kernel
theorem dX11_ruleText_24 : decode cX11_ruleText 24 = .ok (.getfield 65, 3) := by decide +kernel
theorem dX11_ruleText_27 : decode cX11_ruleText 27 = .ok (.aload_n 0, 1) := by decide +kernel
theorem dX11_ruleText_28 : decode cX11_ruleText 28 = .ok (.getfield 14, 3) := by decide +kernel
theorem dX11_ruleText_31 : decode cX11_ruleText 31 = .ok (.getfield 142, 3) := by decide +kernel
theorem dX11_ruleText_34 : decode cX11_ruleText 34 = .ok (.iload_n 1, 1) := by decide +kernel
theorem dX11_ruleText_35 : decode cX11_ruleText 35 = .ok (.aaload, 1) := by decide +kernel
theorem dX11_ruleText_36 : decode cX11_ruleText 36 = .ok (.getfield 146, 3) := by decide +kernel
theorem dX11_ruleText_39 : decode cX11_ruleText 39 = .ok (.iload_n 2, 1) := by decide +kernel
theorem dX11_ruleText_40 : decode cX11_ruleText 40 = .ok (.aaload, 1) := by decide +kernel
theorem dX11_ruleText_41 : decode cX11_ruleText 41 = .ok (.aload_n 0, 1) := by decide +kernel
theorem dX11_ruleText_42 : decode cX11_ruleText 42 = .ok (.getfield 14, 3) := by decide +kernel
theorem dX11_ruleText_45 : decode cX11_ruleText 45 = .ok (.getfield 84, 3) := by decide +kernel
theorem dX11_ruleText_48 : decode cX11_ruleText 48 = .ok (.invokevirtual 332, 3) := by decide +kernel
theorem dX11_ruleText_51 : decode cX11_ruleText 51 = .ok (.iload_n 3, 1) := by decide +kernel
theorem dX11_ruleText_52 : decode cX11_ruleText 52 = .ok (.aload_n 0, 1) := by decide +kernel
theorem dX11_ruleText_53 : decode cX11_ruleText 53 = .ok (.getfield 65, 3) := by decide +kernel
theorem dX11_ruleText_56 : decode cX11_ruleText 56 = .ok (.getfield 336, 3) := by decide +kernel
theorem dX11_ruleText_59 : decode cX11_ruleText 59 = .ok (.if_icmp .ge 15, 3) := by decide +kernel
theorem dX11_ruleText_62 : decode cX11_ruleText 62 = .ok (.aload_n 0, 1) := by decide +kernel
theorem dX11_ruleText_63 : decode cX11_ruleText 63 = .ok (.getfield 65, 3) := by decide +kernel
theorem dX11_ruleText_66 : decode cX11_ruleText 66 = .ok (.getfield 337, 3) := by decide +kernel
theorem dX11_ruleText_69 : decode cX11_ruleText 69 = .ok (.iload_n 3, 1) := by decide +kernel
theorem dX11_ruleText_70 : decode cX11_ruleText 70 = .ok (.caload, 1) := by decide +kernel
theorem dX11_ruleText_71 : decode cX11_ruleText 71 = .ok (.goto 5, 3) := by decide +kernel
theorem dX11_ruleText_74 : decode cX11_ruleText 74 = .ok (.bipush (-6), 2) := by decide +kernel
theorem dX11_ruleText_76 : decode cX11_ruleText 76 = .ok (.ireturn, 1) := by decide +kernel
theorem dX11_isBox_0 : decode cX11_isBox 0 = .ok (.iload_n 0, 1) := by decide +kernel
theorem dX11_isBox_1 : decode cX11_isBox 1 = .ok (.ifCond .lt 13, 3) := by decide +kernel
theorem dX11_isBox_4 : decode cX11_isBox 4 = .ok (.iload_n 0, 1) := by decide +kernel
theorem dX11_isBox_5 : decode cX11_isBox 5 = .ok (.bipush 6, 2) := by decide +kernel
theorem dX11_isBox_7 : decode cX11_isBox 7 = .ok (.if_icmp .ge 7, 3) := by decide +kernel
theorem dX11_isBox_10 : decode cX11_isBox 10 = .ok (.iconst 1, 1) := by decide +kernel
theorem dX11_isBox_11 : decode cX11_isBox 11 = .ok (.goto 4, 3) := by decide +kernel
theorem dX11_isBox_14 : decode cX11_isBox 14 = .ok (.iconst 0, 1) := by decide +kernel
theorem dX11_isBox_15 : decode cX11_isBox 15 = .ok (.ireturn, 1) := by decide +kernel
theorem dX11_isPlace_0 : decode cX11_isPlace 0 = .ok (.iload_n 0, 1) := by decide +kernel
theorem dX11_isPlace_1 : decode cX11_isPlace 1 = .ok (.invokestatic 116, 3) := by decide +kernel
theorem dX11_isPlace_4 : decode cX11_isPlace 4 = .ok (.ifCond .eq 16, 3) := by decide +kernel
theorem dX11_isPlace_7 : decode cX11_isPlace 7 = .ok (.iload_n 1, 1) := by decide +kernel
theorem dX11_isPlace_8 : decode cX11_isPlace 8 = .ok (.ifCond .lt 12, 3) := by decide +kernel
theorem dX11_isPlace_11 : decode cX11_isPlace 11 = .ok (.iload_n 1, 1) := by decide +kernel
theorem dX11_isPlace_12 : decode cX11_isPlace 12 = .ok (.iconst 4, 1) := by decide +kernel
theorem dX11_isPlace_13 : decode cX11_isPlace 13 = .ok (.if_icmp .ge 7, 3) := by decide +kernel
theorem dX11_isPlace_16 : decode cX11_isPlace 16 = .ok (.iconst 1, 1) := by decide +kernel
theorem dX11_isPlace_17 : decode cX11_isPlace 17 = .ok (.goto 4, 3) := by decide +kernel
theorem dX11_isPlace_20 : decode cX11_isPlace 20 = .ok (.iconst 0, 1) := by decide +kernel
theorem dX11_isPlace_21 : decode cX11_isPlace 21 = .ok (.ireturn, 1) := by decide +kernel
theorem dX11_placeOf_0 : decode cX11_placeOf 0 = .ok (.iload_n 0, 1) := by decide +kernel
theorem dX11_placeOf_1 : decode cX11_placeOf 1 = .ok (.iconst 4, 1) := by decide +kernel
theorem dX11_placeOf_2 : decode cX11_placeOf 2 = .ok (.imul, 1) := by decide +kernel
theorem dX11_placeOf_3 : decode cX11_placeOf 3 = .ok (.iload_n 1, 1) := by decide +kernel
theorem dX11_placeOf_4 : decode cX11_placeOf 4 = .ok (.iadd, 1) := by decide +kernel
theorem dX11_placeOf_5 : decode cX11_placeOf 5 = .ok (.ireturn, 1) := by decide +kernel
theorem dX11_isPortSet_0 : decode cX11_isPortSet 0 = .ok (.iload_n 0, 1) := by decide +kernel
theorem dX11_isPortSet_1 : decode cX11_isPortSet 1 = .ok (.iconst 1, 1) := by decide +kernel
theorem dX11_isPortSet_2 : decode cX11_isPortSet 2 = .ok (.if_icmp .lt 13, 3) := by decide +kernel
theorem dX11_isPortSet_5 : decode cX11_isPortSet 5 = .ok (.iload_n 0, 1) := by decide +kernel
theorem dX11_isPortSet_6 : decode cX11_isPortSet 6 = .ok (.bipush 15, 2) := by decide +kernel
theorem dX11_isPortSet_8 : decode cX11_isPortSet 8 = .ok (.if_icmp .gt 7, 3) := by decide +kernel
theorem dX11_isPortSet_11 : decode cX11_isPortSet 11 = .ok (.iconst 1, 1) := by decide +kernel
theorem dX11_isPortSet_12 : decode cX11_isPortSet 12 = .ok (.goto 4, 3) := by decide +kernel
theorem dX11_isPortSet_15 : decode cX11_isPortSet 15 = .ok (.iconst 0, 1) := by decide +kernel
theorem dX11_isPortSet_16 : decode cX11_isPortSet 16 = .ok (.ireturn, 1) := by decide +kernel
theorem dX11_hasPort_0 : decode cX11_hasPort 0 = .ok (.iload_n 0, 1) := by decide +kernel
theorem dX11_hasPort_1 : decode cX11_hasPort 1 = .ok (.iload_n 1, 1) := by decide +kernel
theorem dX11_hasPort_2 : decode cX11_hasPort 2 = .ok (.ishr, 1) := by decide +kernel
theorem dX11_hasPort_3 : decode cX11_hasPort 3 = .ok (.iconst 1, 1) := by decide +kernel
theorem dX11_hasPort_4 : decode cX11_hasPort 4 = .ok (.iand, 1) := by decide +kernel
theorem dX11_hasPort_5 : decode cX11_hasPort 5 = .ok (.ifCond .eq 7, 3) := by decide +kernel
theorem dX11_hasPort_8 : decode cX11_hasPort 8 = .ok (.iconst 1, 1) := by decide +kernel
theorem dX11_hasPort_9 : decode cX11_hasPort 9 = .ok (.goto 4, 3) := by decide +kernel
theorem dX11_hasPort_12 : decode cX11_hasPort 12 = .ok (.iconst 0, 1) := by decide +kernel
theorem dX11_hasPort_13 : decode cX11_hasPort 13 = .ok (.ireturn, 1) := by decide +kernel
theorem dX11_hasHeader_0 : decode cX11_hasHeader 0 = .ok (.lload_n 0, 1) := by decide +kernel
theorem dX11_hasHeader_1 : decode cX11_hasHeader 1 = .ok (.iload_n 2, 1) := by decide +kernel
theorem dX11_hasHeader_2 : decode cX11_hasHeader 2 = .ok (.lushr, 1) := by decide +kernel
theorem dX11_hasHeader_3 : decode cX11_hasHeader 3 = .ok (.lconst 1, 1) := by decide +kernel
theorem dX11_hasHeader_4 : decode cX11_hasHeader 4 = .ok (.land, 1) := by decide +kernel
theorem dX11_hasHeader_5 : decode cX11_hasHeader 5 = .ok (.lconst 0, 1) := by decide +kernel
theorem dX11_hasHeader_6 : decode cX11_hasHeader 6 = .ok (.lcmp, 1) := by decide +kernel
theorem dX11_hasHeader_7 : decode cX11_hasHeader 7 = .ok (.ifCond .eq 7, 3) := by decide +kernel
theorem dX11_hasHeader_10 : decode cX11_hasHeader 10 = .ok (.iconst 1, 1) := by decide +kernel
theorem dX11_hasHeader_11 : decode cX11_hasHeader 11 = .ok (.goto 4, 3) := by decide +kernel
theorem dX11_hasHeader_14 : decode cX11_hasHeader 14 = .ok (.iconst 0, 1) := by decide +kernel
theorem dX11_hasHeader_15 : decode cX11_hasHeader 15 = .ok (.ireturn, 1) := by decide +kernel
theorem dX11_cubeHeaders_0 : decode cX11_cubeHeaders 0 = .ok (.ldc2_w 338, 3) := by decide +kernel
theorem dX11_cubeHeaders_3 : decode cX11_cubeHeaders 3 = .ok (.lstore_n 2, 1) := by decide +kernel
theorem dX11_cubeHeaders_4 : decode cX11_cubeHeaders 4 = .ok (.iconst 0, 1) := by decide +kernel
theorem dX11_cubeHeaders_5 : decode cX11_cubeHeaders 5 = .ok (.istore 4, 2) := by decide +kernel
theorem dX11_cubeHeaders_7 : decode cX11_cubeHeaders 7 = .ok (.iload 4, 2) := by decide +kernel
theorem dX11_cubeHeaders_9 : decode cX11_cubeHeaders 9 = .ok (.iconst 5, 1) := by decide +kernel
theorem dX11_cubeHeaders_10 : decode cX11_cubeHeaders 10 = .ok (.if_icmp .ge 49, 3) := by decide +kernel
theorem dX11_cubeHeaders_13 : decode cX11_cubeHeaders 13 = .ok (.iload_n 0, 1) := by decide +kernel
theorem dX11_cubeHeaders_14 : decode cX11_cubeHeaders 14 = .ok (.iload 4, 2) := by decide +kernel
theorem dX11_cubeHeaders_16 : decode cX11_cubeHeaders 16 = .ok (.ishr, 1) := by decide +kernel
theorem dX11_cubeHeaders_17 : decode cX11_cubeHeaders 17 = .ok (.iconst 1, 1) := by decide +kernel
theorem dX11_cubeHeaders_18 : decode cX11_cubeHeaders 18 = .ok (.iand, 1) := by decide +kernel
theorem dX11_cubeHeaders_19 : decode cX11_cubeHeaders 19 = .ok (.ifCond .eq 34, 3) := by decide +kernel
theorem dX11_cubeHeaders_22 : decode cX11_cubeHeaders 22 = .ok (.lload_n 2, 1) := by decide +kernel
theorem dX11_cubeHeaders_23 : decode cX11_cubeHeaders 23 = .ok (.iload_n 1, 1) := by decide +kernel
theorem dX11_cubeHeaders_24 : decode cX11_cubeHeaders 24 = .ok (.iload 4, 2) := by decide +kernel
theorem dX11_cubeHeaders_26 : decode cX11_cubeHeaders 26 = .ok (.ishr, 1) := by decide +kernel
theorem dX11_cubeHeaders_27 : decode cX11_cubeHeaders 27 = .ok (.iconst 1, 1) := by decide +kernel
theorem dX11_cubeHeaders_28 : decode cX11_cubeHeaders 28 = .ok (.iand, 1) := by decide +kernel
theorem dX11_cubeHeaders_29 : decode cX11_cubeHeaders 29 = .ok (.ifCond .eq 12, 3) := by decide +kernel
theorem dX11_cubeHeaders_32 : decode cX11_cubeHeaders 32 = .ok (.getstatic 340, 3) := by decide +kernel
theorem dX11_cubeHeaders_35 : decode cX11_cubeHeaders 35 = .ok (.iload 4, 2) := by decide +kernel
theorem dX11_cubeHeaders_37 : decode cX11_cubeHeaders 37 = .ok (.laload, 1) := by decide +kernel
theorem dX11_cubeHeaders_38 : decode cX11_cubeHeaders 38 = .ok (.goto 13, 3) := by decide +kernel
theorem dX11_cubeHeaders_41 : decode cX11_cubeHeaders 41 = .ok (.getstatic 340, 3) := by decide +kernel
theorem dX11_cubeHeaders_44 : decode cX11_cubeHeaders 44 = .ok (.iload 4, 2) := by decide +kernel
theorem dX11_cubeHeaders_46 : decode cX11_cubeHeaders 46 = .ok (.laload, 1) := by decide +kernel
theorem dX11_cubeHeaders_47 : decode cX11_cubeHeaders 47 = .ok (.ldc2_w 250, 3) := by decide +kernel
theorem dX11_cubeHeaders_50 : decode cX11_cubeHeaders 50 = .ok (.lxor, 1) := by decide +kernel
theorem dX11_cubeHeaders_51 : decode cX11_cubeHeaders 51 = .ok (.land, 1) := by decide +kernel
theorem dX11_cubeHeaders_52 : decode cX11_cubeHeaders 52 = .ok (.lstore_n 2, 1) := by decide +kernel
theorem dX11_cubeHeaders_53 : decode cX11_cubeHeaders 53 = .ok (.iinc 4 1, 3) := by decide +kernel
theorem dX11_cubeHeaders_56 : decode cX11_cubeHeaders 56 = .ok (.goto (-49), 3) := by decide +kernel
theorem dX11_cubeHeaders_59 : decode cX11_cubeHeaders 59 = .ok (.lload_n 2, 1) := by decide +kernel
theorem dX11_cubeHeaders_60 : decode cX11_cubeHeaders 60 = .ok (.lreturn, 1) := by decide +kernel
theorem dX11_isPolicy_0 : decode cX11_isPolicy 0 = .ok (.iload_n 1, 1) := by decide +kernel
theorem dX11_isPolicy_1 : decode cX11_isPolicy 1 = .ok (.ifCond .lt 15, 3) := by decide +kernel
theorem dX11_isPolicy_4 : decode cX11_isPolicy 4 = .ok (.iload_n 1, 1) := by decide +kernel
theorem dX11_isPolicy_5 : decode cX11_isPolicy 5 = .ok (.aload_n 0, 1) := by decide +kernel
theorem dX11_isPolicy_6 : decode cX11_isPolicy 6 = .ok (.getfield 95, 3) := by decide +kernel
theorem dX11_isPolicy_9 : decode cX11_isPolicy 9 = .ok (.if_icmp .ge 7, 3) := by decide +kernel
theorem dX11_isPolicy_12 : decode cX11_isPolicy 12 = .ok (.iconst 1, 1) := by decide +kernel
theorem dX11_isPolicy_13 : decode cX11_isPolicy 13 = .ok (.goto 4, 3) := by decide +kernel
theorem dX11_isPolicy_16 : decode cX11_isPolicy 16 = .ok (.iconst 0, 1) := by decide +kernel
theorem dX11_isPolicy_17 : decode cX11_isPolicy 17 = .ok (.ireturn, 1) := by decide +kernel
theorem dX11_isInjected_0 : decode cX11_isInjected 0 = .ok (.aload_n 0, 1) := by decide +kernel
theorem dX11_isInjected_1 : decode cX11_isInjected 1 = .ok (.getfield 14, 3) := by decide +kernel
theorem dX11_isInjected_4 : decode cX11_isInjected 4 = .ok (.iload_n 1, 1) := by decide +kernel
theorem dX11_isInjected_5 : decode cX11_isInjected 5 = .ok (.invokevirtual 252, 3) := by decide +kernel
theorem dX11_isInjected_8 : decode cX11_isInjected 8 = .ok (.ifCond .eq 18, 3) := by decide +kernel
theorem dX11_isInjected_11 : decode cX11_isInjected 11 = .ok (.aload_n 0, 1) := by decide +kernel
theorem dX11_isInjected_12 : decode cX11_isInjected 12 = .ok (.getfield 80, 3) := by decide +kernel
theorem dX11_isInjected_15 : decode cX11_isInjected 15 = .ok (.iload_n 1, 1) := by decide +kernel
theorem dX11_isInjected_16 : decode cX11_isInjected 16 = .ok (.invokestatic 242, 3) := by decide +kernel
theorem dX11_isInjected_19 : decode cX11_isInjected 19 = .ok (.ifCond .eq 7, 3) := by decide +kernel
theorem dX11_isInjected_22 : decode cX11_isInjected 22 = .ok (.iconst 1, 1) := by decide +kernel
theorem dX11_isInjected_23 : decode cX11_isInjected 23 = .ok (.goto 4, 3) := by decide +kernel
theorem dX11_isInjected_26 : decode cX11_isInjected 26 = .ok (.iconst 0, 1) := by decide +kernel
theorem dX11_isInjected_27 : decode cX11_isInjected 27 = .ok (.ireturn, 1) := by decide +kernel
theorem dX11_ruleError_0 : decode cX11_ruleError 0 = .ok (.iload_n 1, 1) := by decide +kernel
theorem dX11_ruleError_1 : decode cX11_ruleError 1 = .ok (.invokestatic 116, 3) := by decide +kernel
theorem dX11_ruleError_4 : decode cX11_ruleError 4 = .ok (.ifCond .ne 5, 3) := by decide +kernel
theorem dX11_ruleError_7 : decode cX11_ruleError 7 = .ok (.iconst (-1), 1) := by decide +kernel
theorem dX11_ruleError_8 : decode cX11_ruleError 8 = .ok (.ireturn, 1) := by decide +kernel
theorem dX11_ruleError_9 : decode cX11_ruleError 9 = .ok (.iload_n 2, 1) := by decide +kernel
theorem dX11_ruleError_10 : decode cX11_ruleError 10 = .ok (.ifCond .lt 19, 3) := by decide +kernel
theorem dX11_ruleError_13 : decode cX11_ruleError 13 = .ok (.iload_n 2, 1) := by decide +kernel
theorem dX11_ruleError_14 : decode cX11_ruleError 14 = .ok (.aload_n 0, 1) := by decide +kernel
theorem dX11_ruleError_15 : decode cX11_ruleError 15 = .ok (.getfield 14, 3) := by decide +kernel
theorem dX11_ruleError_18 : decode cX11_ruleError 18 = .ok (.getfield 142, 3) := by decide +kernel
theorem dX11_ruleError_21 : decode cX11_ruleError 21 = .ok (.iload_n 1, 1) := by decide +kernel
theorem dX11_ruleError_22 : decode cX11_ruleError 22 = .ok (.aaload, 1) := by decide +kernel
theorem dX11_ruleError_23 : decode cX11_ruleError 23 = .ok (.getfield 176, 3) := by decide +kernel
theorem dX11_ruleError_26 : decode cX11_ruleError 26 = .ok (.if_icmp .lt 8, 3) := by decide +kernel
theorem dX11_ruleError_29 : decode cX11_ruleError 29 = .ok (.bipush (-2), 2) := by decide +kernel
theorem dX11_ruleError_31 : decode cX11_ruleError 31 = .ok (.goto 4, 3) := by decide +kernel
theorem dX11_ruleError_34 : decode cX11_ruleError 34 = .ok (.iconst 0, 1) := by decide +kernel
theorem dX11_ruleError_35 : decode cX11_ruleError 35 = .ok (.ireturn, 1) := by decide +kernel
theorem dX11_isInsertable_0 : decode cX11_isInsertable 0 = .ok (.iload_n 2, 1) := by decide +kernel
theorem dX11_isInsertable_1 : decode cX11_isInsertable 1 = .ok (.ifCond .lt 44, 3) := by decide +kernel
theorem dX11_isInsertable_4 : decode cX11_isInsertable 4 = .ok (.iload_n 2, 1) := by decide +kernel
theorem dX11_isInsertable_5 : decode cX11_isInsertable 5 = .ok (.aload_n 0, 1) := by decide +kernel
theorem dX11_isInsertable_6 : decode cX11_isInsertable 6 = .ok (.getfield 14, 3) := by decide +kernel
theorem dX11_isInsertable_9 : decode cX11_isInsertable 9 = .ok (.getfield 142, 3) := by decide +kernel
theorem dX11_isInsertable_12 : decode cX11_isInsertable 12 = .ok (.iload_n 1, 1) := by decide +kernel
theorem dX11_isInsertable_13 : decode cX11_isInsertable 13 = .ok (.aaload, 1) := by decide +kernel
theorem dX11_isInsertable_14 : decode cX11_isInsertable 14 = .ok (.getfield 176, 3) := by decide +kernel
theorem dX11_isInsertable_17 : decode cX11_isInsertable 17 = .ok (.if_icmp .gt 28, 3) := by decide +kernel
theorem dX11_isInsertable_20 : decode cX11_isInsertable 20 = .ok (.iload_n 3, 1) := by decide +kernel
theorem dX11_isInsertable_21 : decode cX11_isInsertable 21 = .ok (.invokestatic 133, 3) := by decide +kernel
theorem dX11_isInsertable_24 : decode cX11_isInsertable 24 = .ok (.ifCond .eq 21, 3) := by decide +kernel
theorem dX11_isInsertable_27 : decode cX11_isInsertable 27 = .ok (.aload_n 0, 1) := by decide +kernel
theorem dX11_isInsertable_28 : decode cX11_isInsertable 28 = .ok (.getfield 14, 3) := by decide +kernel
theorem dX11_isInsertable_31 : decode cX11_isInsertable 31 = .ok (.iload 4, 2) := by decide +kernel
theorem dX11_isInsertable_33 : decode cX11_isInsertable 33 = .ok (.iload 5, 2) := by decide +kernel
theorem dX11_isInsertable_35 : decode cX11_isInsertable 35 = .ok (.invokevirtual 139, 3) := by decide +kernel
theorem dX11_isInsertable_38 : decode cX11_isInsertable 38 = .ok (.ifCond .eq 7, 3) := by decide +kernel
theorem dX11_isInsertable_41 : decode cX11_isInsertable 41 = .ok (.iconst 1, 1) := by decide +kernel
theorem dX11_isInsertable_42 : decode cX11_isInsertable 42 = .ok (.goto 4, 3) := by decide +kernel
theorem dX11_isInsertable_45 : decode cX11_isInsertable 45 = .ok (.iconst 0, 1) := by decide +kernel
theorem dX11_isInsertable_46 : decode cX11_isInsertable 46 = .ok (.ireturn, 1) := by decide +kernel
theorem dX11_insertRule_0 : decode cX11_insertRule 0 = .ok (.aload_n 0, 1) := by decide +kernel
theorem dX11_insertRule_1 : decode cX11_insertRule 1 = .ok (.getfield 14, 3) := by decide +kernel
theorem dX11_insertRule_4 : decode cX11_insertRule 4 = .ok (.getfield 142, 3) := by decide +kernel
theorem dX11_insertRule_7 : decode cX11_insertRule 7 = .ok (.iload_n 1, 1) := by decide +kernel
theorem dX11_insertRule_8 : decode cX11_insertRule 8 = .ok (.aaload, 1) := by decide +kernel
theorem dX11_insertRule_9 : decode cX11_insertRule 9 = .ok (.astore 4, 2) := by decide +kernel
theorem dX11_insertRule_11 : decode cX11_insertRule 11 = .ok (.aload 4, 2) := by decide +kernel
theorem dX11_insertRule_13 : decode cX11_insertRule 13 = .ok (.getfield 176, 3) := by decide +kernel
theorem dX11_insertRule_16 : decode cX11_insertRule 16 = .ok (.bipush 6, 2) := by decide +kernel
theorem dX11_insertRule_18 : decode cX11_insertRule 18 = .ok (.if_icmp .lt 6, 3) := by decide +kernel
theorem dX11_insertRule_21 : decode cX11_insertRule 21 = .ok (.bipush (-5), 2) := by decide +kernel
theorem dX11_insertRule_23 : decode cX11_insertRule 23 = .ok (.ireturn, 1) := by decide +kernel
theorem dX11_insertRule_24 : decode cX11_insertRule 24 = .ok (.aload_n 0, 1) := by decide +kernel
theorem dX11_insertRule_25 : decode cX11_insertRule 25 = .ok (.getfield 21, 3) := by decide +kernel
theorem dX11_insertRule_28 : decode cX11_insertRule 28 = .ok (.iload_n 1, 1) := by decide +kernel
theorem dX11_insertRule_29 : decode cX11_insertRule 29 = .ok (.aload 4, 2) := by decide +kernel
theorem dX11_insertRule_31 : decode cX11_insertRule 31 = .ok (.invokevirtual 169, 3) := by decide +kernel
theorem dX11_insertRule_34 : decode cX11_insertRule 34 = .ok (.aload 4, 2) := by decide +kernel
theorem dX11_insertRule_36 : decode cX11_insertRule 36 = .ok (.iload_n 2, 1) := by decide +kernel
theorem dX11_insertRule_37 : decode cX11_insertRule 37 = .ok (.aload_n 3, 1) := by decide +kernel
theorem dX11_insertRule_38 : decode cX11_insertRule 38 = .ok (.invokevirtual 177, 3) := by decide +kernel
theorem dX11_insertRule_41 : decode cX11_insertRule 41 = .ok (.aload 4, 2) := by decide +kernel
theorem dX11_insertRule_43 : decode cX11_insertRule 43 = .ok (.getfield 176, 3) := by decide +kernel
theorem dX11_insertRule_46 : decode cX11_insertRule 46 = .ok (.ireturn, 1) := by decide +kernel
theorem dX11_replaceRule_0 : decode cX11_replaceRule 0 = .ok (.aload_n 0, 1) := by decide +kernel
theorem dX11_replaceRule_1 : decode cX11_replaceRule 1 = .ok (.getfield 14, 3) := by decide +kernel
theorem dX11_replaceRule_4 : decode cX11_replaceRule 4 = .ok (.getfield 142, 3) := by decide +kernel
theorem dX11_replaceRule_7 : decode cX11_replaceRule 7 = .ok (.iload_n 1, 1) := by decide +kernel
theorem dX11_replaceRule_8 : decode cX11_replaceRule 8 = .ok (.aaload, 1) := by decide +kernel
theorem dX11_replaceRule_9 : decode cX11_replaceRule 9 = .ok (.astore 4, 2) := by decide +kernel
theorem dX11_replaceRule_11 : decode cX11_replaceRule 11 = .ok (.aload_n 0, 1) := by decide +kernel
theorem dX11_replaceRule_12 : decode cX11_replaceRule 12 = .ok (.getfield 21, 3) := by decide +kernel
theorem dX11_replaceRule_15 : decode cX11_replaceRule 15 = .ok (.iload_n 1, 1) := by decide +kernel
theorem dX11_replaceRule_16 : decode cX11_replaceRule 16 = .ok (.aload 4, 2) := by decide +kernel
theorem dX11_replaceRule_18 : decode cX11_replaceRule 18 = .ok (.invokevirtual 169, 3) := by decide +kernel
theorem dX11_replaceRule_21 : decode cX11_replaceRule 21 = .ok (.aload 4, 2) := by decide +kernel
theorem dX11_replaceRule_23 : decode cX11_replaceRule 23 = .ok (.getfield 146, 3) := by decide +kernel
theorem dX11_replaceRule_26 : decode cX11_replaceRule 26 = .ok (.iload_n 2, 1) := by decide +kernel
theorem dX11_replaceRule_27 : decode cX11_replaceRule 27 = .ok (.aload_n 3, 1) := by decide +kernel
theorem dX11_replaceRule_28 : decode cX11_replaceRule 28 = .ok (.aastore, 1) := by decide +kernel
theorem dX11_replaceRule_29 : decode cX11_replaceRule 29 = .ok (.return_, 1) := by decide +kernel
theorem dX11_widestCare_0 : decode cX11_widestCare 0 = .ok (.iconst 1, 1) := by decide +kernel
theorem dX11_widestCare_1 : decode cX11_widestCare 1 = .ok (.aload_n 0, 1) := by decide +kernel
theorem dX11_widestCare_2 : decode cX11_widestCare 2 = .ok (.getfield 14, 3) := by decide +kernel
theorem dX11_widestCare_5 : decode cX11_widestCare 5 = .ok (.getfield 84, 3) := by decide +kernel
theorem dX11_widestCare_8 : decode cX11_widestCare 8 = .ok (.ishl, 1) := by decide +kernel
theorem dX11_widestCare_9 : decode cX11_widestCare 9 = .ok (.iconst 1, 1) := by decide +kernel
theorem dX11_widestCare_10 : decode cX11_widestCare 10 = .ok (.isub, 1) := by decide +kernel
theorem dX11_widestCare_11 : decode cX11_widestCare 11 = .ok (.istore 4, 2) := by decide +kernel
theorem dX11_widestCare_13 : decode cX11_widestCare 13 = .ok (.iconst 0, 1) := by decide +kernel
theorem dX11_widestCare_14 : decode cX11_widestCare 14 = .ok (.istore 5, 2) := by decide +kernel
theorem dX11_widestCare_16 : decode cX11_widestCare 16 = .ok (.iload 5, 2) := by decide +kernel
theorem dX11_widestCare_18 : decode cX11_widestCare 18 = .ok (.aload_n 0, 1) := by decide +kernel
theorem dX11_widestCare_19 : decode cX11_widestCare 19 = .ok (.getfield 14, 3) := by decide +kernel
theorem dX11_widestCare_22 : decode cX11_widestCare 22 = .ok (.getfield 84, 3) := by decide +kernel
theorem dX11_widestCare_25 : decode cX11_widestCare 25 = .ok (.if_icmp .ge 53, 3) := by decide +kernel
theorem dX11_widestCare_28 : decode cX11_widestCare 28 = .ok (.iload 4, 2) := by decide +kernel
theorem dX11_widestCare_30 : decode cX11_widestCare 30 = .ok (.iconst 1, 1) := by decide +kernel
theorem dX11_widestCare_31 : decode cX11_widestCare 31 = .ok (.iload 5, 2) := by decide +kernel
theorem dX11_widestCare_33 : decode cX11_widestCare 33 = .ok (.ishl, 1) := by decide +kernel
theorem dX11_widestCare_34 : decode cX11_widestCare 34 = .ok (.iconst (-1), 1) := by decide +kernel
theorem dX11_widestCare_35 : decode cX11_widestCare 35 = .ok (.ixor, 1) := by decide +kernel
theorem dX11_widestCare_36 : decode cX11_widestCare 36 = .ok (.iand, 1) := by decide +kernel
theorem dX11_widestCare_37 : decode cX11_widestCare 37 = .ok (.istore 6, 2) := by decide +kernel
theorem dX11_widestCare_39 : decode cX11_widestCare 39 = .ok (.aload_n 0, 1) := by decide +kernel
theorem dX11_widestCare_40 : decode cX11_widestCare 40 = .ok (.getfield 14, 3) := by decide +kernel
theorem dX11_widestCare_43 : decode cX11_widestCare 43 = .ok (.invokevirtual 76, 3) := by decide +kernel
theorem dX11_widestCare_46 : decode cX11_widestCare 46 = .ok (.iload 6, 2) := by decide +kernel
theorem dX11_widestCare_48 : decode cX11_widestCare 48 = .ok (.iload_n 1, 1) := by decide +kernel
theorem dX11_widestCare_49 : decode cX11_widestCare 49 = .ok (.invokestatic 208, 3) := by decide +kernel
theorem dX11_widestCare_52 : decode cX11_widestCare 52 = .ok (.land, 1) := by decide +kernel
theorem dX11_widestCare_53 : decode cX11_widestCare 53 = .ok (.lstore 7, 2) := by decide +kernel
theorem dX11_widestCare_55 : decode cX11_widestCare 55 = .ok (.lload 7, 2) := by decide +kernel
theorem dX11_widestCare_57 : decode cX11_widestCare 57 = .ok (.lload_n 2, 1) := by decide +kernel
theorem dX11_widestCare_58 : decode cX11_widestCare 58 = .ok (.ldc2_w 250, 3) := by decide +kernel
theorem dX11_widestCare_61 : decode cX11_widestCare 61 = .ok (.lxor, 1) := by decide +kernel
theorem dX11_widestCare_62 : decode cX11_widestCare 62 = .ok (.land, 1) := by decide +kernel
theorem dX11_widestCare_63 : decode cX11_widestCare 63 = .ok (.lconst 0, 1) := by decide +kernel
theorem dX11_widestCare_64 : decode cX11_widestCare 64 = .ok (.lcmp, 1) := by decide +kernel
theorem dX11_widestCare_65 : decode cX11_widestCare 65 = .ok (.ifCond .ne 7, 3) := by decide +kernel
theorem dX11_widestCare_68 : decode cX11_widestCare 68 = .ok (.iload 6, 2) := by decide +kernel
theorem dX11_widestCare_70 : decode cX11_widestCare 70 = .ok (.istore 4, 2) := by decide +kernel
theorem dX11_widestCare_72 : decode cX11_widestCare 72 = .ok (.iinc 5 1, 3) := by decide +kernel
theorem dX11_widestCare_75 : decode cX11_widestCare 75 = .ok (.goto (-59), 3) := by decide +kernel
theorem dX11_widestCare_78 : decode cX11_widestCare 78 = .ok (.iload 4, 2) := by decide +kernel
theorem dX11_widestCare_80 : decode cX11_widestCare 80 = .ok (.ireturn, 1) := by decide +kernel
theorem dX11_against_0 : decode cX11_against 0 = .ok (.aload_n 0, 1) := by decide +kernel
theorem dX11_against_1 : decode cX11_against 1 = .ok (.getfield 37, 3) := by decide +kernel
theorem dX11_against_4 : decode cX11_against 4 = .ok (.aload_n 1, 1) := by decide +kernel
theorem dX11_against_5 : decode cX11_against 5 = .ok (.getfield 302, 3) := by decide +kernel
theorem dX11_against_8 : decode cX11_against 8 = .ok (.invokevirtual 283, 3) := by decide +kernel
theorem dX11_against_11 : decode cX11_against 11 = .ok (.aload_n 0, 1) := by decide +kernel
theorem dX11_against_12 : decode cX11_against 12 = .ok (.getfield 37, 3) := by decide +kernel
theorem dX11_against_15 : decode cX11_against 15 = .ok (.getfield 286, 3) := by decide +kernel
theorem dX11_against_18 : decode cX11_against 18 = .ok (.aload_n 1, 1) := by decide +kernel
theorem dX11_against_19 : decode cX11_against 19 = .ok (.getfield 299, 3) := by decide +kernel
theorem dX11_against_22 : decode cX11_against 22 = .ok (.laload, 1) := by decide +kernel
theorem dX11_against_23 : decode cX11_against 23 = .ok (.lstore_n 2, 1) := by decide +kernel
theorem dX11_against_24 : decode cX11_against 24 = .ok (.aload_n 1, 1) := by decide +kernel
theorem dX11_against_25 : decode cX11_against 25 = .ok (.getfield 305, 3) := by decide +kernel
theorem dX11_against_28 : decode cX11_against 28 = .ok (.aload_n 1, 1) := by decide +kernel
theorem dX11_against_29 : decode cX11_against 29 = .ok (.getfield 296, 3) := by decide +kernel
theorem dX11_against_32 : decode cX11_against 32 = .ok (.ifCond .eq 11, 3) := by decide +kernel
theorem dX11_against_35 : decode cX11_against 35 = .ok (.lload_n 2, 1) := by decide +kernel
theorem dX11_against_36 : decode cX11_against 36 = .ok (.ldc2_w 250, 3) := by decide +kernel
theorem dX11_against_39 : decode cX11_against 39 = .ok (.lxor, 1) := by decide +kernel
theorem dX11_against_40 : decode cX11_against 40 = .ok (.goto 4, 3) := by decide +kernel
theorem dX11_against_43 : decode cX11_against 43 = .ok (.lload_n 2, 1) := by decide +kernel
theorem dX11_against_44 : decode cX11_against 44 = .ok (.land, 1) := by decide +kernel
theorem dX11_against_45 : decode cX11_against 45 = .ok (.lreturn, 1) := by decide +kernel
