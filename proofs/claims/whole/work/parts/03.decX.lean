theorem dX0_init_0 : decode cX0_init 0 = .ok (.aload_n 0, 1) := by decide +kernel
theorem dX0_init_1 : decode cX0_init 1 = .ok (.invokespecial 3, 3) := by decide +kernel
theorem dX0_init_4 : decode cX0_init 4 = .ok (.aload_n 0, 1) := by decide +kernel
theorem dX0_init_5 : decode cX0_init 5 = .ok (.iconst 3, 1) := by decide +kernel
theorem dX0_init_6 : decode cX0_init 6 = .ok (.newarray .int, 2) := by decide +kernel
theorem dX0_init_8 : decode cX0_init 8 = .ok (.putfield 9, 3) := by decide +kernel
theorem dX0_init_11 : decode cX0_init 11 = .ok (.aload_n 0, 1) := by decide +kernel
theorem dX0_init_12 : decode cX0_init 12 = .ok (.bipush 36, 2) := by decide +kernel
theorem dX0_init_14 : decode cX0_init 14 = .ok (.newarray .long, 2) := by decide +kernel
theorem dX0_init_16 : decode cX0_init 16 = .ok (.putfield 15, 3) := by decide +kernel
theorem dX0_init_19 : decode cX0_init 19 = .ok (.aload_n 0, 1) := by decide +kernel
theorem dX0_init_20 : decode cX0_init 20 = .ok (.sipush 1296, 3) := by decide +kernel
theorem dX0_init_23 : decode cX0_init 23 = .ok (.newarray .long, 2) := by decide +kernel
theorem dX0_init_25 : decode cX0_init 25 = .ok (.putfield 19, 3) := by decide +kernel
theorem dX0_init_28 : decode cX0_init 28 = .ok (.aload_n 0, 1) := by decide +kernel
theorem dX0_init_29 : decode cX0_init 29 = .ok (.sipush 768, 3) := by decide +kernel
theorem dX0_init_32 : decode cX0_init 32 = .ok (.newarray .int, 2) := by decide +kernel
theorem dX0_init_34 : decode cX0_init 34 = .ok (.putfield 22, 3) := by decide +kernel
theorem dX0_init_37 : decode cX0_init 37 = .ok (.aload_n 0, 1) := by decide +kernel
theorem dX0_init_38 : decode cX0_init 38 = .ok (.sipush 768, 3) := by decide +kernel
theorem dX0_init_41 : decode cX0_init 41 = .ok (.newarray .long, 2) := by decide +kernel
theorem dX0_init_43 : decode cX0_init 43 = .ok (.putfield 25, 3) := by decide +kernel
theorem dX0_init_46 : decode cX0_init 46 = .ok (.aload_n 0, 1) := by decide +kernel
theorem dX0_init_47 : decode cX0_init 47 = .ok (.bipush 24, 2) := by decide +kernel
theorem dX0_init_49 : decode cX0_init 49 = .ok (.newarray .long, 2) := by decide +kernel
theorem dX0_init_51 : decode cX0_init 51 = .ok (.putfield 28, 3) := by decide +kernel
theorem dX0_init_54 : decode cX0_init 54 = .ok (.aload_n 0, 1) := by decide +kernel
theorem dX0_init_55 : decode cX0_init 55 = .ok (.aload_n 1, 1) := by decide +kernel
theorem dX0_init_56 : decode cX0_init 56 = .ok (.putfield 31, 3) := by decide +kernel
theorem dX0_init_59 : decode cX0_init 59 = .ok (.return_, 1) := by decide +kernel
theorem dX0_smallest_0 : decode cX0_smallest 0 = .ok (.aload_n 0, 1) := by decide +kernel
theorem dX0_smallest_1 : decode cX0_smallest 1 = .ok (.iload_n 1, 1) := by decide +kernel
theorem dX0_smallest_2 : decode cX0_smallest 2 = .ok (.putfield 35, 3) := by decide +kernel
theorem dX0_smallest_5 : decode cX0_smallest 5 = .ok (.aload_n 0, 1) := by decide +kernel
theorem dX0_smallest_6 : decode cX0_smallest 6 = .ok (.lload_n 2, 1) := by decide +kernel
theorem dX0_smallest_7 : decode cX0_smallest 7 = .ok (.putfield 39, 3) := by decide +kernel
theorem dX0_smallest_10 : decode cX0_smallest 10 = .ok (.aload_n 0, 1) := by decide +kernel
theorem dX0_smallest_11 : decode cX0_smallest 11 = .ok (.iload 4, 2) := by decide +kernel
theorem dX0_smallest_13 : decode cX0_smallest 13 = .ok (.putfield 43, 3) := by decide +kernel
theorem dX0_smallest_16 : decode cX0_smallest 16 = .ok (.aload_n 0, 1) := by decide +kernel
theorem dX0_smallest_17 : decode cX0_smallest 17 = .ok (.lconst 0, 1) := by decide +kernel
theorem dX0_smallest_18 : decode cX0_smallest 18 = .ok (.invokevirtual 46, 3) := by decide +kernel
theorem dX0_smallest_21 : decode cX0_smallest 21 = .ok (.lstore 5, 2) := by decide +kernel
theorem dX0_smallest_23 : decode cX0_smallest 23 = .ok (.lload 5, 2) := by decide +kernel
theorem dX0_smallest_25 : decode cX0_smallest 25 = .ok (.lconst 0, 1) := by decide +kernel
theorem dX0_smallest_26 : decode cX0_smallest 26 = .ok (.lcmp, 1) := by decide +kernel
theorem dX0_smallest_27 : decode cX0_smallest 27 = .ok (.ifCond .ne 5, 3) := by decide +kernel
theorem dX0_smallest_30 : decode cX0_smallest 30 = .ok (.iconst 0, 1) := by decide +kernel
theorem dX0_smallest_31 : decode cX0_smallest 31 = .ok (.ireturn, 1) := by decide +kernel
theorem dX0_smallest_32 : decode cX0_smallest 32 = .ok (.aload_n 0, 1) := by decide +kernel
theorem dX0_smallest_33 : decode cX0_smallest 33 = .ok (.lload 5, 2) := by decide +kernel
theorem dX0_smallest_35 : decode cX0_smallest 35 = .ok (.invokevirtual 50, 3) := by decide +kernel
theorem dX0_smallest_38 : decode cX0_smallest 38 = .ok (.ifCond .eq 5, 3) := by decide +kernel
theorem dX0_smallest_41 : decode cX0_smallest 41 = .ok (.iconst 1, 1) := by decide +kernel
theorem dX0_smallest_42 : decode cX0_smallest 42 = .ok (.ireturn, 1) := by decide +kernel
theorem dX0_smallest_43 : decode cX0_smallest 43 = .ok (.aload_n 0, 1) := by decide +kernel
theorem dX0_smallest_44 : decode cX0_smallest 44 = .ok (.invokevirtual 54, 3) := by decide +kernel
theorem dX0_smallest_47 : decode cX0_smallest 47 = .ok (.ifCond .eq 5, 3) := by decide +kernel
theorem dX0_smallest_50 : decode cX0_smallest 50 = .ok (.iconst 2, 1) := by decide +kernel
theorem dX0_smallest_51 : decode cX0_smallest 51 = .ok (.ireturn, 1) := by decide +kernel
theorem dX0_smallest_52 : decode cX0_smallest 52 = .ok (.aload_n 0, 1) := by decide +kernel
theorem dX0_smallest_53 : decode cX0_smallest 53 = .ok (.invokevirtual 58, 3) := by decide +kernel
theorem dX0_smallest_56 : decode cX0_smallest 56 = .ok (.ifCond .eq 7, 3) := by decide +kernel
theorem dX0_smallest_59 : decode cX0_smallest 59 = .ok (.iconst 3, 1) := by decide +kernel
theorem dX0_smallest_60 : decode cX0_smallest 60 = .ok (.goto 5, 3) := by decide +kernel
theorem dX0_smallest_63 : decode cX0_smallest 63 = .ok (.bipush (-6), 2) := by decide +kernel
theorem dX0_smallest_65 : decode cX0_smallest 65 = .ok (.ireturn, 1) := by decide +kernel
theorem dX0_cutByOne_0 : decode cX0_cutByOne 0 = .ok (.iconst 0, 1) := by decide +kernel
theorem dX0_cutByOne_1 : decode cX0_cutByOne 1 = .ok (.istore_n 3, 1) := by decide +kernel
theorem dX0_cutByOne_2 : decode cX0_cutByOne 2 = .ok (.iload_n 3, 1) := by decide +kernel
theorem dX0_cutByOne_3 : decode cX0_cutByOne 3 = .ok (.bipush 36, 2) := by decide +kernel
theorem dX0_cutByOne_5 : decode cX0_cutByOne 5 = .ok (.if_icmp .ge 54, 3) := by decide +kernel
theorem dX0_cutByOne_8 : decode cX0_cutByOne 8 = .ok (.aload_n 0, 1) := by decide +kernel
theorem dX0_cutByOne_9 : decode cX0_cutByOne 9 = .ok (.getfield 15, 3) := by decide +kernel
theorem dX0_cutByOne_12 : decode cX0_cutByOne 12 = .ok (.iload_n 3, 1) := by decide +kernel
theorem dX0_cutByOne_13 : decode cX0_cutByOne 13 = .ok (.lload_n 1, 1) := by decide +kernel
theorem dX0_cutByOne_14 : decode cX0_cutByOne 14 = .ok (.iload_n 3, 1) := by decide +kernel
theorem dX0_cutByOne_15 : decode cX0_cutByOne 15 = .ok (.invokestatic 61, 3) := by decide +kernel
theorem dX0_cutByOne_18 : decode cX0_cutByOne 18 = .ok (.ifCond .eq 13, 3) := by decide +kernel
theorem dX0_cutByOne_21 : decode cX0_cutByOne 21 = .ok (.aload_n 0, 1) := by decide +kernel
theorem dX0_cutByOne_22 : decode cX0_cutByOne 22 = .ok (.lconst 1, 1) := by decide +kernel
theorem dX0_cutByOne_23 : decode cX0_cutByOne 23 = .ok (.iload_n 3, 1) := by decide +kernel
theorem dX0_cutByOne_24 : decode cX0_cutByOne 24 = .ok (.lshl, 1) := by decide +kernel
theorem dX0_cutByOne_25 : decode cX0_cutByOne 25 = .ok (.invokevirtual 46, 3) := by decide +kernel
theorem dX0_cutByOne_28 : decode cX0_cutByOne 28 = .ok (.goto 4, 3) := by decide +kernel
theorem dX0_cutByOne_31 : decode cX0_cutByOne 31 = .ok (.lload_n 1, 1) := by decide +kernel
theorem dX0_cutByOne_32 : decode cX0_cutByOne 32 = .ok (.lastore, 1) := by decide +kernel
theorem dX0_cutByOne_33 : decode cX0_cutByOne 33 = .ok (.aload_n 0, 1) := by decide +kernel
theorem dX0_cutByOne_34 : decode cX0_cutByOne 34 = .ok (.getfield 15, 3) := by decide +kernel
theorem dX0_cutByOne_37 : decode cX0_cutByOne 37 = .ok (.iload_n 3, 1) := by decide +kernel
theorem dX0_cutByOne_38 : decode cX0_cutByOne 38 = .ok (.laload, 1) := by decide +kernel
theorem dX0_cutByOne_39 : decode cX0_cutByOne 39 = .ok (.lconst 0, 1) := by decide +kernel
theorem dX0_cutByOne_40 : decode cX0_cutByOne 40 = .ok (.lcmp, 1) := by decide +kernel
theorem dX0_cutByOne_41 : decode cX0_cutByOne 41 = .ok (.ifCond .ne 12, 3) := by decide +kernel
theorem dX0_cutByOne_44 : decode cX0_cutByOne 44 = .ok (.aload_n 0, 1) := by decide +kernel
theorem dX0_cutByOne_45 : decode cX0_cutByOne 45 = .ok (.getfield 9, 3) := by decide +kernel
theorem dX0_cutByOne_48 : decode cX0_cutByOne 48 = .ok (.iconst 0, 1) := by decide +kernel
theorem dX0_cutByOne_49 : decode cX0_cutByOne 49 = .ok (.iload_n 3, 1) := by decide +kernel
theorem dX0_cutByOne_50 : decode cX0_cutByOne 50 = .ok (.iastore, 1) := by decide +kernel
theorem dX0_cutByOne_51 : decode cX0_cutByOne 51 = .ok (.iconst 1, 1) := by decide +kernel
theorem dX0_cutByOne_52 : decode cX0_cutByOne 52 = .ok (.ireturn, 1) := by decide +kernel
theorem dX0_cutByOne_53 : decode cX0_cutByOne 53 = .ok (.iinc 3 1, 3) := by decide +kernel
theorem dX0_cutByOne_56 : decode cX0_cutByOne 56 = .ok (.goto (-54), 3) := by decide +kernel
theorem dX0_cutByOne_59 : decode cX0_cutByOne 59 = .ok (.iconst 0, 1) := by decide +kernel
theorem dX0_cutByOne_60 : decode cX0_cutByOne 60 = .ok (.ireturn, 1) := by decide +kernel
theorem dX0_cutByTwo_0 : decode cX0_cutByTwo 0 = .ok (.iconst 0, 1) := by decide +kernel
theorem dX0_cutByTwo_1 : decode cX0_cutByTwo 1 = .ok (.istore_n 1, 1) := by decide +kernel
theorem dX0_cutByTwo_2 : decode cX0_cutByTwo 2 = .ok (.iload_n 1, 1) := by decide +kernel
theorem dX0_cutByTwo_3 : decode cX0_cutByTwo 3 = .ok (.bipush 36, 2) := by decide +kernel
theorem dX0_cutByTwo_5 : decode cX0_cutByTwo 5 = .ok (.if_icmp .ge 84, 3) := by decide +kernel
theorem dX0_cutByTwo_8 : decode cX0_cutByTwo 8 = .ok (.iload_n 1, 1) := by decide +kernel
theorem dX0_cutByTwo_9 : decode cX0_cutByTwo 9 = .ok (.iconst 1, 1) := by decide +kernel
theorem dX0_cutByTwo_10 : decode cX0_cutByTwo 10 = .ok (.iadd, 1) := by decide +kernel
theorem dX0_cutByTwo_11 : decode cX0_cutByTwo 11 = .ok (.istore_n 2, 1) := by decide +kernel
theorem dX0_cutByTwo_12 : decode cX0_cutByTwo 12 = .ok (.iload_n 2, 1) := by decide +kernel
theorem dX0_cutByTwo_13 : decode cX0_cutByTwo 13 = .ok (.bipush 36, 2) := by decide +kernel
theorem dX0_cutByTwo_15 : decode cX0_cutByTwo 15 = .ok (.if_icmp .ge 68, 3) := by decide +kernel
theorem dX0_cutByTwo_18 : decode cX0_cutByTwo 18 = .ok (.aload_n 0, 1) := by decide +kernel
theorem dX0_cutByTwo_19 : decode cX0_cutByTwo 19 = .ok (.iload_n 1, 1) := by decide +kernel
theorem dX0_cutByTwo_20 : decode cX0_cutByTwo 20 = .ok (.iload_n 2, 1) := by decide +kernel
theorem dX0_cutByTwo_21 : decode cX0_cutByTwo 21 = .ok (.invokevirtual 65, 3) := by decide +kernel
theorem dX0_cutByTwo_24 : decode cX0_cutByTwo 24 = .ok (.lstore_n 3, 1) := by decide +kernel
theorem dX0_cutByTwo_25 : decode cX0_cutByTwo 25 = .ok (.lload_n 3, 1) := by decide +kernel
theorem dX0_cutByTwo_26 : decode cX0_cutByTwo 26 = .ok (.lconst 0, 1) := by decide +kernel
theorem dX0_cutByTwo_27 : decode cX0_cutByTwo 27 = .ok (.lcmp, 1) := by decide +kernel
theorem dX0_cutByTwo_28 : decode cX0_cutByTwo 28 = .ok (.ifCond .ne 15, 3) := by decide +kernel
theorem dX0_cutByTwo_31 : decode cX0_cutByTwo 31 = .ok (.aload_n 0, 1) := by decide +kernel
theorem dX0_cutByTwo_32 : decode cX0_cutByTwo 32 = .ok (.lconst 1, 1) := by decide +kernel
theorem dX0_cutByTwo_33 : decode cX0_cutByTwo 33 = .ok (.iload_n 1, 1) := by decide +kernel
theorem dX0_cutByTwo_34 : decode cX0_cutByTwo 34 = .ok (.lshl, 1) := by decide +kernel
theorem dX0_cutByTwo_35 : decode cX0_cutByTwo 35 = .ok (.lconst 1, 1) := by decide +kernel
theorem dX0_cutByTwo_36 : decode cX0_cutByTwo 36 = .ok (.iload_n 2, 1) := by decide +kernel
theorem dX0_cutByTwo_37 : decode cX0_cutByTwo 37 = .ok (.lshl, 1) := by decide +kernel
theorem dX0_cutByTwo_38 : decode cX0_cutByTwo 38 = .ok (.lor, 1) := by decide +kernel
theorem dX0_cutByTwo_39 : decode cX0_cutByTwo 39 = .ok (.invokevirtual 46, 3) := by decide +kernel
theorem dX0_cutByTwo_42 : decode cX0_cutByTwo 42 = .ok (.lstore_n 3, 1) := by decide +kernel
theorem dX0_cutByTwo_43 : decode cX0_cutByTwo 43 = .ok (.lload_n 3, 1) := by decide +kernel
theorem dX0_cutByTwo_44 : decode cX0_cutByTwo 44 = .ok (.lconst 0, 1) := by decide +kernel
theorem dX0_cutByTwo_45 : decode cX0_cutByTwo 45 = .ok (.lcmp, 1) := by decide +kernel
theorem dX0_cutByTwo_46 : decode cX0_cutByTwo 46 = .ok (.ifCond .ne 19, 3) := by decide +kernel
theorem dX0_cutByTwo_49 : decode cX0_cutByTwo 49 = .ok (.aload_n 0, 1) := by decide +kernel
theorem dX0_cutByTwo_50 : decode cX0_cutByTwo 50 = .ok (.getfield 9, 3) := by decide +kernel
theorem dX0_cutByTwo_53 : decode cX0_cutByTwo 53 = .ok (.iconst 0, 1) := by decide +kernel
theorem dX0_cutByTwo_54 : decode cX0_cutByTwo 54 = .ok (.iload_n 1, 1) := by decide +kernel
theorem dX0_cutByTwo_55 : decode cX0_cutByTwo 55 = .ok (.iastore, 1) := by decide +kernel
theorem dX0_cutByTwo_56 : decode cX0_cutByTwo 56 = .ok (.aload_n 0, 1) := by decide +kernel
theorem dX0_cutByTwo_57 : decode cX0_cutByTwo 57 = .ok (.getfield 9, 3) := by decide +kernel
theorem dX0_cutByTwo_60 : decode cX0_cutByTwo 60 = .ok (.iconst 1, 1) := by decide +kernel
theorem dX0_cutByTwo_61 : decode cX0_cutByTwo 61 = .ok (.iload_n 2, 1) := by decide +kernel
theorem dX0_cutByTwo_62 : decode cX0_cutByTwo 62 = .ok (.iastore, 1) := by decide +kernel
theorem dX0_cutByTwo_63 : decode cX0_cutByTwo 63 = .ok (.iconst 1, 1) := by decide +kernel
theorem dX0_cutByTwo_64 : decode cX0_cutByTwo 64 = .ok (.ireturn, 1) := by decide +kernel
theorem dX0_cutByTwo_65 : decode cX0_cutByTwo 65 = .ok (.aload_n 0, 1) := by decide +kernel
theorem dX0_cutByTwo_66 : decode cX0_cutByTwo 66 = .ok (.getfield 19, 3) := by decide +kernel
theorem dX0_cutByTwo_69 : decode cX0_cutByTwo 69 = .ok (.iload_n 1, 1) := by decide +kernel
theorem dX0_cutByTwo_70 : decode cX0_cutByTwo 70 = .ok (.bipush 36, 2) := by decide +kernel
theorem dX0_cutByTwo_72 : decode cX0_cutByTwo 72 = .ok (.imul, 1) := by decide +kernel
theorem dX0_cutByTwo_73 : decode cX0_cutByTwo 73 = .ok (.iload_n 2, 1) := by decide +kernel
theorem dX0_cutByTwo_74 : decode cX0_cutByTwo 74 = .ok (.iadd, 1) := by decide +kernel
theorem dX0_cutByTwo_75 : decode cX0_cutByTwo 75 = .ok (.lload_n 3, 1) := by decide +kernel
theorem dX0_cutByTwo_76 : decode cX0_cutByTwo 76 = .ok (.lastore, 1) := by decide +kernel
theorem dX0_cutByTwo_77 : decode cX0_cutByTwo 77 = .ok (.iinc 2 1, 3) := by decide +kernel
theorem dX0_cutByTwo_80 : decode cX0_cutByTwo 80 = .ok (.goto (-68), 3) := by decide +kernel
theorem dX0_cutByTwo_83 : decode cX0_cutByTwo 83 = .ok (.iinc 1 1, 3) := by decide +kernel
theorem dX0_cutByTwo_86 : decode cX0_cutByTwo 86 = .ok (.goto (-84), 3) := by decide +kernel
theorem dX0_cutByTwo_89 : decode cX0_cutByTwo 89 = .ok (.iconst 0, 1) := by decide +kernel
theorem dX0_cutByTwo_90 : decode cX0_cutByTwo 90 = .ok (.ireturn, 1) := by decide +kernel
theorem dX0_cutByThree_0 : decode cX0_cutByThree 0 = .ok (.iconst 0, 1) := by decide +kernel
theorem dX0_cutByThree_1 : decode cX0_cutByThree 1 = .ok (.istore_n 1, 1) := by decide +kernel
theorem dX0_cutByThree_2 : decode cX0_cutByThree 2 = .ok (.iload_n 1, 1) := by decide +kernel
theorem dX0_cutByThree_3 : decode cX0_cutByThree 3 = .ok (.bipush 36, 2) := by decide +kernel
theorem dX0_cutByThree_5 : decode cX0_cutByThree 5 = .ok (.if_icmp .ge 120, 3) := by decide +kernel
theorem dX0_cutByThree_8 : decode cX0_cutByThree 8 = .ok (.iload_n 1, 1) := by decide +kernel
theorem dX0_cutByThree_9 : decode cX0_cutByThree 9 = .ok (.iconst 1, 1) := by decide +kernel
theorem dX0_cutByThree_10 : decode cX0_cutByThree 10 = .ok (.iadd, 1) := by decide +kernel
theorem dX0_cutByThree_11 : decode cX0_cutByThree 11 = .ok (.istore_n 2, 1) := by decide +kernel
theorem dX0_cutByThree_12 : decode cX0_cutByThree 12 = .ok (.iload_n 2, 1) := by decide +kernel
theorem dX0_cutByThree_13 : decode cX0_cutByThree 13 = .ok (.bipush 36, 2) := by decide +kernel
theorem dX0_cutByThree_15 : decode cX0_cutByThree 15 = .ok (.if_icmp .ge 104, 3) := by decide +kernel
theorem dX0_cutByThree_18 : decode cX0_cutByThree 18 = .ok (.aload_n 0, 1) := by decide +kernel
theorem dX0_cutByThree_19 : decode cX0_cutByThree 19 = .ok (.getfield 19, 3) := by decide +kernel
theorem dX0_cutByThree_22 : decode cX0_cutByThree 22 = .ok (.iload_n 1, 1) := by decide +kernel
theorem dX0_cutByThree_23 : decode cX0_cutByThree 23 = .ok (.bipush 36, 2) := by decide +kernel
theorem dX0_cutByThree_25 : decode cX0_cutByThree 25 = .ok (.imul, 1) := by decide +kernel
theorem dX0_cutByThree_26 : decode cX0_cutByThree 26 = .ok (.iload_n 2, 1) := by decide +kernel
theorem dX0_cutByThree_27 : decode cX0_cutByThree 27 = .ok (.iadd, 1) := by decide +kernel
theorem dX0_cutByThree_28 : decode cX0_cutByThree 28 = .ok (.laload, 1) := by decide +kernel
theorem dX0_cutByThree_29 : decode cX0_cutByThree 29 = .ok (.lstore_n 3, 1) := by decide +kernel
theorem dX0_cutByThree_30 : decode cX0_cutByThree 30 = .ok (.iload_n 2, 1) := by decide +kernel
theorem dX0_cutByThree_31 : decode cX0_cutByThree 31 = .ok (.iconst 1, 1) := by decide +kernel
theorem dX0_cutByThree_32 : decode cX0_cutByThree 32 = .ok (.iadd, 1) := by decide +kernel
theorem dX0_cutByThree_33 : decode cX0_cutByThree 33 = .ok (.istore 5, 2) := by decide +kernel
theorem dX0_cutByThree_35 : decode cX0_cutByThree 35 = .ok (.iload 5, 2) := by decide +kernel
theorem dX0_cutByThree_37 : decode cX0_cutByThree 37 = .ok (.bipush 36, 2) := by decide +kernel
theorem dX0_cutByThree_39 : decode cX0_cutByThree 39 = .ok (.if_icmp .ge 74, 3) := by decide +kernel
theorem dX0_cutByThree_42 : decode cX0_cutByThree 42 = .ok (.lload_n 3, 1) := by decide +kernel
theorem dX0_cutByThree_43 : decode cX0_cutByThree 43 = .ok (.iload 5, 2) := by decide +kernel
theorem dX0_cutByThree_45 : decode cX0_cutByThree 45 = .ok (.lushr, 1) := by decide +kernel
theorem dX0_cutByThree_46 : decode cX0_cutByThree 46 = .ok (.lconst 0, 1) := by decide +kernel
theorem dX0_cutByThree_47 : decode cX0_cutByThree 47 = .ok (.lcmp, 1) := by decide +kernel
theorem dX0_cutByThree_48 : decode cX0_cutByThree 48 = .ok (.ifCond .eq 65, 3) := by decide +kernel
theorem dX0_cutByThree_51 : decode cX0_cutByThree 51 = .ok (.aload_n 0, 1) := by decide +kernel
theorem dX0_cutByThree_52 : decode cX0_cutByThree 52 = .ok (.iload_n 1, 1) := by decide +kernel
theorem dX0_cutByThree_53 : decode cX0_cutByThree 53 = .ok (.iload_n 2, 1) := by decide +kernel
theorem dX0_cutByThree_54 : decode cX0_cutByThree 54 = .ok (.iload 5, 2) := by decide +kernel
theorem dX0_cutByThree_56 : decode cX0_cutByThree 56 = .ok (.invokevirtual 69, 3) := by decide +kernel
theorem dX0_cutByThree_59 : decode cX0_cutByThree 59 = .ok (.ifCond .eq 48, 3) := by decide +kernel
theorem dX0_cutByThree_62 : decode cX0_cutByThree 62 = .ok (.aload_n 0, 1) := by decide +kernel
theorem dX0_cutByThree_63 : decode cX0_cutByThree 63 = .ok (.lconst 1, 1) := by decide +kernel
theorem dX0_cutByThree_64 : decode cX0_cutByThree 64 = .ok (.iload_n 1, 1) := by decide +kernel
theorem dX0_cutByThree_65 : decode cX0_cutByThree 65 = .ok (.lshl, 1) := by decide +kernel
theorem dX0_cutByThree_66 : decode cX0_cutByThree 66 = .ok (.lconst 1, 1) := by decide +kernel
theorem dX0_cutByThree_67 : decode cX0_cutByThree 67 = .ok (.iload_n 2, 1) := by decide +kernel
theorem dX0_cutByThree_68 : decode cX0_cutByThree 68 = .ok (.lshl, 1) := by decide +kernel
theorem dX0_cutByThree_69 : decode cX0_cutByThree 69 = .ok (.lor, 1) := by decide +kernel
theorem dX0_cutByThree_70 : decode cX0_cutByThree 70 = .ok (.lconst 1, 1) := by decide +kernel
theorem dX0_cutByThree_71 : decode cX0_cutByThree 71 = .ok (.iload 5, 2) := by decide +kernel
theorem dX0_cutByThree_73 : decode cX0_cutByThree 73 = .ok (.lshl, 1) := by decide +kernel
theorem dX0_cutByThree_74 : decode cX0_cutByThree 74 = .ok (.lor, 1) := by decide +kernel
theorem dX0_cutByThree_75 : decode cX0_cutByThree 75 = .ok (.invokevirtual 46, 3) := by decide +kernel
theorem dX0_cutByThree_78 : decode cX0_cutByThree 78 = .ok (.lconst 0, 1) := by decide +kernel
theorem dX0_cutByThree_79 : decode cX0_cutByThree 79 = .ok (.lcmp, 1) := by decide +kernel
theorem dX0_cutByThree_80 : decode cX0_cutByThree 80 = .ok (.ifCond .ne 27, 3) := by decide +kernel
theorem dX0_cutByThree_83 : decode cX0_cutByThree 83 = .ok (.aload_n 0, 1) := by decide +kernel
theorem dX0_cutByThree_84 : decode cX0_cutByThree 84 = .ok (.getfield 9, 3) := by decide +kernel
theorem dX0_cutByThree_87 : decode cX0_cutByThree 87 = .ok (.iconst 0, 1) := by decide +kernel
theorem dX0_cutByThree_88 : decode cX0_cutByThree 88 = .ok (.iload_n 1, 1) := by decide +kernel
theorem dX0_cutByThree_89 : decode cX0_cutByThree 89 = .ok (.iastore, 1) := by decide +kernel
theorem dX0_cutByThree_90 : decode cX0_cutByThree 90 = .ok (.aload_n 0, 1) := by decide +kernel
theorem dX0_cutByThree_91 : decode cX0_cutByThree 91 = .ok (.getfield 9, 3) := by decide +kernel
theorem dX0_cutByThree_94 : decode cX0_cutByThree 94 = .ok (.iconst 1, 1) := by decide +kernel
theorem dX0_cutByThree_95 : decode cX0_cutByThree 95 = .ok (.iload_n 2, 1) := by decide +kernel
theorem dX0_cutByThree_96 : decode cX0_cutByThree 96 = .ok (.iastore, 1) := by decide +kernel
theorem dX0_cutByThree_97 : decode cX0_cutByThree 97 = .ok (.aload_n 0, 1) := by decide +kernel
theorem dX0_cutByThree_98 : decode cX0_cutByThree 98 = .ok (.getfield 9, 3) := by decide +kernel
theorem dX0_cutByThree_101 : decode cX0_cutByThree 101 = .ok (.iconst 2, 1) := by decide +kernel
theorem dX0_cutByThree_102 : decode cX0_cutByThree 102 = .ok (.iload 5, 2) := by decide +kernel
theorem dX0_cutByThree_104 : decode cX0_cutByThree 104 = .ok (.iastore, 1) := by decide +kernel
theorem dX0_cutByThree_105 : decode cX0_cutByThree 105 = .ok (.iconst 1, 1) := by decide +kernel
theorem dX0_cutByThree_106 : decode cX0_cutByThree 106 = .ok (.ireturn, 1) := by decide +kernel
theorem dX0_cutByThree_107 : decode cX0_cutByThree 107 = .ok (.iinc 5 1, 3) := by decide +kernel
theorem dX0_cutByThree_110 : decode cX0_cutByThree 110 = .ok (.goto (-75), 3) := by decide +kernel
theorem dX0_cutByThree_113 : decode cX0_cutByThree 113 = .ok (.iinc 2 1, 3) := by decide +kernel
theorem dX0_cutByThree_116 : decode cX0_cutByThree 116 = .ok (.goto (-104), 3) := by decide +kernel
theorem dX0_cutByThree_119 : decode cX0_cutByThree 119 = .ok (.iinc 1 1, 3) := by decide +kernel
theorem dX0_cutByThree_122 : decode cX0_cutByThree 122 = .ok (.goto (-120), 3) := by decide +kernel
theorem dX0_cutByThree_125 : decode cX0_cutByThree 125 = .ok (.iconst 0, 1) := by decide +kernel
theorem dX0_cutByThree_126 : decode cX0_cutByThree 126 = .ok (.ireturn, 1) := by decide +kernel
theorem dX0_knownWay_0 : decode cX0_knownWay 0 = .ok (.aload_n 0, 1) := by decide +kernel
theorem dX0_knownWay_1 : decode cX0_knownWay 1 = .ok (.getfield 15, 3) := by decide +kernel
theorem dX0_knownWay_4 : decode cX0_knownWay 4 = .ok (.iload_n 1, 1) := by decide +kernel
theorem dX0_knownWay_5 : decode cX0_knownWay 5 = .ok (.laload, 1) := by decide +kernel
theorem dX0_knownWay_6 : decode cX0_knownWay 6 = .ok (.iload_n 2, 1) := by decide +kernel
theorem dX0_knownWay_7 : decode cX0_knownWay 7 = .ok (.invokestatic 61, 3) := by decide +kernel
theorem dX0_knownWay_10 : decode cX0_knownWay 10 = .ok (.ifCond .ne 10, 3) := by decide +kernel
theorem dX0_knownWay_13 : decode cX0_knownWay 13 = .ok (.aload_n 0, 1) := by decide +kernel
theorem dX0_knownWay_14 : decode cX0_knownWay 14 = .ok (.getfield 15, 3) := by decide +kernel
theorem dX0_knownWay_17 : decode cX0_knownWay 17 = .ok (.iload_n 1, 1) := by decide +kernel
theorem dX0_knownWay_18 : decode cX0_knownWay 18 = .ok (.laload, 1) := by decide +kernel
theorem dX0_knownWay_19 : decode cX0_knownWay 19 = .ok (.lreturn, 1) := by decide +kernel
theorem dX0_knownWay_20 : decode cX0_knownWay 20 = .ok (.aload_n 0, 1) := by decide +kernel
theorem dX0_knownWay_21 : decode cX0_knownWay 21 = .ok (.getfield 15, 3) := by decide +kernel
theorem dX0_knownWay_24 : decode cX0_knownWay 24 = .ok (.iload_n 2, 1) := by decide +kernel
theorem dX0_knownWay_25 : decode cX0_knownWay 25 = .ok (.laload, 1) := by decide +kernel
theorem dX0_knownWay_26 : decode cX0_knownWay 26 = .ok (.iload_n 1, 1) := by decide +kernel
theorem dX0_knownWay_27 : decode cX0_knownWay 27 = .ok (.invokestatic 61, 3) := by decide +kernel
theorem dX0_knownWay_30 : decode cX0_knownWay 30 = .ok (.ifCond .eq 7, 3) := by decide +kernel
theorem dX0_knownWay_33 : decode cX0_knownWay 33 = .ok (.lconst 0, 1) := by decide +kernel
theorem dX0_knownWay_34 : decode cX0_knownWay 34 = .ok (.goto 9, 3) := by decide +kernel
theorem dX0_knownWay_37 : decode cX0_knownWay 37 = .ok (.aload_n 0, 1) := by decide +kernel
theorem dX0_knownWay_38 : decode cX0_knownWay 38 = .ok (.getfield 15, 3) := by decide +kernel
theorem dX0_knownWay_41 : decode cX0_knownWay 41 = .ok (.iload_n 2, 1) := by decide +kernel
theorem dX0_knownWay_42 : decode cX0_knownWay 42 = .ok (.laload, 1) := by decide +kernel
theorem dX0_knownWay_43 : decode cX0_knownWay 43 = .ok (.lreturn, 1) := by decide +kernel
theorem dX0_isWorthTrying_0 : decode cX0_isWorthTrying 0 = .ok (.aload_n 0, 1) := by decide +kernel
theorem dX0_isWorthTrying_1 : decode cX0_isWorthTrying 1 = .ok (.getfield 19, 3) := by decide +kernel
theorem dX0_isWorthTrying_4 : decode cX0_isWorthTrying 4 = .ok (.iload_n 1, 1) := by decide +kernel
theorem dX0_isWorthTrying_5 : decode cX0_isWorthTrying 5 = .ok (.bipush 36, 2) := by decide +kernel
theorem dX0_isWorthTrying_7 : decode cX0_isWorthTrying 7 = .ok (.imul, 1) := by decide +kernel
theorem dX0_isWorthTrying_8 : decode cX0_isWorthTrying 8 = .ok (.iload_n 2, 1) := by decide +kernel
theorem dX0_isWorthTrying_9 : decode cX0_isWorthTrying 9 = .ok (.iadd, 1) := by decide +kernel
theorem dX0_isWorthTrying_10 : decode cX0_isWorthTrying 10 = .ok (.laload, 1) := by decide +kernel
theorem dX0_isWorthTrying_11 : decode cX0_isWorthTrying 11 = .ok (.iload_n 3, 1) := by decide +kernel
theorem dX0_isWorthTrying_12 : decode cX0_isWorthTrying 12 = .ok (.invokestatic 61, 3) := by decide +kernel
theorem dX0_isWorthTrying_15 : decode cX0_isWorthTrying 15 = .ok (.ifCond .eq 43, 3) := by decide +kernel
theorem dX0_isWorthTrying_18 : decode cX0_isWorthTrying 18 = .ok (.aload_n 0, 1) := by decide +kernel
theorem dX0_isWorthTrying_19 : decode cX0_isWorthTrying 19 = .ok (.getfield 19, 3) := by decide +kernel
theorem dX0_isWorthTrying_22 : decode cX0_isWorthTrying 22 = .ok (.iload_n 1, 1) := by decide +kernel
theorem dX0_isWorthTrying_23 : decode cX0_isWorthTrying 23 = .ok (.bipush 36, 2) := by decide +kernel
theorem dX0_isWorthTrying_25 : decode cX0_isWorthTrying 25 = .ok (.imul, 1) := by decide +kernel
theorem dX0_isWorthTrying_26 : decode cX0_isWorthTrying 26 = .ok (.iload_n 3, 1) := by decide +kernel
theorem dX0_isWorthTrying_27 : decode cX0_isWorthTrying 27 = .ok (.iadd, 1) := by decide +kernel
theorem dX0_isWorthTrying_28 : decode cX0_isWorthTrying 28 = .ok (.laload, 1) := by decide +kernel
theorem dX0_isWorthTrying_29 : decode cX0_isWorthTrying 29 = .ok (.iload_n 2, 1) := by decide +kernel
theorem dX0_isWorthTrying_30 : decode cX0_isWorthTrying 30 = .ok (.invokestatic 61, 3) := by decide +kernel
theorem dX0_isWorthTrying_33 : decode cX0_isWorthTrying 33 = .ok (.ifCond .eq 25, 3) := by decide +kernel
theorem dX0_isWorthTrying_36 : decode cX0_isWorthTrying 36 = .ok (.aload_n 0, 1) := by decide +kernel
theorem dX0_isWorthTrying_37 : decode cX0_isWorthTrying 37 = .ok (.getfield 19, 3) := by decide +kernel
theorem dX0_isWorthTrying_40 : decode cX0_isWorthTrying 40 = .ok (.iload_n 2, 1) := by decide +kernel
theorem dX0_isWorthTrying_41 : decode cX0_isWorthTrying 41 = .ok (.bipush 36, 2) := by decide +kernel
theorem dX0_isWorthTrying_43 : decode cX0_isWorthTrying 43 = .ok (.imul, 1) := by decide +kernel
theorem dX0_isWorthTrying_44 : decode cX0_isWorthTrying 44 = .ok (.iload_n 3, 1) := by decide +kernel
theorem dX0_isWorthTrying_45 : decode cX0_isWorthTrying 45 = .ok (.iadd, 1) := by decide +kernel
theorem dX0_isWorthTrying_46 : decode cX0_isWorthTrying 46 = .ok (.laload, 1) := by decide +kernel
theorem dX0_isWorthTrying_47 : decode cX0_isWorthTrying 47 = .ok (.iload_n 1, 1) := by decide +kernel
theorem dX0_isWorthTrying_48 : decode cX0_isWorthTrying 48 = .ok (.invokestatic 61, 3) := by decide +kernel
theorem dX0_isWorthTrying_51 : decode cX0_isWorthTrying 51 = .ok (.ifCond .eq 7, 3) := by decide +kernel
theorem dX0_isWorthTrying_54 : decode cX0_isWorthTrying 54 = .ok (.iconst 1, 1) := by decide +kernel
theorem dX0_isWorthTrying_55 : decode cX0_isWorthTrying 55 = .ok (.goto 4, 3) := by decide +kernel
theorem dX0_isWorthTrying_58 : decode cX0_isWorthTrying 58 = .ok (.iconst 0, 1) := by decide +kernel
theorem dX0_isWorthTrying_59 : decode cX0_isWorthTrying 59 = .ok (.ireturn, 1) := by decide +kernel
theorem dX0_isOn_0 : decode cX0_isOn 0 = .ok (.lload_n 0, 1) := by decide +kernel
theorem dX0_isOn_1 : decode cX0_isOn 1 = .ok (.iload_n 2, 1) := by decide +kernel
theorem dX0_isOn_2 : decode cX0_isOn 2 = .ok (.lushr, 1) := by decide +kernel
theorem dX0_isOn_3 : decode cX0_isOn 3 = .ok (.lconst 1, 1) := by decide +kernel
theorem dX0_isOn_4 : decode cX0_isOn 4 = .ok (.land, 1) := by decide +kernel
theorem dX0_isOn_5 : decode cX0_isOn 5 = .ok (.lconst 0, 1) := by decide +kernel
theorem dX0_isOn_6 : decode cX0_isOn 6 = .ok (.lcmp, 1) := by decide +kernel
theorem dX0_isOn_7 : decode cX0_isOn 7 = .ok (.ifCond .eq 7, 3) := by decide +kernel
theorem dX0_isOn_10 : decode cX0_isOn 10 = .ok (.iconst 1, 1) := by decide +kernel
theorem dX0_isOn_11 : decode cX0_isOn 11 = .ok (.goto 4, 3) := by decide +kernel
theorem dX0_isOn_14 : decode cX0_isOn 14 = .ok (.iconst 0, 1) := by decide +kernel
theorem dX0_isOn_15 : decode cX0_isOn 15 = .ok (.ireturn, 1) := by decide +kernel
theorem dX0_openWay_0 : decode cX0_openWay 0 = .ok (.aload_n 0, 1) := by decide +kernel
theorem dX0_openWay_1 : decode cX0_openWay 1 = .ok (.getfield 28, 3) := by decide +kernel
theorem dX0_openWay_4 : decode cX0_openWay 4 = .ok (.lconst 0, 1) := by decide +kernel
theorem dX0_openWay_5 : decode cX0_openWay 5 = .ok (.invokestatic 73, 3) := by decide +kernel
theorem dX0_openWay_8 : decode cX0_openWay 8 = .ok (.aload_n 0, 1) := by decide +kernel
theorem dX0_openWay_9 : decode cX0_openWay 9 = .ok (.iconst 0, 1) := by decide +kernel
theorem dX0_openWay_10 : decode cX0_openWay 10 = .ok (.putfield 79, 3) := by decide +kernel
theorem dX0_openWay_13 : decode cX0_openWay 13 = .ok (.iconst 0, 1) := by decide +kernel
theorem dX0_openWay_14 : decode cX0_openWay 14 = .ok (.istore_n 3, 1) := by decide +kernel
theorem dX0_openWay_15 : decode cX0_openWay 15 = .ok (.iload_n 3, 1) := by decide +kernel
theorem dX0_openWay_16 : decode cX0_openWay 16 = .ok (.bipush 32, 2) := by decide +kernel
theorem dX0_openWay_18 : decode cX0_openWay 18 = .ok (.if_icmp .ge 30, 3) := by decide +kernel
theorem dX0_openWay_21 : decode cX0_openWay 21 = .ok (.aload_n 0, 1) := by decide +kernel
theorem dX0_openWay_22 : decode cX0_openWay 22 = .ok (.getfield 39, 3) := by decide +kernel
theorem dX0_openWay_25 : decode cX0_openWay 25 = .ok (.iload_n 3, 1) := by decide +kernel
theorem dX0_openWay_26 : decode cX0_openWay 26 = .ok (.invokestatic 82, 3) := by decide +kernel
theorem dX0_openWay_29 : decode cX0_openWay 29 = .ok (.ifCond .eq 13, 3) := by decide +kernel
theorem dX0_openWay_32 : decode cX0_openWay 32 = .ok (.aload_n 0, 1) := by decide +kernel
theorem dX0_openWay_33 : decode cX0_openWay 33 = .ok (.aload_n 0, 1) := by decide +kernel
theorem dX0_openWay_34 : decode cX0_openWay 34 = .ok (.getfield 35, 3) := by decide +kernel
theorem dX0_openWay_37 : decode cX0_openWay 37 = .ok (.iload_n 3, 1) := by decide +kernel
theorem dX0_openWay_38 : decode cX0_openWay 38 = .ok (.lconst 0, 1) := by decide +kernel
theorem dX0_openWay_39 : decode cX0_openWay 39 = .ok (.invokevirtual 85, 3) := by decide +kernel
theorem dX0_openWay_42 : decode cX0_openWay 42 = .ok (.iinc 3 1, 3) := by decide +kernel
theorem dX0_openWay_45 : decode cX0_openWay 45 = .ok (.goto (-30), 3) := by decide +kernel
theorem dX0_openWay_48 : decode cX0_openWay 48 = .ok (.iconst 0, 1) := by decide +kernel
theorem dX0_openWay_49 : decode cX0_openWay 49 = .ok (.istore_n 3, 1) := by decide +kernel
theorem dX0_openWay_50 : decode cX0_openWay 50 = .ok (.iload_n 3, 1) := by decide +kernel
theorem dX0_openWay_51 : decode cX0_openWay 51 = .ok (.aload_n 0, 1) := by decide +kernel
theorem dX0_openWay_52 : decode cX0_openWay 52 = .ok (.getfield 79, 3) := by decide +kernel
theorem dX0_openWay_55 : decode cX0_openWay 55 = .ok (.if_icmp .ge 52, 3) := by decide +kernel
theorem dX0_openWay_58 : decode cX0_openWay 58 = .ok (.iload_n 3, 1) := by decide +kernel
theorem dX0_openWay_59 : decode cX0_openWay 59 = .ok (.sipush 768, 3) := by decide +kernel
theorem dX0_openWay_62 : decode cX0_openWay 62 = .ok (.if_icmp .ge 45, 3) := by decide +kernel
theorem dX0_openWay_65 : decode cX0_openWay 65 = .ok (.aload_n 0, 1) := by decide +kernel
theorem dX0_openWay_66 : decode cX0_openWay 66 = .ok (.iload_n 3, 1) := by decide +kernel
theorem dX0_openWay_67 : decode cX0_openWay 67 = .ok (.lload_n 1, 1) := by decide +kernel
theorem dX0_openWay_68 : decode cX0_openWay 68 = .ok (.invokevirtual 89, 3) := by decide +kernel
theorem dX0_openWay_71 : decode cX0_openWay 71 = .ok (.istore 4, 2) := by decide +kernel
theorem dX0_openWay_73 : decode cX0_openWay 73 = .ok (.iload 4, 2) := by decide +kernel
theorem dX0_openWay_75 : decode cX0_openWay 75 = .ok (.iconst (-1), 1) := by decide +kernel
theorem dX0_openWay_76 : decode cX0_openWay 76 = .ok (.if_icmp .eq 25, 3) := by decide +kernel
theorem dX0_openWay_79 : decode cX0_openWay 79 = .ok (.aload_n 0, 1) := by decide +kernel
theorem dX0_openWay_80 : decode cX0_openWay 80 = .ok (.iload_n 3, 1) := by decide +kernel
theorem dX0_openWay_81 : decode cX0_openWay 81 = .ok (.iload 4, 2) := by decide +kernel
theorem dX0_openWay_83 : decode cX0_openWay 83 = .ok (.invokevirtual 93, 3) := by decide +kernel
theorem dX0_openWay_86 : decode cX0_openWay 86 = .ok (.ifCond .eq 15, 3) := by decide +kernel
theorem dX0_openWay_89 : decode cX0_openWay 89 = .ok (.aload_n 0, 1) := by decide +kernel
theorem dX0_openWay_90 : decode cX0_openWay 90 = .ok (.getfield 25, 3) := by decide +kernel
theorem dX0_openWay_93 : decode cX0_openWay 93 = .ok (.iload_n 3, 1) := by decide +kernel
theorem dX0_openWay_94 : decode cX0_openWay 94 = .ok (.laload, 1) := by decide +kernel
theorem dX0_openWay_95 : decode cX0_openWay 95 = .ok (.lconst 1, 1) := by decide +kernel
theorem dX0_openWay_96 : decode cX0_openWay 96 = .ok (.iload 4, 2) := by decide +kernel
theorem dX0_openWay_98 : decode cX0_openWay 98 = .ok (.lshl, 1) := by decide +kernel
theorem dX0_openWay_99 : decode cX0_openWay 99 = .ok (.lor, 1) := by decide +kernel
theorem dX0_openWay_100 : decode cX0_openWay 100 = .ok (.lreturn, 1) := by decide +kernel
theorem dX0_openWay_101 : decode cX0_openWay 101 = .ok (.iinc 3 1, 3) := by decide +kernel
theorem dX0_openWay_104 : decode cX0_openWay 104 = .ok (.goto (-54), 3) := by decide +kernel
theorem dX0_openWay_107 : decode cX0_openWay 107 = .ok (.lconst 0, 1) := by decide +kernel
theorem dX0_openWay_108 : decode cX0_openWay 108 = .ok (.lreturn, 1) := by decide +kernel
theorem dX0_enqueue_0 : decode cX0_enqueue 0 = .ok (.aload_n 0, 1) := by decide +kernel
theorem dX0_enqueue_1 : decode cX0_enqueue 1 = .ok (.getfield 28, 3) := by decide +kernel
theorem dX0_enqueue_4 : decode cX0_enqueue 4 = .ok (.iload_n 1, 1) := by decide +kernel
theorem dX0_enqueue_5 : decode cX0_enqueue 5 = .ok (.laload, 1) := by decide +kernel
theorem dX0_enqueue_6 : decode cX0_enqueue 6 = .ok (.iload_n 2, 1) := by decide +kernel
theorem dX0_enqueue_7 : decode cX0_enqueue 7 = .ok (.invokestatic 82, 3) := by decide +kernel
theorem dX0_enqueue_10 : decode cX0_enqueue 10 = .ok (.ifCond .ne 60, 3) := by decide +kernel
theorem dX0_enqueue_13 : decode cX0_enqueue 13 = .ok (.aload_n 0, 1) := by decide +kernel
theorem dX0_enqueue_14 : decode cX0_enqueue 14 = .ok (.getfield 79, 3) := by decide +kernel
theorem dX0_enqueue_17 : decode cX0_enqueue 17 = .ok (.sipush 768, 3) := by decide +kernel
theorem dX0_enqueue_20 : decode cX0_enqueue 20 = .ok (.if_icmp .ge 50, 3) := by decide +kernel
theorem dX0_enqueue_23 : decode cX0_enqueue 23 = .ok (.aload_n 0, 1) := by decide +kernel
theorem dX0_enqueue_24 : decode cX0_enqueue 24 = .ok (.getfield 28, 3) := by decide +kernel
theorem dX0_enqueue_27 : decode cX0_enqueue 27 = .ok (.iload_n 1, 1) := by decide +kernel
theorem dX0_enqueue_28 : decode cX0_enqueue 28 = .ok (.dup2, 1) := by decide +kernel
theorem dX0_enqueue_29 : decode cX0_enqueue 29 = .ok (.laload, 1) := by decide +kernel
theorem dX0_enqueue_30 : decode cX0_enqueue 30 = .ok (.lconst 1, 1) := by decide +kernel
theorem dX0_enqueue_31 : decode cX0_enqueue 31 = .ok (.iload_n 2, 1) := by decide +kernel
theorem dX0_enqueue_32 : decode cX0_enqueue 32 = .ok (.lshl, 1) := by decide +kernel
theorem dX0_enqueue_33 : decode cX0_enqueue 33 = .ok (.lor, 1) := by decide +kernel
theorem dX0_enqueue_34 : decode cX0_enqueue 34 = .ok (.lastore, 1) := by decide +kernel
theorem dX0_enqueue_35 : decode cX0_enqueue 35 = .ok (.aload_n 0, 1) := by decide +kernel
theorem dX0_enqueue_36 : decode cX0_enqueue 36 = .ok (.getfield 22, 3) := by decide +kernel
theorem dX0_enqueue_39 : decode cX0_enqueue 39 = .ok (.aload_n 0, 1) := by decide +kernel
theorem dX0_enqueue_40 : decode cX0_enqueue 40 = .ok (.getfield 79, 3) := by decide +kernel
theorem dX0_enqueue_43 : decode cX0_enqueue 43 = .ok (.iload_n 1, 1) := by decide +kernel
theorem dX0_enqueue_44 : decode cX0_enqueue 44 = .ok (.bipush 32, 2) := by decide +kernel
theorem dX0_enqueue_46 : decode cX0_enqueue 46 = .ok (.imul, 1) := by decide +kernel
theorem dX0_enqueue_47 : decode cX0_enqueue 47 = .ok (.iload_n 2, 1) := by decide +kernel
theorem dX0_enqueue_48 : decode cX0_enqueue 48 = .ok (.iadd, 1) := by decide +kernel
theorem dX0_enqueue_49 : decode cX0_enqueue 49 = .ok (.iastore, 1) := by decide +kernel
theorem dX0_enqueue_50 : decode cX0_enqueue 50 = .ok (.aload_n 0, 1) := by decide +kernel
theorem dX0_enqueue_51 : decode cX0_enqueue 51 = .ok (.getfield 25, 3) := by decide +kernel
theorem dX0_enqueue_54 : decode cX0_enqueue 54 = .ok (.aload_n 0, 1) := by decide +kernel
theorem dX0_enqueue_55 : decode cX0_enqueue 55 = .ok (.getfield 79, 3) := by decide +kernel
theorem dX0_enqueue_58 : decode cX0_enqueue 58 = .ok (.lload_n 3, 1) := by decide +kernel
theorem dX0_enqueue_59 : decode cX0_enqueue 59 = .ok (.lastore, 1) := by decide +kernel
theorem dX0_enqueue_60 : decode cX0_enqueue 60 = .ok (.aload_n 0, 1) := by decide +kernel
theorem dX0_enqueue_61 : decode cX0_enqueue 61 = .ok (.dup, 1) := by decide +kernel
theorem dX0_enqueue_62 : decode cX0_enqueue 62 = .ok (.getfield 79, 3) := by decide +kernel
theorem dX0_enqueue_65 : decode cX0_enqueue 65 = .ok (.iconst 1, 1) := by decide +kernel
theorem dX0_enqueue_66 : decode cX0_enqueue 66 = .ok (.iadd, 1) := by decide +kernel
theorem dX0_enqueue_67 : decode cX0_enqueue 67 = .ok (.putfield 79, 3) := by decide +kernel
theorem dX0_enqueue_70 : decode cX0_enqueue 70 = .ok (.return_, 1) := by decide +kernel
theorem dX0_handlingSlot_0 : decode cX0_handlingSlot 0 = .ok (.aload_n 0, 1) := by decide +kernel
theorem dX0_handlingSlot_1 : decode cX0_handlingSlot 1 = .ok (.getfield 22, 3) := by decide +kernel
theorem dX0_handlingSlot_4 : decode cX0_handlingSlot 4 = .ok (.iload_n 1, 1) := by decide +kernel
theorem dX0_handlingSlot_5 : decode cX0_handlingSlot 5 = .ok (.iaload, 1) := by decide +kernel
theorem dX0_handlingSlot_6 : decode cX0_handlingSlot 6 = .ok (.bipush 32, 2) := by decide +kernel
theorem dX0_handlingSlot_8 : decode cX0_handlingSlot 8 = .ok (.idiv, 1) := by decide +kernel
theorem dX0_handlingSlot_9 : decode cX0_handlingSlot 9 = .ok (.istore 4, 2) := by decide +kernel
theorem dX0_handlingSlot_11 : decode cX0_handlingSlot 11 = .ok (.iload 4, 2) := by decide +kernel
theorem dX0_handlingSlot_13 : decode cX0_handlingSlot 13 = .ok (.iconst 4, 1) := by decide +kernel
theorem dX0_handlingSlot_14 : decode cX0_handlingSlot 14 = .ok (.idiv, 1) := by decide +kernel
theorem dX0_handlingSlot_15 : decode cX0_handlingSlot 15 = .ok (.bipush 6, 2) := by decide +kernel
theorem dX0_handlingSlot_17 : decode cX0_handlingSlot 17 = .ok (.imul, 1) := by decide +kernel
theorem dX0_handlingSlot_18 : decode cX0_handlingSlot 18 = .ok (.istore 5, 2) := by decide +kernel
theorem dX0_handlingSlot_20 : decode cX0_handlingSlot 20 = .ok (.lload_n 2, 1) := by decide +kernel
theorem dX0_handlingSlot_21 : decode cX0_handlingSlot 21 = .ok (.iload 5, 2) := by decide +kernel
theorem dX0_handlingSlot_23 : decode cX0_handlingSlot 23 = .ok (.lushr, 1) := by decide +kernel
theorem dX0_handlingSlot_24 : decode cX0_handlingSlot 24 = .ok (.l2i, 1) := by decide +kernel
theorem dX0_handlingSlot_25 : decode cX0_handlingSlot 25 = .ok (.istore 6, 2) := by decide +kernel
theorem dX0_handlingSlot_27 : decode cX0_handlingSlot 27 = .ok (.aload_n 0, 1) := by decide +kernel
theorem dX0_handlingSlot_28 : decode cX0_handlingSlot 28 = .ok (.getfield 31, 3) := by decide +kernel
theorem dX0_handlingSlot_31 : decode cX0_handlingSlot 31 = .ok (.getfield 97, 3) := by decide +kernel
theorem dX0_handlingSlot_34 : decode cX0_handlingSlot 34 = .ok (.iload 4, 2) := by decide +kernel
theorem dX0_handlingSlot_36 : decode cX0_handlingSlot 36 = .ok (.iconst 4, 1) := by decide +kernel
theorem dX0_handlingSlot_37 : decode cX0_handlingSlot 37 = .ok (.idiv, 1) := by decide +kernel
theorem dX0_handlingSlot_38 : decode cX0_handlingSlot 38 = .ok (.aaload, 1) := by decide +kernel
theorem dX0_handlingSlot_39 : decode cX0_handlingSlot 39 = .ok (.astore 7, 2) := by decide +kernel
theorem dX0_handlingSlot_41 : decode cX0_handlingSlot 41 = .ok (.aload 7, 2) := by decide +kernel
theorem dX0_handlingSlot_43 : decode cX0_handlingSlot 43 = .ok (.iload 4, 2) := by decide +kernel
theorem dX0_handlingSlot_45 : decode cX0_handlingSlot 45 = .ok (.iconst 4, 1) := by decide +kernel
theorem dX0_handlingSlot_46 : decode cX0_handlingSlot 46 = .ok (.irem, 1) := by decide +kernel
theorem dX0_handlingSlot_47 : decode cX0_handlingSlot 47 = .ok (.aload_n 0, 1) := by decide +kernel
theorem dX0_handlingSlot_48 : decode cX0_handlingSlot 48 = .ok (.getfield 22, 3) := by decide +kernel
theorem dX0_handlingSlot_51 : decode cX0_handlingSlot 51 = .ok (.iload_n 1, 1) := by decide +kernel
theorem dX0_handlingSlot_52 : decode cX0_handlingSlot 52 = .ok (.iaload, 1) := by decide +kernel
theorem dX0_handlingSlot_53 : decode cX0_handlingSlot 53 = .ok (.bipush 32, 2) := by decide +kernel
theorem dX0_handlingSlot_55 : decode cX0_handlingSlot 55 = .ok (.irem, 1) := by decide +kernel
theorem dX0_handlingSlot_56 : decode cX0_handlingSlot 56 = .ok (.iload 6, 2) := by decide +kernel
theorem dX0_handlingSlot_58 : decode cX0_handlingSlot 58 = .ok (.invokevirtual 103, 3) := by decide +kernel
theorem dX0_handlingSlot_61 : decode cX0_handlingSlot 61 = .ok (.istore 8, 2) := by decide +kernel
theorem dX0_handlingSlot_63 : decode cX0_handlingSlot 63 = .ok (.iload 8, 2) := by decide +kernel
theorem dX0_handlingSlot_65 : decode cX0_handlingSlot 65 = .ok (.iconst (-1), 1) := by decide +kernel
theorem dX0_handlingSlot_66 : decode cX0_handlingSlot 66 = .ok (.if_icmp .ne 7, 3) := by decide +kernel
theorem dX0_handlingSlot_69 : decode cX0_handlingSlot 69 = .ok (.iconst (-1), 1) := by decide +kernel
theorem dX0_handlingSlot_70 : decode cX0_handlingSlot 70 = .ok (.goto 8, 3) := by decide +kernel
theorem dX0_handlingSlot_73 : decode cX0_handlingSlot 73 = .ok (.iload 5, 2) := by decide +kernel
theorem dX0_handlingSlot_75 : decode cX0_handlingSlot 75 = .ok (.iload 8, 2) := by decide +kernel
theorem dX0_handlingSlot_77 : decode cX0_handlingSlot 77 = .ok (.iadd, 1) := by decide +kernel
theorem dX0_handlingSlot_78 : decode cX0_handlingSlot 78 = .ok (.ireturn, 1) := by decide +kernel
theorem dX0_reachesTarget_0 : decode cX0_reachesTarget 0 = .ok (.iload_n 2, 1) := by decide +kernel
theorem dX0_reachesTarget_1 : decode cX0_reachesTarget 1 = .ok (.bipush 6, 2) := by decide +kernel
theorem dX0_reachesTarget_3 : decode cX0_reachesTarget 3 = .ok (.idiv, 1) := by decide +kernel
theorem dX0_reachesTarget_4 : decode cX0_reachesTarget 4 = .ok (.istore_n 3, 1) := by decide +kernel
theorem dX0_reachesTarget_5 : decode cX0_reachesTarget 5 = .ok (.aload_n 0, 1) := by decide +kernel
theorem dX0_reachesTarget_6 : decode cX0_reachesTarget 6 = .ok (.getfield 31, 3) := by decide +kernel
theorem dX0_reachesTarget_9 : decode cX0_reachesTarget 9 = .ok (.getfield 97, 3) := by decide +kernel
theorem dX0_reachesTarget_12 : decode cX0_reachesTarget 12 = .ok (.iload_n 3, 1) := by decide +kernel
theorem dX0_reachesTarget_13 : decode cX0_reachesTarget 13 = .ok (.aaload, 1) := by decide +kernel
theorem dX0_reachesTarget_14 : decode cX0_reachesTarget 14 = .ok (.getfield 109, 3) := by decide +kernel
theorem dX0_reachesTarget_17 : decode cX0_reachesTarget 17 = .ok (.iload_n 2, 1) := by decide +kernel
theorem dX0_reachesTarget_18 : decode cX0_reachesTarget 18 = .ok (.bipush 6, 2) := by decide +kernel
theorem dX0_reachesTarget_20 : decode cX0_reachesTarget 20 = .ok (.irem, 1) := by decide +kernel
theorem dX0_reachesTarget_21 : decode cX0_reachesTarget 21 = .ok (.aaload, 1) := by decide +kernel
theorem dX0_reachesTarget_22 : decode cX0_reachesTarget 22 = .ok (.astore 4, 2) := by decide +kernel
theorem dX0_reachesTarget_24 : decode cX0_reachesTarget 24 = .ok (.aload 4, 2) := by decide +kernel
theorem dX0_reachesTarget_26 : decode cX0_reachesTarget 26 = .ok (.aload_n 0, 1) := by decide +kernel
theorem dX0_reachesTarget_27 : decode cX0_reachesTarget 27 = .ok (.getfield 22, 3) := by decide +kernel
theorem dX0_reachesTarget_30 : decode cX0_reachesTarget 30 = .ok (.iload_n 1, 1) := by decide +kernel
theorem dX0_reachesTarget_31 : decode cX0_reachesTarget 31 = .ok (.iaload, 1) := by decide +kernel
theorem dX0_reachesTarget_32 : decode cX0_reachesTarget 32 = .ok (.bipush 32, 2) := by decide +kernel
theorem dX0_reachesTarget_34 : decode cX0_reachesTarget 34 = .ok (.irem, 1) := by decide +kernel
theorem dX0_reachesTarget_35 : decode cX0_reachesTarget 35 = .ok (.invokevirtual 113, 3) := by decide +kernel
theorem dX0_reachesTarget_38 : decode cX0_reachesTarget 38 = .ok (.istore 5, 2) := by decide +kernel
theorem dX0_reachesTarget_40 : decode cX0_reachesTarget 40 = .ok (.aload_n 0, 1) := by decide +kernel
theorem dX0_reachesTarget_41 : decode cX0_reachesTarget 41 = .ok (.getfield 25, 3) := by decide +kernel
theorem dX0_reachesTarget_44 : decode cX0_reachesTarget 44 = .ok (.iload_n 1, 1) := by decide +kernel
theorem dX0_reachesTarget_45 : decode cX0_reachesTarget 45 = .ok (.laload, 1) := by decide +kernel
theorem dX0_reachesTarget_46 : decode cX0_reachesTarget 46 = .ok (.lconst 1, 1) := by decide +kernel
theorem dX0_reachesTarget_47 : decode cX0_reachesTarget 47 = .ok (.iload_n 2, 1) := by decide +kernel
theorem dX0_reachesTarget_48 : decode cX0_reachesTarget 48 = .ok (.lshl, 1) := by decide +kernel
theorem dX0_reachesTarget_49 : decode cX0_reachesTarget 49 = .ok (.lor, 1) := by decide +kernel
theorem dX0_reachesTarget_50 : decode cX0_reachesTarget 50 = .ok (.lstore 6, 2) := by decide +kernel
theorem dX0_reachesTarget_52 : decode cX0_reachesTarget 52 = .ok (.iconst 0, 1) := by decide +kernel
theorem dX0_reachesTarget_53 : decode cX0_reachesTarget 53 = .ok (.istore 8, 2) := by decide +kernel
theorem dX0_reachesTarget_55 : decode cX0_reachesTarget 55 = .ok (.iload 8, 2) := by decide +kernel
theorem dX0_reachesTarget_57 : decode cX0_reachesTarget 57 = .ok (.iconst 4, 1) := by decide +kernel
theorem dX0_reachesTarget_58 : decode cX0_reachesTarget 58 = .ok (.if_icmp .ge 72, 3) := by decide +kernel
theorem dX0_reachesTarget_61 : decode cX0_reachesTarget 61 = .ok (.aload 4, 2) := by decide +kernel
theorem dX0_reachesTarget_63 : decode cX0_reachesTarget 63 = .ok (.getfield 119, 3) := by decide +kernel
theorem dX0_reachesTarget_66 : decode cX0_reachesTarget 66 = .ok (.iload 8, 2) := by decide +kernel
theorem dX0_reachesTarget_68 : decode cX0_reachesTarget 68 = .ok (.invokestatic 122, 3) := by decide +kernel
theorem dX0_reachesTarget_71 : decode cX0_reachesTarget 71 = .ok (.ifCond .eq 53, 3) := by decide +kernel
theorem dX0_reachesTarget_74 : decode cX0_reachesTarget 74 = .ok (.aload_n 0, 1) := by decide +kernel
theorem dX0_reachesTarget_75 : decode cX0_reachesTarget 75 = .ok (.getfield 31, 3) := by decide +kernel
theorem dX0_reachesTarget_78 : decode cX0_reachesTarget 78 = .ok (.getfield 125, 3) := by decide +kernel
theorem dX0_reachesTarget_81 : decode cX0_reachesTarget 81 = .ok (.iload_n 3, 1) := by decide +kernel
theorem dX0_reachesTarget_82 : decode cX0_reachesTarget 82 = .ok (.iload 8, 2) := by decide +kernel
theorem dX0_reachesTarget_84 : decode cX0_reachesTarget 84 = .ok (.invokestatic 128, 3) := by decide +kernel
theorem dX0_reachesTarget_87 : decode cX0_reachesTarget 87 = .ok (.iaload, 1) := by decide +kernel
theorem dX0_reachesTarget_88 : decode cX0_reachesTarget 88 = .ok (.istore 9, 2) := by decide +kernel
theorem dX0_reachesTarget_90 : decode cX0_reachesTarget 90 = .ok (.iload 9, 2) := by decide +kernel
theorem dX0_reachesTarget_92 : decode cX0_reachesTarget 92 = .ok (.iconst (-1), 1) := by decide +kernel
theorem dX0_reachesTarget_93 : decode cX0_reachesTarget 93 = .ok (.if_icmp .eq 16, 3) := by decide +kernel
theorem dX0_reachesTarget_96 : decode cX0_reachesTarget 96 = .ok (.aload_n 0, 1) := by decide +kernel
theorem dX0_reachesTarget_97 : decode cX0_reachesTarget 97 = .ok (.iload 9, 2) := by decide +kernel
theorem dX0_reachesTarget_99 : decode cX0_reachesTarget 99 = .ok (.iload 5, 2) := by decide +kernel
theorem dX0_reachesTarget_101 : decode cX0_reachesTarget 101 = .ok (.lload 6, 2) := by decide +kernel
theorem dX0_reachesTarget_103 : decode cX0_reachesTarget 103 = .ok (.invokevirtual 85, 3) := by decide +kernel
theorem dX0_reachesTarget_106 : decode cX0_reachesTarget 106 = .ok (.goto 18, 3) := by decide +kernel
theorem dX0_reachesTarget_109 : decode cX0_reachesTarget 109 = .ok (.iload_n 3, 1) := by decide +kernel
theorem dX0_reachesTarget_110 : decode cX0_reachesTarget 110 = .ok (.iload 8, 2) := by decide +kernel
theorem dX0_reachesTarget_112 : decode cX0_reachesTarget 112 = .ok (.invokestatic 128, 3) := by decide +kernel
theorem dX0_reachesTarget_115 : decode cX0_reachesTarget 115 = .ok (.aload_n 0, 1) := by decide +kernel
theorem dX0_reachesTarget_116 : decode cX0_reachesTarget 116 = .ok (.getfield 43, 3) := by decide +kernel
theorem dX0_reachesTarget_119 : decode cX0_reachesTarget 119 = .ok (.if_icmp .ne 5, 3) := by decide +kernel
theorem dX0_reachesTarget_122 : decode cX0_reachesTarget 122 = .ok (.iconst 1, 1) := by decide +kernel
theorem dX0_reachesTarget_123 : decode cX0_reachesTarget 123 = .ok (.ireturn, 1) := by decide +kernel
theorem dX0_reachesTarget_124 : decode cX0_reachesTarget 124 = .ok (.iinc 8 1, 3) := by decide +kernel
theorem dX0_reachesTarget_127 : decode cX0_reachesTarget 127 = .ok (.goto (-72), 3) := by decide +kernel
theorem dX0_reachesTarget_130 : decode cX0_reachesTarget 130 = .ok (.iconst 0, 1) := by decide +kernel
theorem dX0_reachesTarget_131 : decode cX0_reachesTarget 131 = .ok (.ireturn, 1) := by decide +kernel
theorem dX1_init_0 : decode cX1_init 0 = .ok (.aload_n 0, 1) := by decide +kernel
theorem dX1_init_1 : decode cX1_init 1 = .ok (.invokespecial 3, 3) := by decide +kernel
theorem dX1_init_4 : decode cX1_init 4 = .ok (.aload_n 0, 1) := by decide +kernel
theorem dX1_init_5 : decode cX1_init 5 = .ok (.bipush 24, 2) := by decide +kernel
theorem dX1_init_7 : decode cX1_init 7 = .ok (.newarray .long, 2) := by decide +kernel
theorem dX1_init_9 : decode cX1_init 9 = .ok (.putfield 9, 3) := by decide +kernel
theorem dX1_init_12 : decode cX1_init 12 = .ok (.aload_n 0, 1) := by decide +kernel
theorem dX1_init_13 : decode cX1_init 13 = .ok (.aload_n 1, 1) := by decide +kernel
theorem dX1_init_14 : decode cX1_init 14 = .ok (.putfield 15, 3) := by decide +kernel
theorem dX1_init_17 : decode cX1_init 17 = .ok (.return_, 1) := by decide +kernel
theorem dX1_find_0 : decode cX1_find 0 = .ok (.aload_n 0, 1) := by decide +kernel
theorem dX1_find_1 : decode cX1_find 1 = .ok (.getfield 9, 3) := by decide +kernel
theorem dX1_find_4 : decode cX1_find 4 = .ok (.lconst 0, 1) := by decide +kernel
theorem dX1_find_5 : decode cX1_find 5 = .ok (.invokestatic 19, 3) := by decide +kernel
theorem dX1_find_8 : decode cX1_find 8 = .ok (.iconst 1, 1) := by decide +kernel
theorem dX1_find_9 : decode cX1_find 9 = .ok (.istore_n 2, 1) := by decide +kernel
theorem dX1_find_10 : decode cX1_find 10 = .ok (.iconst 0, 1) := by decide +kernel
theorem dX1_find_11 : decode cX1_find 11 = .ok (.istore_n 3, 1) := by decide +kernel
theorem dX1_find_12 : decode cX1_find 12 = .ok (.iload_n 2, 1) := by decide +kernel
theorem dX1_find_13 : decode cX1_find 13 = .ok (.ifCond .eq 22, 3) := by decide +kernel
theorem dX1_find_16 : decode cX1_find 16 = .ok (.iload_n 3, 1) := by decide +kernel
theorem dX1_find_17 : decode cX1_find 17 = .ok (.sipush 768, 3) := by decide +kernel
theorem dX1_find_20 : decode cX1_find 20 = .ok (.if_icmp .gt 15, 3) := by decide +kernel
theorem dX1_find_23 : decode cX1_find 23 = .ok (.aload_n 0, 1) := by decide +kernel
theorem dX1_find_24 : decode cX1_find 24 = .ok (.iload_n 1, 1) := by decide +kernel
theorem dX1_find_25 : decode cX1_find 25 = .ok (.invokevirtual 25, 3) := by decide +kernel
theorem dX1_find_28 : decode cX1_find 28 = .ok (.istore_n 2, 1) := by decide +kernel
theorem dX1_find_29 : decode cX1_find 29 = .ok (.iinc 3 1, 3) := by decide +kernel
theorem dX1_find_32 : decode cX1_find 32 = .ok (.goto (-20), 3) := by decide +kernel
theorem dX1_find_35 : decode cX1_find 35 = .ok (.return_, 1) := by decide +kernel
theorem dX1_growOnce_0 : decode cX1_growOnce 0 = .ok (.iconst 0, 1) := by decide +kernel
theorem dX1_growOnce_1 : decode cX1_growOnce 1 = .ok (.istore_n 2, 1) := by decide +kernel
theorem dX1_growOnce_2 : decode cX1_growOnce 2 = .ok (.iconst 0, 1) := by decide +kernel
theorem dX1_growOnce_3 : decode cX1_growOnce 3 = .ok (.istore_n 3, 1) := by decide +kernel
theorem dX1_growOnce_4 : decode cX1_growOnce 4 = .ok (.iload_n 3, 1) := by decide +kernel
theorem dX1_growOnce_5 : decode cX1_growOnce 5 = .ok (.bipush 24, 2) := by decide +kernel
theorem dX1_growOnce_7 : decode cX1_growOnce 7 = .ok (.if_icmp .ge 60, 3) := by decide +kernel
theorem dX1_growOnce_10 : decode cX1_growOnce 10 = .ok (.iload_n 1, 1) := by decide +kernel
theorem dX1_growOnce_11 : decode cX1_growOnce 11 = .ok (.iconst (-1), 1) := by decide +kernel
theorem dX1_growOnce_12 : decode cX1_growOnce 12 = .ok (.if_icmp .ne 11, 3) := by decide +kernel
theorem dX1_growOnce_15 : decode cX1_growOnce 15 = .ok (.aload_n 0, 1) := by decide +kernel
theorem dX1_growOnce_16 : decode cX1_growOnce 16 = .ok (.iload_n 3, 1) := by decide +kernel
theorem dX1_growOnce_17 : decode cX1_growOnce 17 = .ok (.invokevirtual 29, 3) := by decide +kernel
theorem dX1_growOnce_20 : decode cX1_growOnce 20 = .ok (.goto 9, 3) := by decide +kernel
theorem dX1_growOnce_23 : decode cX1_growOnce 23 = .ok (.aload_n 0, 1) := by decide +kernel
theorem dX1_growOnce_24 : decode cX1_growOnce 24 = .ok (.iload_n 3, 1) := by decide +kernel
theorem dX1_growOnce_25 : decode cX1_growOnce 25 = .ok (.iload_n 1, 1) := by decide +kernel
theorem dX1_growOnce_26 : decode cX1_growOnce 26 = .ok (.invokevirtual 33, 3) := by decide +kernel
theorem dX1_growOnce_29 : decode cX1_growOnce 29 = .ok (.lstore 4, 2) := by decide +kernel
theorem dX1_growOnce_31 : decode cX1_growOnce 31 = .ok (.iload_n 2, 1) := by decide +kernel
theorem dX1_growOnce_32 : decode cX1_growOnce 32 = .ok (.ifCond .ne 15, 3) := by decide +kernel
theorem dX1_growOnce_35 : decode cX1_growOnce 35 = .ok (.lload 4, 2) := by decide +kernel
theorem dX1_growOnce_37 : decode cX1_growOnce 37 = .ok (.aload_n 0, 1) := by decide +kernel
theorem dX1_growOnce_38 : decode cX1_growOnce 38 = .ok (.getfield 9, 3) := by decide +kernel
theorem dX1_growOnce_41 : decode cX1_growOnce 41 = .ok (.iload_n 3, 1) := by decide +kernel
theorem dX1_growOnce_42 : decode cX1_growOnce 42 = .ok (.laload, 1) := by decide +kernel
theorem dX1_growOnce_43 : decode cX1_growOnce 43 = .ok (.lcmp, 1) := by decide +kernel
theorem dX1_growOnce_44 : decode cX1_growOnce 44 = .ok (.ifCond .eq 7, 3) := by decide +kernel
theorem dX1_growOnce_47 : decode cX1_growOnce 47 = .ok (.iconst 1, 1) := by decide +kernel
theorem dX1_growOnce_48 : decode cX1_growOnce 48 = .ok (.goto 4, 3) := by decide +kernel
theorem dX1_growOnce_51 : decode cX1_growOnce 51 = .ok (.iconst 0, 1) := by decide +kernel
theorem dX1_growOnce_52 : decode cX1_growOnce 52 = .ok (.istore_n 2, 1) := by decide +kernel
theorem dX1_growOnce_53 : decode cX1_growOnce 53 = .ok (.aload_n 0, 1) := by decide +kernel
theorem dX1_growOnce_54 : decode cX1_growOnce 54 = .ok (.getfield 9, 3) := by decide +kernel
theorem dX1_growOnce_57 : decode cX1_growOnce 57 = .ok (.iload_n 3, 1) := by decide +kernel
theorem dX1_growOnce_58 : decode cX1_growOnce 58 = .ok (.lload 4, 2) := by decide +kernel
theorem dX1_growOnce_60 : decode cX1_growOnce 60 = .ok (.lastore, 1) := by decide +kernel
theorem dX1_growOnce_61 : decode cX1_growOnce 61 = .ok (.iinc 3 1, 3) := by decide +kernel
theorem dX1_growOnce_64 : decode cX1_growOnce 64 = .ok (.goto (-60), 3) := by decide +kernel
theorem dX1_growOnce_67 : decode cX1_growOnce 67 = .ok (.iload_n 2, 1) := by decide +kernel
theorem dX1_growOnce_68 : decode cX1_growOnce 68 = .ok (.ireturn, 1) := by decide +kernel
theorem dX1_ending_0 : decode cX1_ending 0 = .ok (.iload_n 1, 1) := by decide +kernel
theorem dX1_ending_1 : decode cX1_ending 1 = .ok (.iconst 4, 1) := by decide +kernel
theorem dX1_ending_2 : decode cX1_ending 2 = .ok (.idiv, 1) := by decide +kernel
theorem dX1_ending_3 : decode cX1_ending 3 = .ok (.istore_n 2, 1) := by decide +kernel
theorem dX1_ending_4 : decode cX1_ending 4 = .ok (.aload_n 0, 1) := by decide +kernel
theorem dX1_ending_5 : decode cX1_ending 5 = .ok (.getfield 15, 3) := by decide +kernel
theorem dX1_ending_8 : decode cX1_ending 8 = .ok (.getfield 37, 3) := by decide +kernel
theorem dX1_ending_11 : decode cX1_ending 11 = .ok (.iload_n 2, 1) := by decide +kernel
theorem dX1_ending_12 : decode cX1_ending 12 = .ok (.aaload, 1) := by decide +kernel
theorem dX1_ending_13 : decode cX1_ending 13 = .ok (.astore_n 3, 1) := by decide +kernel
theorem dX1_ending_14 : decode cX1_ending 14 = .ok (.aload_n 0, 1) := by decide +kernel
theorem dX1_ending_15 : decode cX1_ending 15 = .ok (.getfield 15, 3) := by decide +kernel
theorem dX1_ending_18 : decode cX1_ending 18 = .ok (.invokevirtual 43, 3) := by decide +kernel
theorem dX1_ending_21 : decode cX1_ending 21 = .ok (.lstore 4, 2) := by decide +kernel
theorem dX1_ending_23 : decode cX1_ending 23 = .ok (.lconst 0, 1) := by decide +kernel
theorem dX1_ending_24 : decode cX1_ending 24 = .ok (.lstore 6, 2) := by decide +kernel
theorem dX1_ending_26 : decode cX1_ending 26 = .ok (.iconst 0, 1) := by decide +kernel
theorem dX1_ending_27 : decode cX1_ending 27 = .ok (.istore 8, 2) := by decide +kernel
theorem dX1_ending_29 : decode cX1_ending 29 = .ok (.iload 8, 2) := by decide +kernel
theorem dX1_ending_31 : decode cX1_ending 31 = .ok (.aload_n 3, 1) := by decide +kernel
theorem dX1_ending_32 : decode cX1_ending 32 = .ok (.getfield 47, 3) := by decide +kernel
theorem dX1_ending_35 : decode cX1_ending 35 = .ok (.if_icmp .ge 64, 3) := by decide +kernel
theorem dX1_ending_38 : decode cX1_ending 38 = .ok (.aload_n 3, 1) := by decide +kernel
theorem dX1_ending_39 : decode cX1_ending 39 = .ok (.getfield 53, 3) := by decide +kernel
theorem dX1_ending_42 : decode cX1_ending 42 = .ok (.iload 8, 2) := by decide +kernel
theorem dX1_ending_44 : decode cX1_ending 44 = .ok (.aaload, 1) := by decide +kernel
theorem dX1_ending_45 : decode cX1_ending 45 = .ok (.astore 9, 2) := by decide +kernel
theorem dX1_ending_47 : decode cX1_ending 47 = .ok (.aload 9, 2) := by decide +kernel
theorem dX1_ending_49 : decode cX1_ending 49 = .ok (.iload_n 1, 1) := by decide +kernel
theorem dX1_ending_50 : decode cX1_ending 50 = .ok (.iconst 4, 1) := by decide +kernel
theorem dX1_ending_51 : decode cX1_ending 51 = .ok (.irem, 1) := by decide +kernel
theorem dX1_ending_52 : decode cX1_ending 52 = .ok (.lload 4, 2) := by decide +kernel
theorem dX1_ending_54 : decode cX1_ending 54 = .ok (.invokevirtual 57, 3) := by decide +kernel
theorem dX1_ending_57 : decode cX1_ending 57 = .ok (.lstore 10, 2) := by decide +kernel
theorem dX1_ending_59 : decode cX1_ending 59 = .ok (.lload 4, 2) := by decide +kernel
theorem dX1_ending_61 : decode cX1_ending 61 = .ok (.lload 10, 2) := by decide +kernel
theorem dX1_ending_63 : decode cX1_ending 63 = .ok (.ldc2_w 63, 3) := by decide +kernel
theorem dX1_ending_66 : decode cX1_ending 66 = .ok (.lxor, 1) := by decide +kernel
theorem dX1_ending_67 : decode cX1_ending 67 = .ok (.land, 1) := by decide +kernel
theorem dX1_ending_68 : decode cX1_ending 68 = .ok (.lstore 4, 2) := by decide +kernel
theorem dX1_ending_70 : decode cX1_ending 70 = .ok (.lload 6, 2) := by decide +kernel
theorem dX1_ending_72 : decode cX1_ending 72 = .ok (.lload 10, 2) := by decide +kernel
theorem dX1_ending_74 : decode cX1_ending 74 = .ok (.aload 9, 2) := by decide +kernel
theorem dX1_ending_76 : decode cX1_ending 76 = .ok (.aload_n 0, 1) := by decide +kernel
theorem dX1_ending_77 : decode cX1_ending 77 = .ok (.iload_n 2, 1) := by decide +kernel
theorem dX1_ending_78 : decode cX1_ending 78 = .ok (.aload 9, 2) := by decide +kernel
theorem dX1_ending_80 : decode cX1_ending 80 = .ok (.getfield 65, 3) := by decide +kernel
theorem dX1_ending_83 : decode cX1_ending 83 = .ok (.invokevirtual 68, 3) := by decide +kernel
theorem dX1_ending_86 : decode cX1_ending 86 = .ok (.invokevirtual 71, 3) := by decide +kernel
theorem dX1_ending_89 : decode cX1_ending 89 = .ok (.land, 1) := by decide +kernel
theorem dX1_ending_90 : decode cX1_ending 90 = .ok (.lor, 1) := by decide +kernel
theorem dX1_ending_91 : decode cX1_ending 91 = .ok (.lstore 6, 2) := by decide +kernel
theorem dX1_ending_93 : decode cX1_ending 93 = .ok (.iinc 8 1, 3) := by decide +kernel
theorem dX1_ending_96 : decode cX1_ending 96 = .ok (.goto (-67), 3) := by decide +kernel
theorem dX1_ending_99 : decode cX1_ending 99 = .ok (.lload 6, 2) := by decide +kernel
theorem dX1_ending_101 : decode cX1_ending 101 = .ok (.lload 4, 2) := by decide +kernel
theorem dX1_ending_103 : decode cX1_ending 103 = .ok (.lor, 1) := by decide +kernel
theorem dX1_ending_104 : decode cX1_ending 104 = .ok (.lreturn, 1) := by decide +kernel
theorem dX1_endingBehindAll_0 : decode cX1_endingBehindAll 0 = .ok (.aload_n 0, 1) := by decide +kernel
theorem dX1_endingBehindAll_1 : decode cX1_endingBehindAll 1 = .ok (.getfield 15, 3) := by decide +kernel
theorem dX1_endingBehindAll_4 : decode cX1_endingBehindAll 4 = .ok (.invokevirtual 43, 3) := by decide +kernel
theorem dX1_endingBehindAll_7 : decode cX1_endingBehindAll 7 = .ok (.lstore_n 3, 1) := by decide +kernel
theorem dX1_endingBehindAll_8 : decode cX1_endingBehindAll 8 = .ok (.iconst 0, 1) := by decide +kernel
theorem dX1_endingBehindAll_9 : decode cX1_endingBehindAll 9 = .ok (.istore 5, 2) := by decide +kernel
theorem dX1_endingBehindAll_11 : decode cX1_endingBehindAll 11 = .ok (.iload 5, 2) := by decide +kernel
theorem dX1_endingBehindAll_13 : decode cX1_endingBehindAll 13 = .ok (.iconst 4, 1) := by decide +kernel
theorem dX1_endingBehindAll_14 : decode cX1_endingBehindAll 14 = .ok (.if_icmp .ge 50, 3) := by decide +kernel
theorem dX1_endingBehindAll_17 : decode cX1_endingBehindAll 17 = .ok (.aload_n 0, 1) := by decide +kernel
theorem dX1_endingBehindAll_18 : decode cX1_endingBehindAll 18 = .ok (.getfield 15, 3) := by decide +kernel
theorem dX1_endingBehindAll_21 : decode cX1_endingBehindAll 21 = .ok (.getfield 75, 3) := by decide +kernel
theorem dX1_endingBehindAll_24 : decode cX1_endingBehindAll 24 = .ok (.iload_n 1, 1) := by decide +kernel
theorem dX1_endingBehindAll_25 : decode cX1_endingBehindAll 25 = .ok (.iload 5, 2) := by decide +kernel
theorem dX1_endingBehindAll_27 : decode cX1_endingBehindAll 27 = .ok (.invokestatic 79, 3) := by decide +kernel
theorem dX1_endingBehindAll_30 : decode cX1_endingBehindAll 30 = .ok (.iaload, 1) := by decide +kernel
theorem dX1_endingBehindAll_31 : decode cX1_endingBehindAll 31 = .ok (.istore 6, 2) := by decide +kernel
theorem dX1_endingBehindAll_33 : decode cX1_endingBehindAll 33 = .ok (.iload_n 2, 1) := by decide +kernel
theorem dX1_endingBehindAll_34 : decode cX1_endingBehindAll 34 = .ok (.iload 5, 2) := by decide +kernel
theorem dX1_endingBehindAll_36 : decode cX1_endingBehindAll 36 = .ok (.invokestatic 83, 3) := by decide +kernel
theorem dX1_endingBehindAll_39 : decode cX1_endingBehindAll 39 = .ok (.ifCond .eq 19, 3) := by decide +kernel
theorem dX1_endingBehindAll_42 : decode cX1_endingBehindAll 42 = .ok (.iload 6, 2) := by decide +kernel
theorem dX1_endingBehindAll_44 : decode cX1_endingBehindAll 44 = .ok (.iconst (-1), 1) := by decide +kernel
theorem dX1_endingBehindAll_45 : decode cX1_endingBehindAll 45 = .ok (.if_icmp .eq 13, 3) := by decide +kernel
theorem dX1_endingBehindAll_48 : decode cX1_endingBehindAll 48 = .ok (.lload_n 3, 1) := by decide +kernel
theorem dX1_endingBehindAll_49 : decode cX1_endingBehindAll 49 = .ok (.aload_n 0, 1) := by decide +kernel
theorem dX1_endingBehindAll_50 : decode cX1_endingBehindAll 50 = .ok (.getfield 9, 3) := by decide +kernel
theorem dX1_endingBehindAll_53 : decode cX1_endingBehindAll 53 = .ok (.iload 6, 2) := by decide +kernel
theorem dX1_endingBehindAll_55 : decode cX1_endingBehindAll 55 = .ok (.laload, 1) := by decide +kernel
theorem dX1_endingBehindAll_56 : decode cX1_endingBehindAll 56 = .ok (.land, 1) := by decide +kernel
theorem dX1_endingBehindAll_57 : decode cX1_endingBehindAll 57 = .ok (.lstore_n 3, 1) := by decide +kernel
theorem dX1_endingBehindAll_58 : decode cX1_endingBehindAll 58 = .ok (.iinc 5 1, 3) := by decide +kernel
theorem dX1_endingBehindAll_61 : decode cX1_endingBehindAll 61 = .ok (.goto (-50), 3) := by decide +kernel
theorem dX1_endingBehindAll_64 : decode cX1_endingBehindAll 64 = .ok (.lload_n 3, 1) := by decide +kernel
theorem dX1_endingBehindAll_65 : decode cX1_endingBehindAll 65 = .ok (.lreturn, 1) := by decide +kernel
theorem dX1_delivering_0 : decode cX1_delivering 0 = .ok (.iload_n 1, 1) := by decide +kernel
theorem dX1_delivering_1 : decode cX1_delivering 1 = .ok (.iconst 4, 1) := by decide +kernel
theorem dX1_delivering_2 : decode cX1_delivering 2 = .ok (.idiv, 1) := by decide +kernel
theorem dX1_delivering_3 : decode cX1_delivering 3 = .ok (.istore_n 3, 1) := by decide +kernel
theorem dX1_delivering_4 : decode cX1_delivering 4 = .ok (.aload_n 0, 1) := by decide +kernel
theorem dX1_delivering_5 : decode cX1_delivering 5 = .ok (.getfield 15, 3) := by decide +kernel
theorem dX1_delivering_8 : decode cX1_delivering 8 = .ok (.getfield 37, 3) := by decide +kernel
theorem dX1_delivering_11 : decode cX1_delivering 11 = .ok (.iload_n 3, 1) := by decide +kernel
theorem dX1_delivering_12 : decode cX1_delivering 12 = .ok (.aaload, 1) := by decide +kernel
theorem dX1_delivering_13 : decode cX1_delivering 13 = .ok (.astore 4, 2) := by decide +kernel
theorem dX1_delivering_15 : decode cX1_delivering 15 = .ok (.aload_n 0, 1) := by decide +kernel
theorem dX1_delivering_16 : decode cX1_delivering 16 = .ok (.getfield 15, 3) := by decide +kernel
theorem dX1_delivering_19 : decode cX1_delivering 19 = .ok (.invokevirtual 43, 3) := by decide +kernel
theorem dX1_delivering_22 : decode cX1_delivering 22 = .ok (.lstore 5, 2) := by decide +kernel
theorem dX1_delivering_24 : decode cX1_delivering 24 = .ok (.lconst 0, 1) := by decide +kernel
theorem dX1_delivering_25 : decode cX1_delivering 25 = .ok (.lstore 7, 2) := by decide +kernel
theorem dX1_delivering_27 : decode cX1_delivering 27 = .ok (.iconst 0, 1) := by decide +kernel
theorem dX1_delivering_28 : decode cX1_delivering 28 = .ok (.istore 9, 2) := by decide +kernel
theorem dX1_delivering_30 : decode cX1_delivering 30 = .ok (.iload 9, 2) := by decide +kernel
theorem dX1_delivering_32 : decode cX1_delivering 32 = .ok (.aload 4, 2) := by decide +kernel
theorem dX1_delivering_34 : decode cX1_delivering 34 = .ok (.getfield 47, 3) := by decide +kernel
theorem dX1_delivering_37 : decode cX1_delivering 37 = .ok (.if_icmp .ge 66, 3) := by decide +kernel
theorem dX1_delivering_40 : decode cX1_delivering 40 = .ok (.aload 4, 2) := by decide +kernel
theorem dX1_delivering_42 : decode cX1_delivering 42 = .ok (.getfield 53, 3) := by decide +kernel
theorem dX1_delivering_45 : decode cX1_delivering 45 = .ok (.iload 9, 2) := by decide +kernel
theorem dX1_delivering_47 : decode cX1_delivering 47 = .ok (.aaload, 1) := by decide +kernel
theorem dX1_delivering_48 : decode cX1_delivering 48 = .ok (.astore 10, 2) := by decide +kernel
theorem dX1_delivering_50 : decode cX1_delivering 50 = .ok (.aload 10, 2) := by decide +kernel
theorem dX1_delivering_52 : decode cX1_delivering 52 = .ok (.iload_n 1, 1) := by decide +kernel
theorem dX1_delivering_53 : decode cX1_delivering 53 = .ok (.iconst 4, 1) := by decide +kernel
theorem dX1_delivering_54 : decode cX1_delivering 54 = .ok (.irem, 1) := by decide +kernel
theorem dX1_delivering_55 : decode cX1_delivering 55 = .ok (.lload 5, 2) := by decide +kernel
theorem dX1_delivering_57 : decode cX1_delivering 57 = .ok (.invokevirtual 57, 3) := by decide +kernel
theorem dX1_delivering_60 : decode cX1_delivering 60 = .ok (.lstore 11, 2) := by decide +kernel
theorem dX1_delivering_62 : decode cX1_delivering 62 = .ok (.lload 5, 2) := by decide +kernel
theorem dX1_delivering_64 : decode cX1_delivering 64 = .ok (.lload 11, 2) := by decide +kernel
theorem dX1_delivering_66 : decode cX1_delivering 66 = .ok (.ldc2_w 63, 3) := by decide +kernel
theorem dX1_delivering_69 : decode cX1_delivering 69 = .ok (.lxor, 1) := by decide +kernel
theorem dX1_delivering_70 : decode cX1_delivering 70 = .ok (.land, 1) := by decide +kernel
theorem dX1_delivering_71 : decode cX1_delivering 71 = .ok (.lstore 5, 2) := by decide +kernel
theorem dX1_delivering_73 : decode cX1_delivering 73 = .ok (.lload 7, 2) := by decide +kernel
theorem dX1_delivering_75 : decode cX1_delivering 75 = .ok (.lload 11, 2) := by decide +kernel
theorem dX1_delivering_77 : decode cX1_delivering 77 = .ok (.aload 10, 2) := by decide +kernel
theorem dX1_delivering_79 : decode cX1_delivering 79 = .ok (.aload_n 0, 1) := by decide +kernel
theorem dX1_delivering_80 : decode cX1_delivering 80 = .ok (.iload_n 3, 1) := by decide +kernel
theorem dX1_delivering_81 : decode cX1_delivering 81 = .ok (.aload 10, 2) := by decide +kernel
theorem dX1_delivering_83 : decode cX1_delivering 83 = .ok (.getfield 65, 3) := by decide +kernel
theorem dX1_delivering_86 : decode cX1_delivering 86 = .ok (.iload_n 2, 1) := by decide +kernel
theorem dX1_delivering_87 : decode cX1_delivering 87 = .ok (.invokevirtual 87, 3) := by decide +kernel
theorem dX1_delivering_90 : decode cX1_delivering 90 = .ok (.invokevirtual 71, 3) := by decide +kernel
theorem dX1_delivering_93 : decode cX1_delivering 93 = .ok (.land, 1) := by decide +kernel
theorem dX1_delivering_94 : decode cX1_delivering 94 = .ok (.lor, 1) := by decide +kernel
theorem dX1_delivering_95 : decode cX1_delivering 95 = .ok (.lstore 7, 2) := by decide +kernel
theorem dX1_delivering_97 : decode cX1_delivering 97 = .ok (.iinc 9 1, 3) := by decide +kernel
theorem dX1_delivering_100 : decode cX1_delivering 100 = .ok (.goto (-70), 3) := by decide +kernel
theorem dX1_delivering_103 : decode cX1_delivering 103 = .ok (.lload 7, 2) := by decide +kernel
theorem dX1_delivering_105 : decode cX1_delivering 105 = .ok (.lreturn, 1) := by decide +kernel
theorem dX1_deliveredBehindOne_0 : decode cX1_deliveredBehindOne 0 = .ok (.lconst 0, 1) := by decide +kernel
theorem dX1_deliveredBehindOne_1 : decode cX1_deliveredBehindOne 1 = .ok (.lstore 4, 2) := by decide +kernel
theorem dX1_deliveredBehindOne_3 : decode cX1_deliveredBehindOne 3 = .ok (.iconst 0, 1) := by decide +kernel
theorem dX1_deliveredBehindOne_4 : decode cX1_deliveredBehindOne 4 = .ok (.istore 6, 2) := by decide +kernel
theorem dX1_deliveredBehindOne_6 : decode cX1_deliveredBehindOne 6 = .ok (.iload 6, 2) := by decide +kernel
theorem dX1_deliveredBehindOne_8 : decode cX1_deliveredBehindOne 8 = .ok (.iconst 4, 1) := by decide +kernel
theorem dX1_deliveredBehindOne_9 : decode cX1_deliveredBehindOne 9 = .ok (.if_icmp .ge 74, 3) := by decide +kernel
theorem dX1_deliveredBehindOne_12 : decode cX1_deliveredBehindOne 12 = .ok (.iload_n 2, 1) := by decide +kernel
theorem dX1_deliveredBehindOne_13 : decode cX1_deliveredBehindOne 13 = .ok (.iload 6, 2) := by decide +kernel
theorem dX1_deliveredBehindOne_15 : decode cX1_deliveredBehindOne 15 = .ok (.invokestatic 83, 3) := by decide +kernel
theorem dX1_deliveredBehindOne_18 : decode cX1_deliveredBehindOne 18 = .ok (.ifCond .eq 59, 3) := by decide +kernel
theorem dX1_deliveredBehindOne_21 : decode cX1_deliveredBehindOne 21 = .ok (.aload_n 0, 1) := by decide +kernel
theorem dX1_deliveredBehindOne_22 : decode cX1_deliveredBehindOne 22 = .ok (.getfield 15, 3) := by decide +kernel
theorem dX1_deliveredBehindOne_25 : decode cX1_deliveredBehindOne 25 = .ok (.getfield 75, 3) := by decide +kernel
theorem dX1_deliveredBehindOne_28 : decode cX1_deliveredBehindOne 28 = .ok (.iload_n 1, 1) := by decide +kernel
theorem dX1_deliveredBehindOne_29 : decode cX1_deliveredBehindOne 29 = .ok (.iload 6, 2) := by decide +kernel
theorem dX1_deliveredBehindOne_31 : decode cX1_deliveredBehindOne 31 = .ok (.invokestatic 79, 3) := by decide +kernel
theorem dX1_deliveredBehindOne_34 : decode cX1_deliveredBehindOne 34 = .ok (.iaload, 1) := by decide +kernel
theorem dX1_deliveredBehindOne_35 : decode cX1_deliveredBehindOne 35 = .ok (.istore 7, 2) := by decide +kernel
theorem dX1_deliveredBehindOne_37 : decode cX1_deliveredBehindOne 37 = .ok (.iload 7, 2) := by decide +kernel
theorem dX1_deliveredBehindOne_39 : decode cX1_deliveredBehindOne 39 = .ok (.iconst (-1), 1) := by decide +kernel
theorem dX1_deliveredBehindOne_40 : decode cX1_deliveredBehindOne 40 = .ok (.if_icmp .eq 18, 3) := by decide +kernel
theorem dX1_deliveredBehindOne_43 : decode cX1_deliveredBehindOne 43 = .ok (.lload 4, 2) := by decide +kernel
theorem dX1_deliveredBehindOne_45 : decode cX1_deliveredBehindOne 45 = .ok (.aload_n 0, 1) := by decide +kernel
theorem dX1_deliveredBehindOne_46 : decode cX1_deliveredBehindOne 46 = .ok (.getfield 9, 3) := by decide +kernel
theorem dX1_deliveredBehindOne_49 : decode cX1_deliveredBehindOne 49 = .ok (.iload 7, 2) := by decide +kernel
theorem dX1_deliveredBehindOne_51 : decode cX1_deliveredBehindOne 51 = .ok (.laload, 1) := by decide +kernel
theorem dX1_deliveredBehindOne_52 : decode cX1_deliveredBehindOne 52 = .ok (.lor, 1) := by decide +kernel
theorem dX1_deliveredBehindOne_53 : decode cX1_deliveredBehindOne 53 = .ok (.lstore 4, 2) := by decide +kernel
theorem dX1_deliveredBehindOne_55 : decode cX1_deliveredBehindOne 55 = .ok (.goto 22, 3) := by decide +kernel
theorem dX1_deliveredBehindOne_58 : decode cX1_deliveredBehindOne 58 = .ok (.iload_n 1, 1) := by decide +kernel
theorem dX1_deliveredBehindOne_59 : decode cX1_deliveredBehindOne 59 = .ok (.iload 6, 2) := by decide +kernel
theorem dX1_deliveredBehindOne_61 : decode cX1_deliveredBehindOne 61 = .ok (.invokestatic 79, 3) := by decide +kernel
theorem dX1_deliveredBehindOne_64 : decode cX1_deliveredBehindOne 64 = .ok (.iload_n 3, 1) := by decide +kernel
theorem dX1_deliveredBehindOne_65 : decode cX1_deliveredBehindOne 65 = .ok (.if_icmp .ne 12, 3) := by decide +kernel
theorem dX1_deliveredBehindOne_68 : decode cX1_deliveredBehindOne 68 = .ok (.aload_n 0, 1) := by decide +kernel
theorem dX1_deliveredBehindOne_69 : decode cX1_deliveredBehindOne 69 = .ok (.getfield 15, 3) := by decide +kernel
theorem dX1_deliveredBehindOne_72 : decode cX1_deliveredBehindOne 72 = .ok (.invokevirtual 43, 3) := by decide +kernel
theorem dX1_deliveredBehindOne_75 : decode cX1_deliveredBehindOne 75 = .ok (.lstore 4, 2) := by decide +kernel
theorem dX1_deliveredBehindOne_77 : decode cX1_deliveredBehindOne 77 = .ok (.iinc 6 1, 3) := by decide +kernel
theorem dX1_deliveredBehindOne_80 : decode cX1_deliveredBehindOne 80 = .ok (.goto (-74), 3) := by decide +kernel
theorem dX1_deliveredBehindOne_83 : decode cX1_deliveredBehindOne 83 = .ok (.lload 4, 2) := by decide +kernel
theorem dX1_deliveredBehindOne_85 : decode cX1_deliveredBehindOne 85 = .ok (.lreturn, 1) := by decide +kernel
theorem dX2_init_0 : decode cX2_init 0 = .ok (.aload_n 0, 1) := by decide +kernel
theorem dX2_init_1 : decode cX2_init 1 = .ok (.invokespecial 3, 3) := by decide +kernel
theorem dX2_init_4 : decode cX2_init 4 = .ok (.aload_n 0, 1) := by decide +kernel
theorem dX2_init_5 : decode cX2_init 5 = .ok (.bipush 24, 2) := by decide +kernel
theorem dX2_init_7 : decode cX2_init 7 = .ok (.newarray .long, 2) := by decide +kernel
theorem dX2_init_9 : decode cX2_init 9 = .ok (.putfield 9, 3) := by decide +kernel
theorem dX2_init_12 : decode cX2_init 12 = .ok (.aload_n 0, 1) := by decide +kernel
theorem dX2_init_13 : decode cX2_init 13 = .ok (.bipush 24, 2) := by decide +kernel
theorem dX2_init_15 : decode cX2_init 15 = .ok (.newarray .long, 2) := by decide +kernel
theorem dX2_init_17 : decode cX2_init 17 = .ok (.putfield 15, 3) := by decide +kernel
theorem dX2_init_20 : decode cX2_init 20 = .ok (.aload_n 0, 1) := by decide +kernel
theorem dX2_init_21 : decode cX2_init 21 = .ok (.bipush 24, 2) := by decide +kernel
theorem dX2_init_23 : decode cX2_init 23 = .ok (.newarray .long, 2) := by decide +kernel
theorem dX2_init_25 : decode cX2_init 25 = .ok (.putfield 18, 3) := by decide +kernel
theorem dX2_init_28 : decode cX2_init 28 = .ok (.aload_n 0, 1) := by decide +kernel
theorem dX2_init_29 : decode cX2_init 29 = .ok (.aload_n 1, 1) := by decide +kernel
theorem dX2_init_30 : decode cX2_init 30 = .ok (.putfield 21, 3) := by decide +kernel
theorem dX2_init_33 : decode cX2_init 33 = .ok (.return_, 1) := by decide +kernel
theorem dX2_spreadFrom_0 : decode cX2_spreadFrom 0 = .ok (.aload_n 0, 1) := by decide +kernel
theorem dX2_spreadFrom_1 : decode cX2_spreadFrom 1 = .ok (.invokevirtual 25, 3) := by decide +kernel
theorem dX2_spreadFrom_4 : decode cX2_spreadFrom 4 = .ok (.aload_n 0, 1) := by decide +kernel
theorem dX2_spreadFrom_5 : decode cX2_spreadFrom 5 = .ok (.iload_n 1, 1) := by decide +kernel
theorem dX2_spreadFrom_6 : decode cX2_spreadFrom 6 = .ok (.lload_n 2, 1) := by decide +kernel
theorem dX2_spreadFrom_7 : decode cX2_spreadFrom 7 = .ok (.invokevirtual 28, 3) := by decide +kernel
theorem dX2_spreadFrom_10 : decode cX2_spreadFrom 10 = .ok (.aload_n 0, 1) := by decide +kernel
theorem dX2_spreadFrom_11 : decode cX2_spreadFrom 11 = .ok (.invokevirtual 32, 3) := by decide +kernel
theorem dX2_spreadFrom_14 : decode cX2_spreadFrom 14 = .ok (.return_, 1) := by decide +kernel
theorem dX2_leastOrigin_0 : decode cX2_leastOrigin 0 = .ok (.aload_n 0, 1) := by decide +kernel
theorem dX2_leastOrigin_1 : decode cX2_leastOrigin 1 = .ok (.invokevirtual 25, 3) := by decide +kernel
theorem dX2_leastOrigin_4 : decode cX2_leastOrigin 4 = .ok (.iconst 0, 1) := by decide +kernel
theorem dX2_leastOrigin_5 : decode cX2_leastOrigin 5 = .ok (.istore 6, 2) := by decide +kernel
theorem dX2_leastOrigin_7 : decode cX2_leastOrigin 7 = .ok (.iload 6, 2) := by decide +kernel
theorem dX2_leastOrigin_9 : decode cX2_leastOrigin 9 = .ok (.bipush 32, 2) := by decide +kernel
theorem dX2_leastOrigin_11 : decode cX2_leastOrigin 11 = .ok (.if_icmp .ge 49, 3) := by decide +kernel
theorem dX2_leastOrigin_14 : decode cX2_leastOrigin 14 = .ok (.lload_n 2, 1) := by decide +kernel
theorem dX2_leastOrigin_15 : decode cX2_leastOrigin 15 = .ok (.iload 6, 2) := by decide +kernel
theorem dX2_leastOrigin_17 : decode cX2_leastOrigin 17 = .ok (.invokestatic 35, 3) := by decide +kernel
theorem dX2_leastOrigin_20 : decode cX2_leastOrigin 20 = .ok (.ifCond .eq 34, 3) := by decide +kernel
theorem dX2_leastOrigin_23 : decode cX2_leastOrigin 23 = .ok (.aload_n 0, 1) := by decide +kernel
theorem dX2_leastOrigin_24 : decode cX2_leastOrigin 24 = .ok (.iload_n 1, 1) := by decide +kernel
theorem dX2_leastOrigin_25 : decode cX2_leastOrigin 25 = .ok (.lconst 1, 1) := by decide +kernel
theorem dX2_leastOrigin_26 : decode cX2_leastOrigin 26 = .ok (.iload 6, 2) := by decide +kernel
theorem dX2_leastOrigin_28 : decode cX2_leastOrigin 28 = .ok (.lshl, 1) := by decide +kernel
theorem dX2_leastOrigin_29 : decode cX2_leastOrigin 29 = .ok (.invokevirtual 28, 3) := by decide +kernel
theorem dX2_leastOrigin_32 : decode cX2_leastOrigin 32 = .ok (.aload_n 0, 1) := by decide +kernel
theorem dX2_leastOrigin_33 : decode cX2_leastOrigin 33 = .ok (.invokevirtual 32, 3) := by decide +kernel
theorem dX2_leastOrigin_36 : decode cX2_leastOrigin 36 = .ok (.aload_n 0, 1) := by decide +kernel
theorem dX2_leastOrigin_37 : decode cX2_leastOrigin 37 = .ok (.getfield 9, 3) := by decide +kernel
theorem dX2_leastOrigin_40 : decode cX2_leastOrigin 40 = .ok (.iload 4, 2) := by decide +kernel
theorem dX2_leastOrigin_42 : decode cX2_leastOrigin 42 = .ok (.laload, 1) := by decide +kernel
theorem dX2_leastOrigin_43 : decode cX2_leastOrigin 43 = .ok (.iload 5, 2) := by decide +kernel
theorem dX2_leastOrigin_45 : decode cX2_leastOrigin 45 = .ok (.invokestatic 35, 3) := by decide +kernel
theorem dX2_leastOrigin_48 : decode cX2_leastOrigin 48 = .ok (.ifCond .eq 6, 3) := by decide +kernel
theorem dX2_leastOrigin_51 : decode cX2_leastOrigin 51 = .ok (.iload 6, 2) := by decide +kernel
theorem dX2_leastOrigin_53 : decode cX2_leastOrigin 53 = .ok (.ireturn, 1) := by decide +kernel
theorem dX2_leastOrigin_54 : decode cX2_leastOrigin 54 = .ok (.iinc 6 1, 3) := by decide +kernel
theorem dX2_leastOrigin_57 : decode cX2_leastOrigin 57 = .ok (.goto (-50), 3) := by decide +kernel
theorem dX2_leastOrigin_60 : decode cX2_leastOrigin 60 = .ok (.bipush (-6), 2) := by decide +kernel
theorem dX2_leastOrigin_62 : decode cX2_leastOrigin 62 = .ok (.ireturn, 1) := by decide +kernel
theorem dX2_leastLinks_0 : decode cX2_leastLinks 0 = .ok (.aload_n 0, 1) := by decide +kernel
theorem dX2_leastLinks_1 : decode cX2_leastLinks 1 = .ok (.invokevirtual 25, 3) := by decide +kernel
theorem dX2_leastLinks_4 : decode cX2_leastLinks 4 = .ok (.aload_n 0, 1) := by decide +kernel
theorem dX2_leastLinks_5 : decode cX2_leastLinks 5 = .ok (.iload_n 1, 1) := by decide +kernel
theorem dX2_leastLinks_6 : decode cX2_leastLinks 6 = .ok (.lconst 1, 1) := by decide +kernel
theorem dX2_leastLinks_7 : decode cX2_leastLinks 7 = .ok (.iload_n 2, 1) := by decide +kernel
theorem dX2_leastLinks_8 : decode cX2_leastLinks 8 = .ok (.lshl, 1) := by decide +kernel
theorem dX2_leastLinks_9 : decode cX2_leastLinks 9 = .ok (.invokevirtual 28, 3) := by decide +kernel
theorem dX2_leastLinks_12 : decode cX2_leastLinks 12 = .ok (.iconst 0, 1) := by decide +kernel
theorem dX2_leastLinks_13 : decode cX2_leastLinks 13 = .ok (.istore 4, 2) := by decide +kernel
theorem dX2_leastLinks_15 : decode cX2_leastLinks 15 = .ok (.iload 4, 2) := by decide +kernel
theorem dX2_leastLinks_17 : decode cX2_leastLinks 17 = .ok (.sipush 768, 3) := by decide +kernel
theorem dX2_leastLinks_20 : decode cX2_leastLinks 20 = .ok (.if_icmp .gt 33, 3) := by decide +kernel
theorem dX2_leastLinks_23 : decode cX2_leastLinks 23 = .ok (.aload_n 0, 1) := by decide +kernel
theorem dX2_leastLinks_24 : decode cX2_leastLinks 24 = .ok (.getfield 9, 3) := by decide +kernel
theorem dX2_leastLinks_27 : decode cX2_leastLinks 27 = .ok (.iload_n 3, 1) := by decide +kernel
theorem dX2_leastLinks_28 : decode cX2_leastLinks 28 = .ok (.laload, 1) := by decide +kernel
theorem dX2_leastLinks_29 : decode cX2_leastLinks 29 = .ok (.lconst 0, 1) := by decide +kernel
theorem dX2_leastLinks_30 : decode cX2_leastLinks 30 = .ok (.lcmp, 1) := by decide +kernel
theorem dX2_leastLinks_31 : decode cX2_leastLinks 31 = .ok (.ifCond .eq 6, 3) := by decide +kernel
theorem dX2_leastLinks_34 : decode cX2_leastLinks 34 = .ok (.iload 4, 2) := by decide +kernel
theorem dX2_leastLinks_36 : decode cX2_leastLinks 36 = .ok (.ireturn, 1) := by decide +kernel
theorem dX2_leastLinks_37 : decode cX2_leastLinks 37 = .ok (.aload_n 0, 1) := by decide +kernel
theorem dX2_leastLinks_38 : decode cX2_leastLinks 38 = .ok (.invokevirtual 39, 3) := by decide +kernel
theorem dX2_leastLinks_41 : decode cX2_leastLinks 41 = .ok (.ifCond .ne 6, 3) := by decide +kernel
theorem dX2_leastLinks_44 : decode cX2_leastLinks 44 = .ok (.bipush (-6), 2) := by decide +kernel
theorem dX2_leastLinks_46 : decode cX2_leastLinks 46 = .ok (.ireturn, 1) := by decide +kernel
theorem dX2_leastLinks_47 : decode cX2_leastLinks 47 = .ok (.iinc 4 1, 3) := by decide +kernel
theorem dX2_leastLinks_50 : decode cX2_leastLinks 50 = .ok (.goto (-35), 3) := by decide +kernel
theorem dX2_leastLinks_53 : decode cX2_leastLinks 53 = .ok (.bipush (-6), 2) := by decide +kernel
theorem dX2_leastLinks_55 : decode cX2_leastLinks 55 = .ok (.ireturn, 1) := by decide +kernel
theorem dX2_countArrived_0 : decode cX2_countArrived 0 = .ok (.iconst 0, 1) := by decide +kernel
theorem dX2_countArrived_1 : decode cX2_countArrived 1 = .ok (.istore_n 2, 1) := by decide +kernel
theorem dX2_countArrived_2 : decode cX2_countArrived 2 = .ok (.iconst 0, 1) := by decide +kernel
theorem dX2_countArrived_3 : decode cX2_countArrived 3 = .ok (.istore_n 3, 1) := by decide +kernel
theorem dX2_countArrived_4 : decode cX2_countArrived 4 = .ok (.iload_n 3, 1) := by decide +kernel
theorem dX2_countArrived_5 : decode cX2_countArrived 5 = .ok (.iconst 4, 1) := by decide +kernel
theorem dX2_countArrived_6 : decode cX2_countArrived 6 = .ok (.if_icmp .ge 25, 3) := by decide +kernel
theorem dX2_countArrived_9 : decode cX2_countArrived 9 = .ok (.iload_n 2, 1) := by decide +kernel
theorem dX2_countArrived_10 : decode cX2_countArrived 10 = .ok (.aload_n 0, 1) := by decide +kernel
theorem dX2_countArrived_11 : decode cX2_countArrived 11 = .ok (.getfield 9, 3) := by decide +kernel
theorem dX2_countArrived_14 : decode cX2_countArrived 14 = .ok (.iload_n 1, 1) := by decide +kernel
theorem dX2_countArrived_15 : decode cX2_countArrived 15 = .ok (.iload_n 3, 1) := by decide +kernel
theorem dX2_countArrived_16 : decode cX2_countArrived 16 = .ok (.invokestatic 43, 3) := by decide +kernel
theorem dX2_countArrived_19 : decode cX2_countArrived 19 = .ok (.laload, 1) := by decide +kernel
theorem dX2_countArrived_20 : decode cX2_countArrived 20 = .ok (.invokestatic 47, 3) := by decide +kernel
theorem dX2_countArrived_23 : decode cX2_countArrived 23 = .ok (.iadd, 1) := by decide +kernel
theorem dX2_countArrived_24 : decode cX2_countArrived 24 = .ok (.istore_n 2, 1) := by decide +kernel
theorem dX2_countArrived_25 : decode cX2_countArrived 25 = .ok (.iinc 3 1, 3) := by decide +kernel
theorem dX2_countArrived_28 : decode cX2_countArrived 28 = .ok (.goto (-24), 3) := by decide +kernel
theorem dX2_countArrived_31 : decode cX2_countArrived 31 = .ok (.iload_n 2, 1) := by decide +kernel
theorem dX2_countArrived_32 : decode cX2_countArrived 32 = .ok (.ireturn, 1) := by decide +kernel
theorem dX2_countLost_0 : decode cX2_countLost 0 = .ok (.aload_n 0, 1) := by decide +kernel
theorem dX2_countLost_1 : decode cX2_countLost 1 = .ok (.getfield 21, 3) := by decide +kernel
theorem dX2_countLost_4 : decode cX2_countLost 4 = .ok (.getfield 53, 3) := by decide +kernel
theorem dX2_countLost_7 : decode cX2_countLost 7 = .ok (.iload_n 1, 1) := by decide +kernel
theorem dX2_countLost_8 : decode cX2_countLost 8 = .ok (.aaload, 1) := by decide +kernel
theorem dX2_countLost_9 : decode cX2_countLost 9 = .ok (.astore_n 2, 1) := by decide +kernel
theorem dX2_countLost_10 : decode cX2_countLost 10 = .ok (.iconst 0, 1) := by decide +kernel
theorem dX2_countLost_11 : decode cX2_countLost 11 = .ok (.istore_n 3, 1) := by decide +kernel
theorem dX2_countLost_12 : decode cX2_countLost 12 = .ok (.iconst 0, 1) := by decide +kernel
theorem dX2_countLost_13 : decode cX2_countLost 13 = .ok (.istore 4, 2) := by decide +kernel
theorem dX2_countLost_15 : decode cX2_countLost 15 = .ok (.iload 4, 2) := by decide +kernel
theorem dX2_countLost_17 : decode cX2_countLost 17 = .ok (.iconst 4, 1) := by decide +kernel
theorem dX2_countLost_18 : decode cX2_countLost 18 = .ok (.if_icmp .ge 36, 3) := by decide +kernel
theorem dX2_countLost_21 : decode cX2_countLost 21 = .ok (.iload_n 3, 1) := by decide +kernel
theorem dX2_countLost_22 : decode cX2_countLost 22 = .ok (.aload_n 2, 1) := by decide +kernel
theorem dX2_countLost_23 : decode cX2_countLost 23 = .ok (.aload_n 2, 1) := by decide +kernel
theorem dX2_countLost_24 : decode cX2_countLost 24 = .ok (.getfield 59, 3) := by decide +kernel
theorem dX2_countLost_27 : decode cX2_countLost 27 = .ok (.iload 4, 2) := by decide +kernel
theorem dX2_countLost_29 : decode cX2_countLost 29 = .ok (.aload_n 0, 1) := by decide +kernel
theorem dX2_countLost_30 : decode cX2_countLost 30 = .ok (.getfield 9, 3) := by decide +kernel
theorem dX2_countLost_33 : decode cX2_countLost 33 = .ok (.iload_n 1, 1) := by decide +kernel
theorem dX2_countLost_34 : decode cX2_countLost 34 = .ok (.iload 4, 2) := by decide +kernel
theorem dX2_countLost_36 : decode cX2_countLost 36 = .ok (.invokestatic 43, 3) := by decide +kernel
theorem dX2_countLost_39 : decode cX2_countLost 39 = .ok (.laload, 1) := by decide +kernel
theorem dX2_countLost_40 : decode cX2_countLost 40 = .ok (.invokevirtual 65, 3) := by decide +kernel
theorem dX2_countLost_43 : decode cX2_countLost 43 = .ok (.invokestatic 47, 3) := by decide +kernel
theorem dX2_countLost_46 : decode cX2_countLost 46 = .ok (.iadd, 1) := by decide +kernel
theorem dX2_countLost_47 : decode cX2_countLost 47 = .ok (.istore_n 3, 1) := by decide +kernel
theorem dX2_countLost_48 : decode cX2_countLost 48 = .ok (.iinc 4 1, 3) := by decide +kernel
theorem dX2_countLost_51 : decode cX2_countLost 51 = .ok (.goto (-36), 3) := by decide +kernel
theorem dX2_countLost_54 : decode cX2_countLost 54 = .ok (.iload_n 3, 1) := by decide +kernel
theorem dX2_countLost_55 : decode cX2_countLost 55 = .ok (.ireturn, 1) := by decide +kernel
theorem dX2_countDropped_0 : decode cX2_countDropped 0 = .ok (.aload_n 0, 1) := by decide +kernel
theorem dX2_countDropped_1 : decode cX2_countDropped 1 = .ok (.getfield 21, 3) := by decide +kernel
theorem dX2_countDropped_4 : decode cX2_countDropped 4 = .ok (.getfield 53, 3) := by decide +kernel
theorem dX2_countDropped_7 : decode cX2_countDropped 7 = .ok (.iload_n 1, 1) := by decide +kernel
theorem dX2_countDropped_8 : decode cX2_countDropped 8 = .ok (.aaload, 1) := by decide +kernel
theorem dX2_countDropped_9 : decode cX2_countDropped 9 = .ok (.astore_n 2, 1) := by decide +kernel
theorem dX2_countDropped_10 : decode cX2_countDropped 10 = .ok (.iconst 0, 1) := by decide +kernel
theorem dX2_countDropped_11 : decode cX2_countDropped 11 = .ok (.istore_n 3, 1) := by decide +kernel
theorem dX2_countDropped_12 : decode cX2_countDropped 12 = .ok (.iconst 0, 1) := by decide +kernel
theorem dX2_countDropped_13 : decode cX2_countDropped 13 = .ok (.istore 4, 2) := by decide +kernel
theorem dX2_countDropped_15 : decode cX2_countDropped 15 = .ok (.iload 4, 2) := by decide +kernel
theorem dX2_countDropped_17 : decode cX2_countDropped 17 = .ok (.aload_n 2, 1) := by decide +kernel
theorem dX2_countDropped_18 : decode cX2_countDropped 18 = .ok (.getfield 59, 3) := by decide +kernel
theorem dX2_countDropped_21 : decode cX2_countDropped 21 = .ok (.if_icmp .ge 32, 3) := by decide +kernel
theorem dX2_countDropped_24 : decode cX2_countDropped 24 = .ok (.aload_n 2, 1) := by decide +kernel
theorem dX2_countDropped_25 : decode cX2_countDropped 25 = .ok (.getfield 69, 3) := by decide +kernel
theorem dX2_countDropped_28 : decode cX2_countDropped 28 = .ok (.iload 4, 2) := by decide +kernel
theorem dX2_countDropped_30 : decode cX2_countDropped 30 = .ok (.aaload, 1) := by decide +kernel
theorem dX2_countDropped_31 : decode cX2_countDropped 31 = .ok (.getfield 73, 3) := by decide +kernel
theorem dX2_countDropped_34 : decode cX2_countDropped 34 = .ok (.ifCond .ne 13, 3) := by decide +kernel
theorem dX2_countDropped_37 : decode cX2_countDropped 37 = .ok (.iload_n 3, 1) := by decide +kernel
theorem dX2_countDropped_38 : decode cX2_countDropped 38 = .ok (.aload_n 0, 1) := by decide +kernel
theorem dX2_countDropped_39 : decode cX2_countDropped 39 = .ok (.iload_n 1, 1) := by decide +kernel
theorem dX2_countDropped_40 : decode cX2_countDropped 40 = .ok (.iload 4, 2) := by decide +kernel
theorem dX2_countDropped_42 : decode cX2_countDropped 42 = .ok (.invokevirtual 78, 3) := by decide +kernel
theorem dX2_countDropped_45 : decode cX2_countDropped 45 = .ok (.iadd, 1) := by decide +kernel
theorem dX2_countDropped_46 : decode cX2_countDropped 46 = .ok (.istore_n 3, 1) := by decide +kernel
theorem dX2_countDropped_47 : decode cX2_countDropped 47 = .ok (.iinc 4 1, 3) := by decide +kernel
theorem dX2_countDropped_50 : decode cX2_countDropped 50 = .ok (.goto (-35), 3) := by decide +kernel
theorem dX2_countDropped_53 : decode cX2_countDropped 53 = .ok (.iload_n 3, 1) := by decide +kernel
theorem dX2_countDropped_54 : decode cX2_countDropped 54 = .ok (.ireturn, 1) := by decide +kernel
theorem dX2_countHandled_0 : decode cX2_countHandled 0 = .ok (.aload_n 0, 1) := by decide +kernel
theorem dX2_countHandled_1 : decode cX2_countHandled 1 = .ok (.getfield 21, 3) := by decide +kernel
theorem dX2_countHandled_4 : decode cX2_countHandled 4 = .ok (.getfield 53, 3) := by decide +kernel
theorem dX2_countHandled_7 : decode cX2_countHandled 7 = .ok (.iload_n 1, 1) := by decide +kernel
theorem dX2_countHandled_8 : decode cX2_countHandled 8 = .ok (.aaload, 1) := by decide +kernel
theorem dX2_countHandled_9 : decode cX2_countHandled 9 = .ok (.astore_n 3, 1) := by decide +kernel
theorem dX2_countHandled_10 : decode cX2_countHandled 10 = .ok (.iconst 0, 1) := by decide +kernel
theorem dX2_countHandled_11 : decode cX2_countHandled 11 = .ok (.istore 4, 2) := by decide +kernel
theorem dX2_countHandled_13 : decode cX2_countHandled 13 = .ok (.iconst 0, 1) := by decide +kernel
theorem dX2_countHandled_14 : decode cX2_countHandled 14 = .ok (.istore 5, 2) := by decide +kernel
theorem dX2_countHandled_16 : decode cX2_countHandled 16 = .ok (.iload 5, 2) := by decide +kernel
theorem dX2_countHandled_18 : decode cX2_countHandled 18 = .ok (.iconst 4, 1) := by decide +kernel
theorem dX2_countHandled_19 : decode cX2_countHandled 19 = .ok (.if_icmp .ge 35, 3) := by decide +kernel
theorem dX2_countHandled_22 : decode cX2_countHandled 22 = .ok (.iload 4, 2) := by decide +kernel
theorem dX2_countHandled_24 : decode cX2_countHandled 24 = .ok (.aload_n 3, 1) := by decide +kernel
theorem dX2_countHandled_25 : decode cX2_countHandled 25 = .ok (.iload_n 2, 1) := by decide +kernel
theorem dX2_countHandled_26 : decode cX2_countHandled 26 = .ok (.iload 5, 2) := by decide +kernel
theorem dX2_countHandled_28 : decode cX2_countHandled 28 = .ok (.aload_n 0, 1) := by decide +kernel
theorem dX2_countHandled_29 : decode cX2_countHandled 29 = .ok (.getfield 9, 3) := by decide +kernel
theorem dX2_countHandled_32 : decode cX2_countHandled 32 = .ok (.iload_n 1, 1) := by decide +kernel
theorem dX2_countHandled_33 : decode cX2_countHandled 33 = .ok (.iload 5, 2) := by decide +kernel
theorem dX2_countHandled_35 : decode cX2_countHandled 35 = .ok (.invokestatic 43, 3) := by decide +kernel
theorem dX2_countHandled_38 : decode cX2_countHandled 38 = .ok (.laload, 1) := by decide +kernel
theorem dX2_countHandled_39 : decode cX2_countHandled 39 = .ok (.invokevirtual 81, 3) := by decide +kernel
theorem dX2_countHandled_42 : decode cX2_countHandled 42 = .ok (.invokestatic 47, 3) := by decide +kernel
theorem dX2_countHandled_45 : decode cX2_countHandled 45 = .ok (.iadd, 1) := by decide +kernel
theorem dX2_countHandled_46 : decode cX2_countHandled 46 = .ok (.istore 4, 2) := by decide +kernel
theorem dX2_countHandled_48 : decode cX2_countHandled 48 = .ok (.iinc 5 1, 3) := by decide +kernel
theorem dX2_countHandled_51 : decode cX2_countHandled 51 = .ok (.goto (-35), 3) := by decide +kernel
theorem dX2_countHandled_54 : decode cX2_countHandled 54 = .ok (.iload 4, 2) := by decide +kernel
theorem dX2_countHandled_56 : decode cX2_countHandled 56 = .ok (.ireturn, 1) := by decide +kernel
theorem dX2_deliveredAt_0 : decode cX2_deliveredAt 0 = .ok (.aload_n 0, 1) := by decide +kernel
theorem dX2_deliveredAt_1 : decode cX2_deliveredAt 1 = .ok (.getfield 21, 3) := by decide +kernel
theorem dX2_deliveredAt_4 : decode cX2_deliveredAt 4 = .ok (.getfield 84, 3) := by decide +kernel
theorem dX2_deliveredAt_7 : decode cX2_deliveredAt 7 = .ok (.iload_n 1, 1) := by decide +kernel
theorem dX2_deliveredAt_8 : decode cX2_deliveredAt 8 = .ok (.iload_n 2, 1) := by decide +kernel
theorem dX2_deliveredAt_9 : decode cX2_deliveredAt 9 = .ok (.invokestatic 43, 3) := by decide +kernel
theorem dX2_deliveredAt_12 : decode cX2_deliveredAt 12 = .ok (.iaload, 1) := by decide +kernel
theorem dX2_deliveredAt_13 : decode cX2_deliveredAt 13 = .ok (.iconst (-1), 1) := by decide +kernel
theorem dX2_deliveredAt_14 : decode cX2_deliveredAt 14 = .ok (.if_icmp .eq 5, 3) := by decide +kernel
theorem dX2_deliveredAt_17 : decode cX2_deliveredAt 17 = .ok (.lconst 0, 1) := by decide +kernel
theorem dX2_deliveredAt_18 : decode cX2_deliveredAt 18 = .ok (.lreturn, 1) := by decide +kernel
theorem dX2_deliveredAt_19 : decode cX2_deliveredAt 19 = .ok (.aload_n 0, 1) := by decide +kernel
theorem dX2_deliveredAt_20 : decode cX2_deliveredAt 20 = .ok (.getfield 21, 3) := by decide +kernel
theorem dX2_deliveredAt_23 : decode cX2_deliveredAt 23 = .ok (.getfield 53, 3) := by decide +kernel
theorem dX2_deliveredAt_26 : decode cX2_deliveredAt 26 = .ok (.iload_n 1, 1) := by decide +kernel
theorem dX2_deliveredAt_27 : decode cX2_deliveredAt 27 = .ok (.aaload, 1) := by decide +kernel
theorem dX2_deliveredAt_28 : decode cX2_deliveredAt 28 = .ok (.astore_n 3, 1) := by decide +kernel
theorem dX2_deliveredAt_29 : decode cX2_deliveredAt 29 = .ok (.lconst 0, 1) := by decide +kernel
theorem dX2_deliveredAt_30 : decode cX2_deliveredAt 30 = .ok (.lstore 4, 2) := by decide +kernel
theorem dX2_deliveredAt_32 : decode cX2_deliveredAt 32 = .ok (.iconst 0, 1) := by decide +kernel
theorem dX2_deliveredAt_33 : decode cX2_deliveredAt 33 = .ok (.istore 6, 2) := by decide +kernel
theorem dX2_deliveredAt_35 : decode cX2_deliveredAt 35 = .ok (.iload 6, 2) := by decide +kernel
theorem dX2_deliveredAt_37 : decode cX2_deliveredAt 37 = .ok (.aload_n 3, 1) := by decide +kernel
theorem dX2_deliveredAt_38 : decode cX2_deliveredAt 38 = .ok (.getfield 59, 3) := by decide +kernel
theorem dX2_deliveredAt_41 : decode cX2_deliveredAt 41 = .ok (.if_icmp .ge 47, 3) := by decide +kernel
theorem dX2_deliveredAt_44 : decode cX2_deliveredAt 44 = .ok (.aload_n 3, 1) := by decide +kernel
theorem dX2_deliveredAt_45 : decode cX2_deliveredAt 45 = .ok (.getfield 69, 3) := by decide +kernel
theorem dX2_deliveredAt_48 : decode cX2_deliveredAt 48 = .ok (.iload 6, 2) := by decide +kernel
theorem dX2_deliveredAt_50 : decode cX2_deliveredAt 50 = .ok (.aaload, 1) := by decide +kernel
theorem dX2_deliveredAt_51 : decode cX2_deliveredAt 51 = .ok (.astore 7, 2) := by decide +kernel
theorem dX2_deliveredAt_53 : decode cX2_deliveredAt 53 = .ok (.aload 7, 2) := by decide +kernel
theorem dX2_deliveredAt_55 : decode cX2_deliveredAt 55 = .ok (.getfield 73, 3) := by decide +kernel
theorem dX2_deliveredAt_58 : decode cX2_deliveredAt 58 = .ok (.iload_n 2, 1) := by decide +kernel
theorem dX2_deliveredAt_59 : decode cX2_deliveredAt 59 = .ok (.invokestatic 88, 3) := by decide +kernel
theorem dX2_deliveredAt_62 : decode cX2_deliveredAt 62 = .ok (.ifCond .eq 20, 3) := by decide +kernel
theorem dX2_deliveredAt_65 : decode cX2_deliveredAt 65 = .ok (.lload 4, 2) := by decide +kernel
theorem dX2_deliveredAt_67 : decode cX2_deliveredAt 67 = .ok (.aload 7, 2) := by decide +kernel
theorem dX2_deliveredAt_69 : decode cX2_deliveredAt 69 = .ok (.aload_n 0, 1) := by decide +kernel
theorem dX2_deliveredAt_70 : decode cX2_deliveredAt 70 = .ok (.iload_n 1, 1) := by decide +kernel
theorem dX2_deliveredAt_71 : decode cX2_deliveredAt 71 = .ok (.iload 6, 2) := by decide +kernel
theorem dX2_deliveredAt_73 : decode cX2_deliveredAt 73 = .ok (.invokevirtual 92, 3) := by decide +kernel
theorem dX2_deliveredAt_76 : decode cX2_deliveredAt 76 = .ok (.invokevirtual 96, 3) := by decide +kernel
theorem dX2_deliveredAt_79 : decode cX2_deliveredAt 79 = .ok (.lor, 1) := by decide +kernel
theorem dX2_deliveredAt_80 : decode cX2_deliveredAt 80 = .ok (.lstore 4, 2) := by decide +kernel
theorem dX2_deliveredAt_82 : decode cX2_deliveredAt 82 = .ok (.iinc 6 1, 3) := by decide +kernel
theorem dX2_deliveredAt_85 : decode cX2_deliveredAt 85 = .ok (.goto (-50), 3) := by decide +kernel
theorem dX2_deliveredAt_88 : decode cX2_deliveredAt 88 = .ok (.lload 4, 2) := by decide +kernel
theorem dX2_deliveredAt_90 : decode cX2_deliveredAt 90 = .ok (.lreturn, 1) := by decide +kernel
theorem dX2_allHandled_0 : decode cX2_allHandled 0 = .ok (.aload_n 0, 1) := by decide +kernel
theorem dX2_allHandled_1 : decode cX2_allHandled 1 = .ok (.getfield 21, 3) := by decide +kernel
theorem dX2_allHandled_4 : decode cX2_allHandled 4 = .ok (.getfield 53, 3) := by decide +kernel
theorem dX2_allHandled_7 : decode cX2_allHandled 7 = .ok (.iload_n 1, 1) := by decide +kernel
theorem dX2_allHandled_8 : decode cX2_allHandled 8 = .ok (.aaload, 1) := by decide +kernel
theorem dX2_allHandled_9 : decode cX2_allHandled 9 = .ok (.astore_n 3, 1) := by decide +kernel
theorem dX2_allHandled_10 : decode cX2_allHandled 10 = .ok (.lconst 0, 1) := by decide +kernel
theorem dX2_allHandled_11 : decode cX2_allHandled 11 = .ok (.lstore 4, 2) := by decide +kernel
theorem dX2_allHandled_13 : decode cX2_allHandled 13 = .ok (.iconst 0, 1) := by decide +kernel
theorem dX2_allHandled_14 : decode cX2_allHandled 14 = .ok (.istore 6, 2) := by decide +kernel
theorem dX2_allHandled_16 : decode cX2_allHandled 16 = .ok (.iload 6, 2) := by decide +kernel
theorem dX2_allHandled_18 : decode cX2_allHandled 18 = .ok (.iconst 4, 1) := by decide +kernel
theorem dX2_allHandled_19 : decode cX2_allHandled 19 = .ok (.if_icmp .ge 32, 3) := by decide +kernel
theorem dX2_allHandled_22 : decode cX2_allHandled 22 = .ok (.lload 4, 2) := by decide +kernel
theorem dX2_allHandled_24 : decode cX2_allHandled 24 = .ok (.aload_n 3, 1) := by decide +kernel
theorem dX2_allHandled_25 : decode cX2_allHandled 25 = .ok (.iload_n 2, 1) := by decide +kernel
theorem dX2_allHandled_26 : decode cX2_allHandled 26 = .ok (.iload 6, 2) := by decide +kernel
theorem dX2_allHandled_28 : decode cX2_allHandled 28 = .ok (.aload_n 0, 1) := by decide +kernel
theorem dX2_allHandled_29 : decode cX2_allHandled 29 = .ok (.getfield 9, 3) := by decide +kernel
theorem dX2_allHandled_32 : decode cX2_allHandled 32 = .ok (.iload_n 1, 1) := by decide +kernel
theorem dX2_allHandled_33 : decode cX2_allHandled 33 = .ok (.iload 6, 2) := by decide +kernel
theorem dX2_allHandled_35 : decode cX2_allHandled 35 = .ok (.invokestatic 43, 3) := by decide +kernel
theorem dX2_allHandled_38 : decode cX2_allHandled 38 = .ok (.laload, 1) := by decide +kernel
theorem dX2_allHandled_39 : decode cX2_allHandled 39 = .ok (.invokevirtual 81, 3) := by decide +kernel
theorem dX2_allHandled_42 : decode cX2_allHandled 42 = .ok (.lor, 1) := by decide +kernel
theorem dX2_allHandled_43 : decode cX2_allHandled 43 = .ok (.lstore 4, 2) := by decide +kernel
theorem dX2_allHandled_45 : decode cX2_allHandled 45 = .ok (.iinc 6 1, 3) := by decide +kernel
theorem dX2_allHandled_48 : decode cX2_allHandled 48 = .ok (.goto (-32), 3) := by decide +kernel
theorem dX2_allHandled_51 : decode cX2_allHandled 51 = .ok (.lload 4, 2) := by decide +kernel
theorem dX2_allHandled_53 : decode cX2_allHandled 53 = .ok (.lreturn, 1) := by decide +kernel
theorem dX2_forget_0 : decode cX2_forget 0 = .ok (.aload_n 0, 1) := by decide +kernel
theorem dX2_forget_1 : decode cX2_forget 1 = .ok (.getfield 9, 3) := by decide +kernel
theorem dX2_forget_4 : decode cX2_forget 4 = .ok (.lconst 0, 1) := by decide +kernel
theorem dX2_forget_5 : decode cX2_forget 5 = .ok (.invokestatic 100, 3) := by decide +kernel
theorem dX2_forget_8 : decode cX2_forget 8 = .ok (.aload_n 0, 1) := by decide +kernel
theorem dX2_forget_9 : decode cX2_forget 9 = .ok (.getfield 15, 3) := by decide +kernel
theorem dX2_forget_12 : decode cX2_forget 12 = .ok (.lconst 0, 1) := by decide +kernel
theorem dX2_forget_13 : decode cX2_forget 13 = .ok (.invokestatic 100, 3) := by decide +kernel
theorem dX2_forget_16 : decode cX2_forget 16 = .ok (.aload_n 0, 1) := by decide +kernel
theorem dX2_forget_17 : decode cX2_forget 17 = .ok (.getfield 18, 3) := by decide +kernel
theorem dX2_forget_20 : decode cX2_forget 20 = .ok (.lconst 0, 1) := by decide +kernel
theorem dX2_forget_21 : decode cX2_forget 21 = .ok (.invokestatic 100, 3) := by decide +kernel
theorem dX2_forget_24 : decode cX2_forget 24 = .ok (.return_, 1) := by decide +kernel
theorem dX2_enter_0 : decode cX2_enter 0 = .ok (.aload_n 0, 1) := by decide +kernel
theorem dX2_enter_1 : decode cX2_enter 1 = .ok (.getfield 15, 3) := by decide +kernel
theorem dX2_enter_4 : decode cX2_enter 4 = .ok (.iload_n 1, 1) := by decide +kernel
theorem dX2_enter_5 : decode cX2_enter 5 = .ok (.lload_n 2, 1) := by decide +kernel
theorem dX2_enter_6 : decode cX2_enter 6 = .ok (.aload_n 0, 1) := by decide +kernel
theorem dX2_enter_7 : decode cX2_enter 7 = .ok (.getfield 9, 3) := by decide +kernel
theorem dX2_enter_10 : decode cX2_enter 10 = .ok (.iload_n 1, 1) := by decide +kernel
theorem dX2_enter_11 : decode cX2_enter 11 = .ok (.laload, 1) := by decide +kernel
theorem dX2_enter_12 : decode cX2_enter 12 = .ok (.ldc2_w 106, 3) := by decide +kernel
theorem dX2_enter_15 : decode cX2_enter 15 = .ok (.lxor, 1) := by decide +kernel
theorem dX2_enter_16 : decode cX2_enter 16 = .ok (.land, 1) := by decide +kernel
theorem dX2_enter_17 : decode cX2_enter 17 = .ok (.lastore, 1) := by decide +kernel
theorem dX2_enter_18 : decode cX2_enter 18 = .ok (.aload_n 0, 1) := by decide +kernel
theorem dX2_enter_19 : decode cX2_enter 19 = .ok (.getfield 9, 3) := by decide +kernel
theorem dX2_enter_22 : decode cX2_enter 22 = .ok (.iload_n 1, 1) := by decide +kernel
theorem dX2_enter_23 : decode cX2_enter 23 = .ok (.dup2, 1) := by decide +kernel
theorem dX2_enter_24 : decode cX2_enter 24 = .ok (.laload, 1) := by decide +kernel
theorem dX2_enter_25 : decode cX2_enter 25 = .ok (.lload_n 2, 1) := by decide +kernel
theorem dX2_enter_26 : decode cX2_enter 26 = .ok (.lor, 1) := by decide +kernel
theorem dX2_enter_27 : decode cX2_enter 27 = .ok (.lastore, 1) := by decide +kernel
theorem dX2_enter_28 : decode cX2_enter 28 = .ok (.return_, 1) := by decide +kernel
theorem dX2_spread_0 : decode cX2_spread 0 = .ok (.iconst 1, 1) := by decide +kernel
theorem dX2_spread_1 : decode cX2_spread 1 = .ok (.istore_n 1, 1) := by decide +kernel
theorem dX2_spread_2 : decode cX2_spread 2 = .ok (.iconst 0, 1) := by decide +kernel
theorem dX2_spread_3 : decode cX2_spread 3 = .ok (.istore_n 2, 1) := by decide +kernel
theorem dX2_spread_4 : decode cX2_spread 4 = .ok (.iload_n 1, 1) := by decide +kernel
theorem dX2_spread_5 : decode cX2_spread 5 = .ok (.ifCond .eq 21, 3) := by decide +kernel
theorem dX2_spread_8 : decode cX2_spread 8 = .ok (.iload_n 2, 1) := by decide +kernel
theorem dX2_spread_9 : decode cX2_spread 9 = .ok (.sipush 768, 3) := by decide +kernel
theorem dX2_spread_12 : decode cX2_spread 12 = .ok (.if_icmp .gt 14, 3) := by decide +kernel
theorem dX2_spread_15 : decode cX2_spread 15 = .ok (.aload_n 0, 1) := by decide +kernel
theorem dX2_spread_16 : decode cX2_spread 16 = .ok (.invokevirtual 39, 3) := by decide +kernel
theorem dX2_spread_19 : decode cX2_spread 19 = .ok (.istore_n 1, 1) := by decide +kernel
theorem dX2_spread_20 : decode cX2_spread 20 = .ok (.iinc 2 1, 3) := by decide +kernel
theorem dX2_spread_23 : decode cX2_spread 23 = .ok (.goto (-19), 3) := by decide +kernel
theorem dX2_spread_26 : decode cX2_spread 26 = .ok (.return_, 1) := by decide +kernel
theorem dX2_goOneLink_0 : decode cX2_goOneLink 0 = .ok (.iconst 0, 1) := by decide +kernel
theorem dX2_goOneLink_1 : decode cX2_goOneLink 1 = .ok (.istore_n 1, 1) := by decide +kernel
theorem dX2_goOneLink_2 : decode cX2_goOneLink 2 = .ok (.iload_n 1, 1) := by decide +kernel
theorem dX2_goOneLink_3 : decode cX2_goOneLink 3 = .ok (.bipush 24, 2) := by decide +kernel
theorem dX2_goOneLink_5 : decode cX2_goOneLink 5 = .ok (.if_icmp .ge 31, 3) := by decide +kernel
theorem dX2_goOneLink_8 : decode cX2_goOneLink 8 = .ok (.aload_n 0, 1) := by decide +kernel
theorem dX2_goOneLink_9 : decode cX2_goOneLink 9 = .ok (.getfield 15, 3) := by decide +kernel
theorem dX2_goOneLink_12 : decode cX2_goOneLink 12 = .ok (.iload_n 1, 1) := by decide +kernel
theorem dX2_goOneLink_13 : decode cX2_goOneLink 13 = .ok (.laload, 1) := by decide +kernel
theorem dX2_goOneLink_14 : decode cX2_goOneLink 14 = .ok (.lconst 0, 1) := by decide +kernel
theorem dX2_goOneLink_15 : decode cX2_goOneLink 15 = .ok (.lcmp, 1) := by decide +kernel
theorem dX2_goOneLink_16 : decode cX2_goOneLink 16 = .ok (.ifCond .eq 14, 3) := by decide +kernel
theorem dX2_goOneLink_19 : decode cX2_goOneLink 19 = .ok (.aload_n 0, 1) := by decide +kernel
theorem dX2_goOneLink_20 : decode cX2_goOneLink 20 = .ok (.iload_n 1, 1) := by decide +kernel
theorem dX2_goOneLink_21 : decode cX2_goOneLink 21 = .ok (.aload_n 0, 1) := by decide +kernel
theorem dX2_goOneLink_22 : decode cX2_goOneLink 22 = .ok (.getfield 15, 3) := by decide +kernel
theorem dX2_goOneLink_25 : decode cX2_goOneLink 25 = .ok (.iload_n 1, 1) := by decide +kernel
theorem dX2_goOneLink_26 : decode cX2_goOneLink 26 = .ok (.laload, 1) := by decide +kernel
theorem dX2_goOneLink_27 : decode cX2_goOneLink 27 = .ok (.invokevirtual 108, 3) := by decide +kernel
theorem dX2_goOneLink_30 : decode cX2_goOneLink 30 = .ok (.iinc 1 1, 3) := by decide +kernel
theorem dX2_goOneLink_33 : decode cX2_goOneLink 33 = .ok (.goto (-31), 3) := by decide +kernel
theorem dX2_goOneLink_36 : decode cX2_goOneLink 36 = .ok (.iconst 0, 1) := by decide +kernel
theorem dX2_goOneLink_37 : decode cX2_goOneLink 37 = .ok (.istore_n 1, 1) := by decide +kernel
theorem dX2_goOneLink_38 : decode cX2_goOneLink 38 = .ok (.iconst 0, 1) := by decide +kernel
theorem dX2_goOneLink_39 : decode cX2_goOneLink 39 = .ok (.istore_n 2, 1) := by decide +kernel
theorem dX2_goOneLink_40 : decode cX2_goOneLink 40 = .ok (.iload_n 2, 1) := by decide +kernel
theorem dX2_goOneLink_41 : decode cX2_goOneLink 41 = .ok (.bipush 24, 2) := by decide +kernel
theorem dX2_goOneLink_43 : decode cX2_goOneLink 43 = .ok (.if_icmp .ge 64, 3) := by decide +kernel
theorem dX2_goOneLink_46 : decode cX2_goOneLink 46 = .ok (.aload_n 0, 1) := by decide +kernel
theorem dX2_goOneLink_47 : decode cX2_goOneLink 47 = .ok (.getfield 15, 3) := by decide +kernel
theorem dX2_goOneLink_50 : decode cX2_goOneLink 50 = .ok (.iload_n 2, 1) := by decide +kernel
theorem dX2_goOneLink_51 : decode cX2_goOneLink 51 = .ok (.aload_n 0, 1) := by decide +kernel
theorem dX2_goOneLink_52 : decode cX2_goOneLink 52 = .ok (.getfield 18, 3) := by decide +kernel
theorem dX2_goOneLink_55 : decode cX2_goOneLink 55 = .ok (.iload_n 2, 1) := by decide +kernel
theorem dX2_goOneLink_56 : decode cX2_goOneLink 56 = .ok (.laload, 1) := by decide +kernel
theorem dX2_goOneLink_57 : decode cX2_goOneLink 57 = .ok (.lastore, 1) := by decide +kernel
theorem dX2_goOneLink_58 : decode cX2_goOneLink 58 = .ok (.aload_n 0, 1) := by decide +kernel
theorem dX2_goOneLink_59 : decode cX2_goOneLink 59 = .ok (.getfield 9, 3) := by decide +kernel
theorem dX2_goOneLink_62 : decode cX2_goOneLink 62 = .ok (.iload_n 2, 1) := by decide +kernel
theorem dX2_goOneLink_63 : decode cX2_goOneLink 63 = .ok (.dup2, 1) := by decide +kernel
theorem dX2_goOneLink_64 : decode cX2_goOneLink 64 = .ok (.laload, 1) := by decide +kernel
theorem dX2_goOneLink_65 : decode cX2_goOneLink 65 = .ok (.aload_n 0, 1) := by decide +kernel
theorem dX2_goOneLink_66 : decode cX2_goOneLink 66 = .ok (.getfield 18, 3) := by decide +kernel
theorem dX2_goOneLink_69 : decode cX2_goOneLink 69 = .ok (.iload_n 2, 1) := by decide +kernel
theorem dX2_goOneLink_70 : decode cX2_goOneLink 70 = .ok (.laload, 1) := by decide +kernel
theorem dX2_goOneLink_71 : decode cX2_goOneLink 71 = .ok (.lor, 1) := by decide +kernel
theorem dX2_goOneLink_72 : decode cX2_goOneLink 72 = .ok (.lastore, 1) := by decide +kernel
theorem dX2_goOneLink_73 : decode cX2_goOneLink 73 = .ok (.iload_n 1, 1) := by decide +kernel
theorem dX2_goOneLink_74 : decode cX2_goOneLink 74 = .ok (.ifCond .ne 14, 3) := by decide +kernel
theorem dX2_goOneLink_77 : decode cX2_goOneLink 77 = .ok (.aload_n 0, 1) := by decide +kernel
theorem dX2_goOneLink_78 : decode cX2_goOneLink 78 = .ok (.getfield 18, 3) := by decide +kernel
theorem dX2_goOneLink_81 : decode cX2_goOneLink 81 = .ok (.iload_n 2, 1) := by decide +kernel
theorem dX2_goOneLink_82 : decode cX2_goOneLink 82 = .ok (.laload, 1) := by decide +kernel
theorem dX2_goOneLink_83 : decode cX2_goOneLink 83 = .ok (.lconst 0, 1) := by decide +kernel
theorem dX2_goOneLink_84 : decode cX2_goOneLink 84 = .ok (.lcmp, 1) := by decide +kernel
theorem dX2_goOneLink_85 : decode cX2_goOneLink 85 = .ok (.ifCond .eq 7, 3) := by decide +kernel
theorem dX2_goOneLink_88 : decode cX2_goOneLink 88 = .ok (.iconst 1, 1) := by decide +kernel
theorem dX2_goOneLink_89 : decode cX2_goOneLink 89 = .ok (.goto 4, 3) := by decide +kernel
theorem dX2_goOneLink_92 : decode cX2_goOneLink 92 = .ok (.iconst 0, 1) := by decide +kernel
theorem dX2_goOneLink_93 : decode cX2_goOneLink 93 = .ok (.istore_n 1, 1) := by decide +kernel
theorem dX2_goOneLink_94 : decode cX2_goOneLink 94 = .ok (.aload_n 0, 1) := by decide +kernel
theorem dX2_goOneLink_95 : decode cX2_goOneLink 95 = .ok (.getfield 18, 3) := by decide +kernel
theorem dX2_goOneLink_98 : decode cX2_goOneLink 98 = .ok (.iload_n 2, 1) := by decide +kernel
theorem dX2_goOneLink_99 : decode cX2_goOneLink 99 = .ok (.lconst 0, 1) := by decide +kernel
theorem dX2_goOneLink_100 : decode cX2_goOneLink 100 = .ok (.lastore, 1) := by decide +kernel
theorem dX2_goOneLink_101 : decode cX2_goOneLink 101 = .ok (.iinc 2 1, 3) := by decide +kernel
theorem dX2_goOneLink_104 : decode cX2_goOneLink 104 = .ok (.goto (-64), 3) := by decide +kernel
theorem dX2_goOneLink_107 : decode cX2_goOneLink 107 = .ok (.iload_n 1, 1) := by decide +kernel
theorem dX2_goOneLink_108 : decode cX2_goOneLink 108 = .ok (.ireturn, 1) := by decide +kernel
theorem dX2_handle_0 : decode cX2_handle 0 = .ok (.iload_n 1, 1) := by decide +kernel
theorem dX2_handle_1 : decode cX2_handle 1 = .ok (.iconst 4, 1) := by decide +kernel
theorem dX2_handle_2 : decode cX2_handle 2 = .ok (.idiv, 1) := by decide +kernel
theorem dX2_handle_3 : decode cX2_handle 3 = .ok (.istore 4, 2) := by decide +kernel
theorem dX2_handle_5 : decode cX2_handle 5 = .ok (.aload_n 0, 1) := by decide +kernel
theorem dX2_handle_6 : decode cX2_handle 6 = .ok (.getfield 21, 3) := by decide +kernel
theorem dX2_handle_9 : decode cX2_handle 9 = .ok (.getfield 53, 3) := by decide +kernel
theorem dX2_handle_12 : decode cX2_handle 12 = .ok (.iload 4, 2) := by decide +kernel
theorem dX2_handle_14 : decode cX2_handle 14 = .ok (.aaload, 1) := by decide +kernel
theorem dX2_handle_15 : decode cX2_handle 15 = .ok (.astore 5, 2) := by decide +kernel
theorem dX2_handle_17 : decode cX2_handle 17 = .ok (.lload_n 2, 1) := by decide +kernel
theorem dX2_handle_18 : decode cX2_handle 18 = .ok (.lstore 6, 2) := by decide +kernel
theorem dX2_handle_20 : decode cX2_handle 20 = .ok (.iconst 0, 1) := by decide +kernel
theorem dX2_handle_21 : decode cX2_handle 21 = .ok (.istore 8, 2) := by decide +kernel
theorem dX2_handle_23 : decode cX2_handle 23 = .ok (.iload 8, 2) := by decide +kernel
theorem dX2_handle_25 : decode cX2_handle 25 = .ok (.aload 5, 2) := by decide +kernel
theorem dX2_handle_27 : decode cX2_handle 27 = .ok (.getfield 59, 3) := by decide +kernel
theorem dX2_handle_30 : decode cX2_handle 30 = .ok (.if_icmp .ge 74, 3) := by decide +kernel
theorem dX2_handle_33 : decode cX2_handle 33 = .ok (.lload 6, 2) := by decide +kernel
theorem dX2_handle_35 : decode cX2_handle 35 = .ok (.lconst 0, 1) := by decide +kernel
theorem dX2_handle_36 : decode cX2_handle 36 = .ok (.lcmp, 1) := by decide +kernel
theorem dX2_handle_37 : decode cX2_handle 37 = .ok (.ifCond .eq 67, 3) := by decide +kernel
theorem dX2_handle_40 : decode cX2_handle 40 = .ok (.aload 5, 2) := by decide +kernel
theorem dX2_handle_42 : decode cX2_handle 42 = .ok (.getfield 69, 3) := by decide +kernel
theorem dX2_handle_45 : decode cX2_handle 45 = .ok (.iload 8, 2) := by decide +kernel
theorem dX2_handle_47 : decode cX2_handle 47 = .ok (.aaload, 1) := by decide +kernel
theorem dX2_handle_48 : decode cX2_handle 48 = .ok (.astore 9, 2) := by decide +kernel
theorem dX2_handle_50 : decode cX2_handle 50 = .ok (.aload 9, 2) := by decide +kernel
theorem dX2_handle_52 : decode cX2_handle 52 = .ok (.iload_n 1, 1) := by decide +kernel
theorem dX2_handle_53 : decode cX2_handle 53 = .ok (.iconst 4, 1) := by decide +kernel
theorem dX2_handle_54 : decode cX2_handle 54 = .ok (.irem, 1) := by decide +kernel
theorem dX2_handle_55 : decode cX2_handle 55 = .ok (.lload 6, 2) := by decide +kernel
theorem dX2_handle_57 : decode cX2_handle 57 = .ok (.invokevirtual 111, 3) := by decide +kernel
theorem dX2_handle_60 : decode cX2_handle 60 = .ok (.lstore 10, 2) := by decide +kernel
theorem dX2_handle_62 : decode cX2_handle 62 = .ok (.lload 10, 2) := by decide +kernel
theorem dX2_handle_64 : decode cX2_handle 64 = .ok (.lconst 0, 1) := by decide +kernel
theorem dX2_handle_65 : decode cX2_handle 65 = .ok (.lcmp, 1) := by decide +kernel
theorem dX2_handle_66 : decode cX2_handle 66 = .ok (.ifCond .eq 32, 3) := by decide +kernel
theorem dX2_handle_69 : decode cX2_handle 69 = .ok (.lload 6, 2) := by decide +kernel
theorem dX2_handle_71 : decode cX2_handle 71 = .ok (.lload 10, 2) := by decide +kernel
theorem dX2_handle_73 : decode cX2_handle 73 = .ok (.ldc2_w 106, 3) := by decide +kernel
theorem dX2_handle_76 : decode cX2_handle 76 = .ok (.lxor, 1) := by decide +kernel
theorem dX2_handle_77 : decode cX2_handle 77 = .ok (.land, 1) := by decide +kernel
theorem dX2_handle_78 : decode cX2_handle 78 = .ok (.lstore 6, 2) := by decide +kernel
theorem dX2_handle_80 : decode cX2_handle 80 = .ok (.aload_n 0, 1) := by decide +kernel
theorem dX2_handle_81 : decode cX2_handle 81 = .ok (.iload 4, 2) := by decide +kernel
theorem dX2_handle_83 : decode cX2_handle 83 = .ok (.aload 9, 2) := by decide +kernel
theorem dX2_handle_85 : decode cX2_handle 85 = .ok (.getfield 73, 3) := by decide +kernel
theorem dX2_handle_88 : decode cX2_handle 88 = .ok (.aload 9, 2) := by decide +kernel
theorem dX2_handle_90 : decode cX2_handle 90 = .ok (.lload 10, 2) := by decide +kernel
theorem dX2_handle_92 : decode cX2_handle 92 = .ok (.invokevirtual 96, 3) := by decide +kernel
theorem dX2_handle_95 : decode cX2_handle 95 = .ok (.invokevirtual 115, 3) := by decide +kernel
theorem dX2_handle_98 : decode cX2_handle 98 = .ok (.iinc 8 1, 3) := by decide +kernel
theorem dX2_handle_101 : decode cX2_handle 101 = .ok (.goto (-78), 3) := by decide +kernel
theorem dX2_handle_104 : decode cX2_handle 104 = .ok (.return_, 1) := by decide +kernel
theorem dX2_sendOut_0 : decode cX2_sendOut 0 = .ok (.iconst 0, 1) := by decide +kernel
theorem dX2_sendOut_1 : decode cX2_sendOut 1 = .ok (.istore 5, 2) := by decide +kernel
theorem dX2_sendOut_3 : decode cX2_sendOut 3 = .ok (.iload 5, 2) := by decide +kernel
theorem dX2_sendOut_5 : decode cX2_sendOut 5 = .ok (.iconst 4, 1) := by decide +kernel
theorem dX2_sendOut_6 : decode cX2_sendOut 6 = .ok (.if_icmp .ge 63, 3) := by decide +kernel
theorem dX2_sendOut_9 : decode cX2_sendOut 9 = .ok (.aload_n 0, 1) := by decide +kernel
theorem dX2_sendOut_10 : decode cX2_sendOut 10 = .ok (.getfield 21, 3) := by decide +kernel
theorem dX2_sendOut_13 : decode cX2_sendOut 13 = .ok (.getfield 84, 3) := by decide +kernel
theorem dX2_sendOut_16 : decode cX2_sendOut 16 = .ok (.iload_n 1, 1) := by decide +kernel
theorem dX2_sendOut_17 : decode cX2_sendOut 17 = .ok (.iload 5, 2) := by decide +kernel
theorem dX2_sendOut_19 : decode cX2_sendOut 19 = .ok (.invokestatic 43, 3) := by decide +kernel
theorem dX2_sendOut_22 : decode cX2_sendOut 22 = .ok (.iaload, 1) := by decide +kernel
theorem dX2_sendOut_23 : decode cX2_sendOut 23 = .ok (.istore 6, 2) := by decide +kernel
theorem dX2_sendOut_25 : decode cX2_sendOut 25 = .ok (.iload_n 2, 1) := by decide +kernel
theorem dX2_sendOut_26 : decode cX2_sendOut 26 = .ok (.iload 5, 2) := by decide +kernel
theorem dX2_sendOut_28 : decode cX2_sendOut 28 = .ok (.invokestatic 88, 3) := by decide +kernel
theorem dX2_sendOut_31 : decode cX2_sendOut 31 = .ok (.ifCond .eq 32, 3) := by decide +kernel
theorem dX2_sendOut_34 : decode cX2_sendOut 34 = .ok (.iload 6, 2) := by decide +kernel
theorem dX2_sendOut_36 : decode cX2_sendOut 36 = .ok (.iconst (-1), 1) := by decide +kernel
theorem dX2_sendOut_37 : decode cX2_sendOut 37 = .ok (.if_icmp .eq 26, 3) := by decide +kernel
theorem dX2_sendOut_40 : decode cX2_sendOut 40 = .ok (.aload_n 0, 1) := by decide +kernel
theorem dX2_sendOut_41 : decode cX2_sendOut 41 = .ok (.getfield 18, 3) := by decide +kernel
theorem dX2_sendOut_44 : decode cX2_sendOut 44 = .ok (.iload 6, 2) := by decide +kernel
theorem dX2_sendOut_46 : decode cX2_sendOut 46 = .ok (.dup2, 1) := by decide +kernel
theorem dX2_sendOut_47 : decode cX2_sendOut 47 = .ok (.laload, 1) := by decide +kernel
theorem dX2_sendOut_48 : decode cX2_sendOut 48 = .ok (.lload_n 3, 1) := by decide +kernel
theorem dX2_sendOut_49 : decode cX2_sendOut 49 = .ok (.aload_n 0, 1) := by decide +kernel
theorem dX2_sendOut_50 : decode cX2_sendOut 50 = .ok (.getfield 9, 3) := by decide +kernel
theorem dX2_sendOut_53 : decode cX2_sendOut 53 = .ok (.iload 6, 2) := by decide +kernel
theorem dX2_sendOut_55 : decode cX2_sendOut 55 = .ok (.laload, 1) := by decide +kernel
theorem dX2_sendOut_56 : decode cX2_sendOut 56 = .ok (.ldc2_w 106, 3) := by decide +kernel
theorem dX2_sendOut_59 : decode cX2_sendOut 59 = .ok (.lxor, 1) := by decide +kernel
theorem dX2_sendOut_60 : decode cX2_sendOut 60 = .ok (.land, 1) := by decide +kernel
theorem dX2_sendOut_61 : decode cX2_sendOut 61 = .ok (.lor, 1) := by decide +kernel
theorem dX2_sendOut_62 : decode cX2_sendOut 62 = .ok (.lastore, 1) := by decide +kernel
theorem dX2_sendOut_63 : decode cX2_sendOut 63 = .ok (.iinc 5 1, 3) := by decide +kernel
theorem dX2_sendOut_66 : decode cX2_sendOut 66 = .ok (.goto (-63), 3) := by decide +kernel
theorem dX2_sendOut_69 : decode cX2_sendOut 69 = .ok (.return_, 1) := by decide +kernel
theorem dX3_init_0 : decode cX3_init 0 = .ok (.aload_n 0, 1) := by decide +kernel
theorem dX3_init_1 : decode cX3_init 1 = .ok (.invokespecial 3, 3) := by decide +kernel
theorem dX3_init_4 : decode cX3_init 4 = .ok (.aload_n 0, 1) := by decide +kernel
theorem dX3_init_5 : decode cX3_init 5 = .ok (.bipush 12, 2) := by decide +kernel
theorem dX3_init_7 : decode cX3_init 7 = .ok (.anewarray 9, 3) := by decide +kernel
theorem dX3_init_10 : decode cX3_init 10 = .ok (.putfield 11, 3) := by decide +kernel
theorem dX3_init_13 : decode cX3_init 13 = .ok (.aload_n 0, 1) := by decide +kernel
theorem dX3_init_14 : decode cX3_init 14 = .ok (.bipush 12, 2) := by decide +kernel
theorem dX3_init_16 : decode cX3_init 16 = .ok (.newarray .int, 2) := by decide +kernel
theorem dX3_init_18 : decode cX3_init 18 = .ok (.putfield 17, 3) := by decide +kernel
theorem dX3_init_21 : decode cX3_init 21 = .ok (.new 21, 3) := by decide +kernel
theorem dX3_init_24 : decode cX3_init 24 = .ok (.dup, 1) := by decide +kernel
theorem dX3_init_25 : decode cX3_init 25 = .ok (.iconst 0, 1) := by decide +kernel
theorem dX3_init_26 : decode cX3_init 26 = .ok (.iconst 0, 1) := by decide +kernel
theorem dX3_init_27 : decode cX3_init 27 = .ok (.iconst 0, 1) := by decide +kernel
theorem dX3_init_28 : decode cX3_init 28 = .ok (.iconst 0, 1) := by decide +kernel
theorem dX3_init_29 : decode cX3_init 29 = .ok (.iconst 0, 1) := by decide +kernel
theorem dX3_init_30 : decode cX3_init 30 = .ok (.iconst 0, 1) := by decide +kernel
theorem dX3_init_31 : decode cX3_init 31 = .ok (.iconst 0, 1) := by decide +kernel
theorem dX3_init_32 : decode cX3_init 32 = .ok (.invokespecial 23, 3) := by decide +kernel
theorem dX3_init_35 : decode cX3_init 35 = .ok (.astore_n 1, 1) := by decide +kernel
theorem dX3_init_36 : decode cX3_init 36 = .ok (.iconst 0, 1) := by decide +kernel
theorem dX3_init_37 : decode cX3_init 37 = .ok (.istore_n 2, 1) := by decide +kernel
theorem dX3_init_38 : decode cX3_init 38 = .ok (.iload_n 2, 1) := by decide +kernel
theorem dX3_init_39 : decode cX3_init 39 = .ok (.bipush 12, 2) := by decide +kernel
theorem dX3_init_41 : decode cX3_init 41 = .ok (.if_icmp .ge 23, 3) := by decide +kernel
theorem dX3_init_44 : decode cX3_init 44 = .ok (.aload_n 0, 1) := by decide +kernel
theorem dX3_init_45 : decode cX3_init 45 = .ok (.getfield 11, 3) := by decide +kernel
theorem dX3_init_48 : decode cX3_init 48 = .ok (.iload_n 2, 1) := by decide +kernel
theorem dX3_init_49 : decode cX3_init 49 = .ok (.new 9, 3) := by decide +kernel
theorem dX3_init_52 : decode cX3_init 52 = .ok (.dup, 1) := by decide +kernel
theorem dX3_init_53 : decode cX3_init 53 = .ok (.aload_n 1, 1) := by decide +kernel
theorem dX3_init_54 : decode cX3_init 54 = .ok (.invokespecial 26, 3) := by decide +kernel
theorem dX3_init_57 : decode cX3_init 57 = .ok (.aastore, 1) := by decide +kernel
theorem dX3_init_58 : decode cX3_init 58 = .ok (.iinc 2 1, 3) := by decide +kernel
theorem dX3_init_61 : decode cX3_init 61 = .ok (.goto (-23), 3) := by decide +kernel
theorem dX3_init_64 : decode cX3_init 64 = .ok (.return_, 1) := by decide +kernel
theorem dX3_keep_0 : decode cX3_keep 0 = .ok (.aload_n 0, 1) := by decide +kernel
theorem dX3_keep_1 : decode cX3_keep 1 = .ok (.getfield 11, 3) := by decide +kernel
theorem dX3_keep_4 : decode cX3_keep 4 = .ok (.aload_n 0, 1) := by decide +kernel
theorem dX3_keep_5 : decode cX3_keep 5 = .ok (.getfield 29, 3) := by decide +kernel
theorem dX3_keep_8 : decode cX3_keep 8 = .ok (.aaload, 1) := by decide +kernel
theorem dX3_keep_9 : decode cX3_keep 9 = .ok (.aload_n 2, 1) := by decide +kernel
theorem dX3_keep_10 : decode cX3_keep 10 = .ok (.invokevirtual 33, 3) := by decide +kernel
theorem dX3_keep_13 : decode cX3_keep 13 = .ok (.aload_n 0, 1) := by decide +kernel
theorem dX3_keep_14 : decode cX3_keep 14 = .ok (.getfield 17, 3) := by decide +kernel
theorem dX3_keep_17 : decode cX3_keep 17 = .ok (.aload_n 0, 1) := by decide +kernel
theorem dX3_keep_18 : decode cX3_keep 18 = .ok (.getfield 29, 3) := by decide +kernel
theorem dX3_keep_21 : decode cX3_keep 21 = .ok (.iload_n 1, 1) := by decide +kernel
theorem dX3_keep_22 : decode cX3_keep 22 = .ok (.iastore, 1) := by decide +kernel
theorem dX3_keep_23 : decode cX3_keep 23 = .ok (.aload_n 0, 1) := by decide +kernel
theorem dX3_keep_24 : decode cX3_keep 24 = .ok (.aload_n 0, 1) := by decide +kernel
theorem dX3_keep_25 : decode cX3_keep 25 = .ok (.getfield 29, 3) := by decide +kernel
theorem dX3_keep_28 : decode cX3_keep 28 = .ok (.iconst 1, 1) := by decide +kernel
theorem dX3_keep_29 : decode cX3_keep 29 = .ok (.iadd, 1) := by decide +kernel
theorem dX3_keep_30 : decode cX3_keep 30 = .ok (.bipush 12, 2) := by decide +kernel
theorem dX3_keep_32 : decode cX3_keep 32 = .ok (.irem, 1) := by decide +kernel
theorem dX3_keep_33 : decode cX3_keep 33 = .ok (.putfield 29, 3) := by decide +kernel
theorem dX3_keep_36 : decode cX3_keep 36 = .ok (.aload_n 0, 1) := by decide +kernel
theorem dX3_keep_37 : decode cX3_keep 37 = .ok (.aload_n 0, 1) := by decide +kernel
theorem dX3_keep_38 : decode cX3_keep 38 = .ok (.getfield 37, 3) := by decide +kernel
theorem dX3_keep_41 : decode cX3_keep 41 = .ok (.iconst 1, 1) := by decide +kernel
theorem dX3_keep_42 : decode cX3_keep 42 = .ok (.iadd, 1) := by decide +kernel
theorem dX3_keep_43 : decode cX3_keep 43 = .ok (.bipush 12, 2) := by decide +kernel
theorem dX3_keep_45 : decode cX3_keep 45 = .ok (.invokestatic 40, 3) := by decide +kernel
theorem dX3_keep_48 : decode cX3_keep 48 = .ok (.putfield 37, 3) := by decide +kernel
theorem dX3_keep_51 : decode cX3_keep 51 = .ok (.return_, 1) := by decide +kernel
theorem dX3_takeBack_0 : decode cX3_takeBack 0 = .ok (.aload_n 0, 1) := by decide +kernel
theorem dX3_takeBack_1 : decode cX3_takeBack 1 = .ok (.aload_n 0, 1) := by decide +kernel
theorem dX3_takeBack_2 : decode cX3_takeBack 2 = .ok (.getfield 29, 3) := by decide +kernel
theorem dX3_takeBack_5 : decode cX3_takeBack 5 = .ok (.bipush 12, 2) := by decide +kernel
theorem dX3_takeBack_7 : decode cX3_takeBack 7 = .ok (.iadd, 1) := by decide +kernel
theorem dX3_takeBack_8 : decode cX3_takeBack 8 = .ok (.iconst 1, 1) := by decide +kernel
theorem dX3_takeBack_9 : decode cX3_takeBack 9 = .ok (.isub, 1) := by decide +kernel
theorem dX3_takeBack_10 : decode cX3_takeBack 10 = .ok (.bipush 12, 2) := by decide +kernel
theorem dX3_takeBack_12 : decode cX3_takeBack 12 = .ok (.irem, 1) := by decide +kernel
theorem dX3_takeBack_13 : decode cX3_takeBack 13 = .ok (.putfield 29, 3) := by decide +kernel
theorem dX3_takeBack_16 : decode cX3_takeBack 16 = .ok (.aload_n 0, 1) := by decide +kernel
theorem dX3_takeBack_17 : decode cX3_takeBack 17 = .ok (.dup, 1) := by decide +kernel
theorem dX3_takeBack_18 : decode cX3_takeBack 18 = .ok (.getfield 37, 3) := by decide +kernel
theorem dX3_takeBack_21 : decode cX3_takeBack 21 = .ok (.iconst 1, 1) := by decide +kernel
theorem dX3_takeBack_22 : decode cX3_takeBack 22 = .ok (.isub, 1) := by decide +kernel
theorem dX3_takeBack_23 : decode cX3_takeBack 23 = .ok (.putfield 37, 3) := by decide +kernel
theorem dX3_takeBack_26 : decode cX3_takeBack 26 = .ok (.aload_n 1, 1) := by decide +kernel
theorem dX3_takeBack_27 : decode cX3_takeBack 27 = .ok (.getfield 46, 3) := by decide +kernel
theorem dX3_takeBack_30 : decode cX3_takeBack 30 = .ok (.aload_n 0, 1) := by decide +kernel
theorem dX3_takeBack_31 : decode cX3_takeBack 31 = .ok (.getfield 17, 3) := by decide +kernel
theorem dX3_takeBack_34 : decode cX3_takeBack 34 = .ok (.aload_n 0, 1) := by decide +kernel
theorem dX3_takeBack_35 : decode cX3_takeBack 35 = .ok (.getfield 29, 3) := by decide +kernel
theorem dX3_takeBack_38 : decode cX3_takeBack 38 = .ok (.iaload, 1) := by decide +kernel
theorem dX3_takeBack_39 : decode cX3_takeBack 39 = .ok (.aaload, 1) := by decide +kernel
theorem dX3_takeBack_40 : decode cX3_takeBack 40 = .ok (.aload_n 0, 1) := by decide +kernel
theorem dX3_takeBack_41 : decode cX3_takeBack 41 = .ok (.getfield 11, 3) := by decide +kernel
theorem dX3_takeBack_44 : decode cX3_takeBack 44 = .ok (.aload_n 0, 1) := by decide +kernel
theorem dX3_takeBack_45 : decode cX3_takeBack 45 = .ok (.getfield 29, 3) := by decide +kernel
theorem dX3_takeBack_48 : decode cX3_takeBack 48 = .ok (.aaload, 1) := by decide +kernel
theorem dX3_takeBack_49 : decode cX3_takeBack 49 = .ok (.invokevirtual 33, 3) := by decide +kernel
theorem dX3_takeBack_52 : decode cX3_takeBack 52 = .ok (.return_, 1) := by decide +kernel
theorem dX4_init_0 : decode cX4_init 0 = .ok (.aload_n 0, 1) := by decide +kernel
theorem dX4_init_1 : decode cX4_init 1 = .ok (.invokespecial 3, 3) := by decide +kernel
theorem dX4_init_4 : decode cX4_init 4 = .ok (.aload_n 0, 1) := by decide +kernel
theorem dX4_init_5 : decode cX4_init 5 = .ok (.bipush 24, 2) := by decide +kernel
theorem dX4_init_7 : decode cX4_init 7 = .ok (.newarray .int, 2) := by decide +kernel
theorem dX4_init_9 : decode cX4_init 9 = .ok (.putfield 9, 3) := by decide +kernel
theorem dX4_init_12 : decode cX4_init 12 = .ok (.aload_n 0, 1) := by decide +kernel
theorem dX4_init_13 : decode cX4_init 13 = .ok (.bipush 6, 2) := by decide +kernel
theorem dX4_init_15 : decode cX4_init 15 = .ok (.anewarray 15, 3) := by decide +kernel
theorem dX4_init_18 : decode cX4_init 18 = .ok (.putfield 17, 3) := by decide +kernel
theorem dX4_init_21 : decode cX4_init 21 = .ok (.new 21, 3) := by decide +kernel
theorem dX4_init_24 : decode cX4_init 24 = .ok (.dup, 1) := by decide +kernel
theorem dX4_init_25 : decode cX4_init 25 = .ok (.iconst 0, 1) := by decide +kernel
theorem dX4_init_26 : decode cX4_init 26 = .ok (.iconst 0, 1) := by decide +kernel
theorem dX4_init_27 : decode cX4_init 27 = .ok (.iconst 0, 1) := by decide +kernel
theorem dX4_init_28 : decode cX4_init 28 = .ok (.iconst 0, 1) := by decide +kernel
theorem dX4_init_29 : decode cX4_init 29 = .ok (.iconst 0, 1) := by decide +kernel
theorem dX4_init_30 : decode cX4_init 30 = .ok (.iconst 0, 1) := by decide +kernel
theorem dX4_init_31 : decode cX4_init 31 = .ok (.iconst 0, 1) := by decide +kernel
theorem dX4_init_32 : decode cX4_init 32 = .ok (.invokespecial 23, 3) := by decide +kernel
theorem dX4_init_35 : decode cX4_init 35 = .ok (.astore_n 1, 1) := by decide +kernel
theorem dX4_init_36 : decode cX4_init 36 = .ok (.iconst 0, 1) := by decide +kernel
theorem dX4_init_37 : decode cX4_init 37 = .ok (.istore_n 2, 1) := by decide +kernel
theorem dX4_init_38 : decode cX4_init 38 = .ok (.iload_n 2, 1) := by decide +kernel
theorem dX4_init_39 : decode cX4_init 39 = .ok (.bipush 6, 2) := by decide +kernel
theorem dX4_init_41 : decode cX4_init 41 = .ok (.if_icmp .ge 23, 3) := by decide +kernel
theorem dX4_init_44 : decode cX4_init 44 = .ok (.aload_n 0, 1) := by decide +kernel
theorem dX4_init_45 : decode cX4_init 45 = .ok (.getfield 17, 3) := by decide +kernel
theorem dX4_init_48 : decode cX4_init 48 = .ok (.iload_n 2, 1) := by decide +kernel
theorem dX4_init_49 : decode cX4_init 49 = .ok (.new 15, 3) := by decide +kernel
theorem dX4_init_52 : decode cX4_init 52 = .ok (.dup, 1) := by decide +kernel
theorem dX4_init_53 : decode cX4_init 53 = .ok (.aload_n 1, 1) := by decide +kernel
theorem dX4_init_54 : decode cX4_init 54 = .ok (.invokespecial 26, 3) := by decide +kernel
theorem dX4_init_57 : decode cX4_init 57 = .ok (.aastore, 1) := by decide +kernel
theorem dX4_init_58 : decode cX4_init 58 = .ok (.iinc 2 1, 3) := by decide +kernel
theorem dX4_init_61 : decode cX4_init 61 = .ok (.goto (-23), 3) := by decide +kernel
theorem dX4_init_64 : decode cX4_init 64 = .ok (.aload_n 0, 1) := by decide +kernel
theorem dX4_init_65 : decode cX4_init 65 = .ok (.iconst 4, 1) := by decide +kernel
theorem dX4_init_66 : decode cX4_init 66 = .ok (.invokevirtual 29, 3) := by decide +kernel
theorem dX4_init_69 : decode cX4_init 69 = .ok (.return_, 1) := by decide +kernel
theorem dX4_startAnew_0 : decode cX4_startAnew 0 = .ok (.aload_n 0, 1) := by decide +kernel
theorem dX4_startAnew_1 : decode cX4_startAnew 1 = .ok (.iload_n 1, 1) := by decide +kernel
theorem dX4_startAnew_2 : decode cX4_startAnew 2 = .ok (.putfield 33, 3) := by decide +kernel
theorem dX4_startAnew_5 : decode cX4_startAnew 5 = .ok (.aload_n 0, 1) := by decide +kernel
theorem dX4_startAnew_6 : decode cX4_startAnew 6 = .ok (.iconst 0, 1) := by decide +kernel
theorem dX4_startAnew_7 : decode cX4_startAnew 7 = .ok (.putfield 37, 3) := by decide +kernel
theorem dX4_startAnew_10 : decode cX4_startAnew 10 = .ok (.aload_n 0, 1) := by decide +kernel
theorem dX4_startAnew_11 : decode cX4_startAnew 11 = .ok (.getfield 9, 3) := by decide +kernel
theorem dX4_startAnew_14 : decode cX4_startAnew 14 = .ok (.iconst (-1), 1) := by decide +kernel
theorem dX4_startAnew_15 : decode cX4_startAnew 15 = .ok (.invokestatic 40, 3) := by decide +kernel
theorem dX4_startAnew_18 : decode cX4_startAnew 18 = .ok (.iconst 0, 1) := by decide +kernel
theorem dX4_startAnew_19 : decode cX4_startAnew 19 = .ok (.istore_n 2, 1) := by decide +kernel
theorem dX4_startAnew_20 : decode cX4_startAnew 20 = .ok (.iload_n 2, 1) := by decide +kernel
theorem dX4_startAnew_21 : decode cX4_startAnew 21 = .ok (.bipush 6, 2) := by decide +kernel
theorem dX4_startAnew_23 : decode cX4_startAnew 23 = .ok (.if_icmp .ge 19, 3) := by decide +kernel
theorem dX4_startAnew_26 : decode cX4_startAnew 26 = .ok (.aload_n 0, 1) := by decide +kernel
theorem dX4_startAnew_27 : decode cX4_startAnew 27 = .ok (.getfield 17, 3) := by decide +kernel
theorem dX4_startAnew_30 : decode cX4_startAnew 30 = .ok (.iload_n 2, 1) := by decide +kernel
theorem dX4_startAnew_31 : decode cX4_startAnew 31 = .ok (.aaload, 1) := by decide +kernel
theorem dX4_startAnew_32 : decode cX4_startAnew 32 = .ok (.iconst 0, 1) := by decide +kernel
theorem dX4_startAnew_33 : decode cX4_startAnew 33 = .ok (.putfield 46, 3) := by decide +kernel
theorem dX4_startAnew_36 : decode cX4_startAnew 36 = .ok (.iinc 2 1, 3) := by decide +kernel
theorem dX4_startAnew_39 : decode cX4_startAnew 39 = .ok (.goto (-19), 3) := by decide +kernel
theorem dX4_startAnew_42 : decode cX4_startAnew 42 = .ok (.return_, 1) := by decide +kernel
theorem dX4_allHeaders_0 : decode cX4_allHeaders 0 = .ok (.lconst 1, 1) := by decide +kernel
theorem dX4_allHeaders_1 : decode cX4_allHeaders 1 = .ok (.iconst 1, 1) := by decide +kernel
theorem dX4_allHeaders_2 : decode cX4_allHeaders 2 = .ok (.aload_n 0, 1) := by decide +kernel
theorem dX4_allHeaders_3 : decode cX4_allHeaders 3 = .ok (.getfield 33, 3) := by decide +kernel
theorem dX4_allHeaders_6 : decode cX4_allHeaders 6 = .ok (.ishl, 1) := by decide +kernel
theorem dX4_allHeaders_7 : decode cX4_allHeaders 7 = .ok (.lshl, 1) := by decide +kernel
theorem dX4_allHeaders_8 : decode cX4_allHeaders 8 = .ok (.lconst 1, 1) := by decide +kernel
theorem dX4_allHeaders_9 : decode cX4_allHeaders 9 = .ok (.lsub, 1) := by decide +kernel
theorem dX4_allHeaders_10 : decode cX4_allHeaders 10 = .ok (.lreturn, 1) := by decide +kernel
theorem dX4_isHeader_0 : decode cX4_isHeader 0 = .ok (.iload_n 1, 1) := by decide +kernel
theorem dX4_isHeader_1 : decode cX4_isHeader 1 = .ok (.ifCond .lt 17, 3) := by decide +kernel
theorem dX4_isHeader_4 : decode cX4_isHeader 4 = .ok (.iload_n 1, 1) := by decide +kernel
theorem dX4_isHeader_5 : decode cX4_isHeader 5 = .ok (.iconst 1, 1) := by decide +kernel
theorem dX4_isHeader_6 : decode cX4_isHeader 6 = .ok (.aload_n 0, 1) := by decide +kernel
theorem dX4_isHeader_7 : decode cX4_isHeader 7 = .ok (.getfield 33, 3) := by decide +kernel
theorem dX4_isHeader_10 : decode cX4_isHeader 10 = .ok (.ishl, 1) := by decide +kernel
theorem dX4_isHeader_11 : decode cX4_isHeader 11 = .ok (.if_icmp .ge 7, 3) := by decide +kernel
theorem dX4_isHeader_14 : decode cX4_isHeader 14 = .ok (.iconst 1, 1) := by decide +kernel
theorem dX4_isHeader_15 : decode cX4_isHeader 15 = .ok (.goto 4, 3) := by decide +kernel
theorem dX4_isHeader_18 : decode cX4_isHeader 18 = .ok (.iconst 0, 1) := by decide +kernel
theorem dX4_isHeader_19 : decode cX4_isHeader 19 = .ok (.ireturn, 1) := by decide +kernel
theorem dX4_isCube_0 : decode cX4_isCube 0 = .ok (.aload_n 0, 1) := by decide +kernel
theorem dX4_isCube_1 : decode cX4_isCube 1 = .ok (.iload_n 1, 1) := by decide +kernel
theorem dX4_isCube_2 : decode cX4_isCube 2 = .ok (.invokevirtual 49, 3) := by decide +kernel
theorem dX4_isCube_5 : decode cX4_isCube 5 = .ok (.ifCond .eq 15, 3) := by decide +kernel
theorem dX4_isCube_8 : decode cX4_isCube 8 = .ok (.aload_n 0, 1) := by decide +kernel
theorem dX4_isCube_9 : decode cX4_isCube 9 = .ok (.iload_n 2, 1) := by decide +kernel
theorem dX4_isCube_10 : decode cX4_isCube 10 = .ok (.invokevirtual 49, 3) := by decide +kernel
theorem dX4_isCube_13 : decode cX4_isCube 13 = .ok (.ifCond .eq 7, 3) := by decide +kernel
theorem dX4_isCube_16 : decode cX4_isCube 16 = .ok (.iconst 1, 1) := by decide +kernel
theorem dX4_isCube_17 : decode cX4_isCube 17 = .ok (.goto 4, 3) := by decide +kernel
theorem dX4_isCube_20 : decode cX4_isCube 20 = .ok (.iconst 0, 1) := by decide +kernel
theorem dX4_isCube_21 : decode cX4_isCube 21 = .ok (.ireturn, 1) := by decide +kernel
theorem dX4_countRules_0 : decode cX4_countRules 0 = .ok (.iconst 0, 1) := by decide +kernel
theorem dX4_countRules_1 : decode cX4_countRules 1 = .ok (.istore_n 1, 1) := by decide +kernel
theorem dX4_countRules_2 : decode cX4_countRules 2 = .ok (.iconst 0, 1) := by decide +kernel
theorem dX4_countRules_3 : decode cX4_countRules 3 = .ok (.istore_n 2, 1) := by decide +kernel
theorem dX4_countRules_4 : decode cX4_countRules 4 = .ok (.iload_n 2, 1) := by decide +kernel
theorem dX4_countRules_5 : decode cX4_countRules 5 = .ok (.bipush 6, 2) := by decide +kernel
theorem dX4_countRules_7 : decode cX4_countRules 7 = .ok (.if_icmp .ge 21, 3) := by decide +kernel
theorem dX4_countRules_10 : decode cX4_countRules 10 = .ok (.iload_n 1, 1) := by decide +kernel
theorem dX4_countRules_11 : decode cX4_countRules 11 = .ok (.aload_n 0, 1) := by decide +kernel
theorem dX4_countRules_12 : decode cX4_countRules 12 = .ok (.getfield 17, 3) := by decide +kernel
theorem dX4_countRules_15 : decode cX4_countRules 15 = .ok (.iload_n 2, 1) := by decide +kernel
theorem dX4_countRules_16 : decode cX4_countRules 16 = .ok (.aaload, 1) := by decide +kernel
theorem dX4_countRules_17 : decode cX4_countRules 17 = .ok (.getfield 46, 3) := by decide +kernel
theorem dX4_countRules_20 : decode cX4_countRules 20 = .ok (.iadd, 1) := by decide +kernel
theorem dX4_countRules_21 : decode cX4_countRules 21 = .ok (.istore_n 1, 1) := by decide +kernel
theorem dX4_countRules_22 : decode cX4_countRules 22 = .ok (.iinc 2 1, 3) := by decide +kernel
theorem dX4_countRules_25 : decode cX4_countRules 25 = .ok (.goto (-21), 3) := by decide +kernel
theorem dX4_countRules_28 : decode cX4_countRules 28 = .ok (.iload_n 1, 1) := by decide +kernel
theorem dX4_countRules_29 : decode cX4_countRules 29 = .ok (.ireturn, 1) := by decide +kernel
theorem dX5_init_0 : decode cX5_init 0 = .ok (.aload_n 0, 1) := by decide +kernel
theorem dX5_init_1 : decode cX5_init 1 = .ok (.invokespecial 1, 3) := by decide +kernel
theorem dX5_init_4 : decode cX5_init 4 = .ok (.return_, 1) := by decide +kernel
theorem dX6_init_0 : decode cX6_init 0 = .ok (.aload_n 0, 1) := by decide +kernel
theorem dX6_init_1 : decode cX6_init 1 = .ok (.invokespecial 3, 3) := by decide +kernel
theorem dX6_init_4 : decode cX6_init 4 = .ok (.aload_n 0, 1) := by decide +kernel
theorem dX6_init_5 : decode cX6_init 5 = .ok (.iload_n 1, 1) := by decide +kernel
theorem dX6_init_6 : decode cX6_init 6 = .ok (.putfield 9, 3) := by decide +kernel
theorem dX6_init_9 : decode cX6_init 9 = .ok (.aload_n 0, 1) := by decide +kernel
theorem dX6_init_10 : decode cX6_init 10 = .ok (.iload_n 2, 1) := by decide +kernel
theorem dX6_init_11 : decode cX6_init 11 = .ok (.putfield 15, 3) := by decide +kernel
theorem dX6_init_14 : decode cX6_init 14 = .ok (.aload_n 0, 1) := by decide +kernel
theorem dX6_init_15 : decode cX6_init 15 = .ok (.iload_n 3, 1) := by decide +kernel
theorem dX6_init_16 : decode cX6_init 16 = .ok (.iload_n 2, 1) := by decide +kernel
theorem dX6_init_17 : decode cX6_init 17 = .ok (.iand, 1) := by decide +kernel
theorem dX6_init_18 : decode cX6_init 18 = .ok (.putfield 18, 3) := by decide +kernel
theorem dX6_init_21 : decode cX6_init 21 = .ok (.aload_n 0, 1) := by decide +kernel
theorem dX6_init_22 : decode cX6_init 22 = .ok (.iload 4, 2) := by decide +kernel
theorem dX6_init_24 : decode cX6_init 24 = .ok (.putfield 21, 3) := by decide +kernel
theorem dX6_init_27 : decode cX6_init 27 = .ok (.aload_n 0, 1) := by decide +kernel
theorem dX6_init_28 : decode cX6_init 28 = .ok (.iload 5, 2) := by decide +kernel
theorem dX6_init_30 : decode cX6_init 30 = .ok (.putfield 24, 3) := by decide +kernel
theorem dX6_init_33 : decode cX6_init 33 = .ok (.aload_n 0, 1) := by decide +kernel
theorem dX6_init_34 : decode cX6_init 34 = .ok (.iload 6, 2) := by decide +kernel
theorem dX6_init_36 : decode cX6_init 36 = .ok (.iload 5, 2) := by decide +kernel
theorem dX6_init_38 : decode cX6_init 38 = .ok (.iand, 1) := by decide +kernel
theorem dX6_init_39 : decode cX6_init 39 = .ok (.putfield 27, 3) := by decide +kernel
theorem dX6_init_42 : decode cX6_init 42 = .ok (.aload_n 0, 1) := by decide +kernel
theorem dX6_init_43 : decode cX6_init 43 = .ok (.iload 7, 2) := by decide +kernel
theorem dX6_init_45 : decode cX6_init 45 = .ok (.putfield 30, 3) := by decide +kernel
theorem dX6_init_48 : decode cX6_init 48 = .ok (.aload_n 0, 1) := by decide +kernel
theorem dX6_init_49 : decode cX6_init 49 = .ok (.iload_n 2, 1) := by decide +kernel
theorem dX6_init_50 : decode cX6_init 50 = .ok (.iload_n 3, 1) := by decide +kernel
theorem dX6_init_51 : decode cX6_init 51 = .ok (.invokestatic 34, 3) := by decide +kernel
theorem dX6_init_54 : decode cX6_init 54 = .ok (.putfield 38, 3) := by decide +kernel
theorem dX6_init_57 : decode cX6_init 57 = .ok (.return_, 1) := by decide +kernel
theorem dX6_withRewriting_0 : decode cX6_withRewriting 0 = .ok (.new 10, 3) := by decide +kernel
theorem dX6_withRewriting_3 : decode cX6_withRewriting 3 = .ok (.dup, 1) := by decide +kernel
theorem dX6_withRewriting_4 : decode cX6_withRewriting 4 = .ok (.aload_n 0, 1) := by decide +kernel
theorem dX6_withRewriting_5 : decode cX6_withRewriting 5 = .ok (.getfield 9, 3) := by decide +kernel
theorem dX6_withRewriting_8 : decode cX6_withRewriting 8 = .ok (.aload_n 0, 1) := by decide +kernel
theorem dX6_withRewriting_9 : decode cX6_withRewriting 9 = .ok (.getfield 15, 3) := by decide +kernel
theorem dX6_withRewriting_12 : decode cX6_withRewriting 12 = .ok (.aload_n 0, 1) := by decide +kernel
theorem dX6_withRewriting_13 : decode cX6_withRewriting 13 = .ok (.getfield 18, 3) := by decide +kernel
theorem dX6_withRewriting_16 : decode cX6_withRewriting 16 = .ok (.aload_n 0, 1) := by decide +kernel
theorem dX6_withRewriting_17 : decode cX6_withRewriting 17 = .ok (.getfield 21, 3) := by decide +kernel
theorem dX6_withRewriting_20 : decode cX6_withRewriting 20 = .ok (.iload_n 1, 1) := by decide +kernel
theorem dX6_withRewriting_21 : decode cX6_withRewriting 21 = .ok (.iload_n 2, 1) := by decide +kernel
theorem dX6_withRewriting_22 : decode cX6_withRewriting 22 = .ok (.aload_n 0, 1) := by decide +kernel
theorem dX6_withRewriting_23 : decode cX6_withRewriting 23 = .ok (.getfield 30, 3) := by decide +kernel
theorem dX6_withRewriting_26 : decode cX6_withRewriting 26 = .ok (.invokespecial 42, 3) := by decide +kernel
theorem dX6_withRewriting_29 : decode cX6_withRewriting 29 = .ok (.areturn, 1) := by decide +kernel
theorem dX6_switched_0 : decode cX6_switched 0 = .ok (.new 10, 3) := by decide +kernel
theorem dX6_switched_3 : decode cX6_switched 3 = .ok (.dup, 1) := by decide +kernel
theorem dX6_switched_4 : decode cX6_switched 4 = .ok (.aload_n 0, 1) := by decide +kernel
theorem dX6_switched_5 : decode cX6_switched 5 = .ok (.getfield 9, 3) := by decide +kernel
theorem dX6_switched_8 : decode cX6_switched 8 = .ok (.aload_n 0, 1) := by decide +kernel
theorem dX6_switched_9 : decode cX6_switched 9 = .ok (.getfield 15, 3) := by decide +kernel
theorem dX6_switched_12 : decode cX6_switched 12 = .ok (.aload_n 0, 1) := by decide +kernel
theorem dX6_switched_13 : decode cX6_switched 13 = .ok (.getfield 18, 3) := by decide +kernel
theorem dX6_switched_16 : decode cX6_switched 16 = .ok (.aload_n 0, 1) := by decide +kernel
theorem dX6_switched_17 : decode cX6_switched 17 = .ok (.getfield 21, 3) := by decide +kernel
theorem dX6_switched_20 : decode cX6_switched 20 = .ok (.aload_n 0, 1) := by decide +kernel
theorem dX6_switched_21 : decode cX6_switched 21 = .ok (.getfield 24, 3) := by decide +kernel
theorem dX6_switched_24 : decode cX6_switched 24 = .ok (.aload_n 0, 1) := by decide +kernel
theorem dX6_switched_25 : decode cX6_switched 25 = .ok (.getfield 27, 3) := by decide +kernel
theorem dX6_switched_28 : decode cX6_switched 28 = .ok (.iload_n 1, 1) := by decide +kernel
theorem dX6_switched_29 : decode cX6_switched 29 = .ok (.invokespecial 42, 3) := by decide +kernel
theorem dX6_switched_32 : decode cX6_switched 32 = .ok (.areturn, 1) := by decide +kernel
theorem dX6_taken_0 : decode cX6_taken 0 = .ok (.aload_n 0, 1) := by decide +kernel
theorem dX6_taken_1 : decode cX6_taken 1 = .ok (.getfield 30, 3) := by decide +kernel
theorem dX6_taken_4 : decode cX6_taken 4 = .ok (.ifCond .eq 23, 3) := by decide +kernel
theorem dX6_taken_7 : decode cX6_taken 7 = .ok (.aload_n 0, 1) := by decide +kernel
theorem dX6_taken_8 : decode cX6_taken 8 = .ok (.getfield 9, 3) := by decide +kernel
theorem dX6_taken_11 : decode cX6_taken 11 = .ok (.iload_n 1, 1) := by decide +kernel
theorem dX6_taken_12 : decode cX6_taken 12 = .ok (.ishr, 1) := by decide +kernel
theorem dX6_taken_13 : decode cX6_taken 13 = .ok (.iconst 1, 1) := by decide +kernel
theorem dX6_taken_14 : decode cX6_taken 14 = .ok (.iand, 1) := by decide +kernel
theorem dX6_taken_15 : decode cX6_taken 15 = .ok (.ifCond .eq 12, 3) := by decide +kernel
theorem dX6_taken_18 : decode cX6_taken 18 = .ok (.lload_n 2, 1) := by decide +kernel
theorem dX6_taken_19 : decode cX6_taken 19 = .ok (.aload_n 0, 1) := by decide +kernel
theorem dX6_taken_20 : decode cX6_taken 20 = .ok (.getfield 38, 3) := by decide +kernel
theorem dX6_taken_23 : decode cX6_taken 23 = .ok (.land, 1) := by decide +kernel
theorem dX6_taken_24 : decode cX6_taken 24 = .ok (.goto 4, 3) := by decide +kernel
theorem dX6_taken_27 : decode cX6_taken 27 = .ok (.lconst 0, 1) := by decide +kernel
theorem dX6_taken_28 : decode cX6_taken 28 = .ok (.lreturn, 1) := by decide +kernel
theorem dX6_rewritten_0 : decode cX6_rewritten 0 = .ok (.iload_n 1, 1) := by decide +kernel
theorem dX6_rewritten_1 : decode cX6_rewritten 1 = .ok (.aload_n 0, 1) := by decide +kernel
theorem dX6_rewritten_2 : decode cX6_rewritten 2 = .ok (.getfield 24, 3) := by decide +kernel
theorem dX6_rewritten_5 : decode cX6_rewritten 5 = .ok (.iconst (-1), 1) := by decide +kernel
theorem dX6_rewritten_6 : decode cX6_rewritten 6 = .ok (.ixor, 1) := by decide +kernel
theorem dX6_rewritten_7 : decode cX6_rewritten 7 = .ok (.iand, 1) := by decide +kernel
theorem dX6_rewritten_8 : decode cX6_rewritten 8 = .ok (.aload_n 0, 1) := by decide +kernel
theorem dX6_rewritten_9 : decode cX6_rewritten 9 = .ok (.getfield 27, 3) := by decide +kernel
theorem dX6_rewritten_12 : decode cX6_rewritten 12 = .ok (.ior, 1) := by decide +kernel
theorem dX6_rewritten_13 : decode cX6_rewritten 13 = .ok (.ireturn, 1) := by decide +kernel
theorem dX6_rewrittenSet_0 : decode cX6_rewrittenSet 0 = .ok (.lload_n 1, 1) := by decide +kernel
theorem dX6_rewrittenSet_1 : decode cX6_rewrittenSet 1 = .ok (.lstore_n 3, 1) := by decide +kernel
theorem dX6_rewrittenSet_2 : decode cX6_rewrittenSet 2 = .ok (.iconst 0, 1) := by decide +kernel
theorem dX6_rewrittenSet_3 : decode cX6_rewrittenSet 3 = .ok (.istore 5, 2) := by decide +kernel
theorem dX6_rewrittenSet_5 : decode cX6_rewrittenSet 5 = .ok (.iload 5, 2) := by decide +kernel
theorem dX6_rewrittenSet_7 : decode cX6_rewrittenSet 7 = .ok (.iconst 5, 1) := by decide +kernel
theorem dX6_rewrittenSet_8 : decode cX6_rewrittenSet 8 = .ok (.if_icmp .ge 83, 3) := by decide +kernel
theorem dX6_rewrittenSet_11 : decode cX6_rewrittenSet 11 = .ok (.aload_n 0, 1) := by decide +kernel
theorem dX6_rewrittenSet_12 : decode cX6_rewrittenSet 12 = .ok (.getfield 24, 3) := by decide +kernel
theorem dX6_rewrittenSet_15 : decode cX6_rewrittenSet 15 = .ok (.iload 5, 2) := by decide +kernel
theorem dX6_rewrittenSet_17 : decode cX6_rewrittenSet 17 = .ok (.ishr, 1) := by decide +kernel
theorem dX6_rewrittenSet_18 : decode cX6_rewrittenSet 18 = .ok (.iconst 1, 1) := by decide +kernel
theorem dX6_rewrittenSet_19 : decode cX6_rewrittenSet 19 = .ok (.iand, 1) := by decide +kernel
theorem dX6_rewrittenSet_20 : decode cX6_rewrittenSet 20 = .ok (.ifCond .eq 65, 3) := by decide +kernel
theorem dX6_rewrittenSet_23 : decode cX6_rewrittenSet 23 = .ok (.lload_n 3, 1) := by decide +kernel
theorem dX6_rewrittenSet_24 : decode cX6_rewrittenSet 24 = .ok (.getstatic 45, 3) := by decide +kernel
theorem dX6_rewrittenSet_27 : decode cX6_rewrittenSet 27 = .ok (.iload 5, 2) := by decide +kernel
theorem dX6_rewrittenSet_29 : decode cX6_rewrittenSet 29 = .ok (.laload, 1) := by decide +kernel
theorem dX6_rewrittenSet_30 : decode cX6_rewrittenSet 30 = .ok (.land, 1) := by decide +kernel
theorem dX6_rewrittenSet_31 : decode cX6_rewrittenSet 31 = .ok (.lstore 6, 2) := by decide +kernel
theorem dX6_rewrittenSet_33 : decode cX6_rewrittenSet 33 = .ok (.lload_n 3, 1) := by decide +kernel
theorem dX6_rewrittenSet_34 : decode cX6_rewrittenSet 34 = .ok (.getstatic 45, 3) := by decide +kernel
theorem dX6_rewrittenSet_37 : decode cX6_rewrittenSet 37 = .ok (.iload 5, 2) := by decide +kernel
theorem dX6_rewrittenSet_39 : decode cX6_rewrittenSet 39 = .ok (.laload, 1) := by decide +kernel
theorem dX6_rewrittenSet_40 : decode cX6_rewrittenSet 40 = .ok (.ldc2_w 49, 3) := by decide +kernel
theorem dX6_rewrittenSet_43 : decode cX6_rewrittenSet 43 = .ok (.lxor, 1) := by decide +kernel
theorem dX6_rewrittenSet_44 : decode cX6_rewrittenSet 44 = .ok (.land, 1) := by decide +kernel
theorem dX6_rewrittenSet_45 : decode cX6_rewrittenSet 45 = .ok (.lstore 8, 2) := by decide +kernel
theorem dX6_rewrittenSet_47 : decode cX6_rewrittenSet 47 = .ok (.iconst 1, 1) := by decide +kernel
theorem dX6_rewrittenSet_48 : decode cX6_rewrittenSet 48 = .ok (.iload 5, 2) := by decide +kernel
theorem dX6_rewrittenSet_50 : decode cX6_rewrittenSet 50 = .ok (.ishl, 1) := by decide +kernel
theorem dX6_rewrittenSet_51 : decode cX6_rewrittenSet 51 = .ok (.istore 10, 2) := by decide +kernel
theorem dX6_rewrittenSet_53 : decode cX6_rewrittenSet 53 = .ok (.aload_n 0, 1) := by decide +kernel
theorem dX6_rewrittenSet_54 : decode cX6_rewrittenSet 54 = .ok (.getfield 27, 3) := by decide +kernel
theorem dX6_rewrittenSet_57 : decode cX6_rewrittenSet 57 = .ok (.iload 5, 2) := by decide +kernel
theorem dX6_rewrittenSet_59 : decode cX6_rewrittenSet 59 = .ok (.ishr, 1) := by decide +kernel
theorem dX6_rewrittenSet_60 : decode cX6_rewrittenSet 60 = .ok (.iconst 1, 1) := by decide +kernel
theorem dX6_rewrittenSet_61 : decode cX6_rewrittenSet 61 = .ok (.iand, 1) := by decide +kernel
theorem dX6_rewrittenSet_62 : decode cX6_rewrittenSet 62 = .ok (.ifCond .eq 14, 3) := by decide +kernel
theorem dX6_rewrittenSet_65 : decode cX6_rewrittenSet 65 = .ok (.lload 6, 2) := by decide +kernel
theorem dX6_rewrittenSet_67 : decode cX6_rewrittenSet 67 = .ok (.lload 8, 2) := by decide +kernel
theorem dX6_rewrittenSet_69 : decode cX6_rewrittenSet 69 = .ok (.iload 10, 2) := by decide +kernel
theorem dX6_rewrittenSet_71 : decode cX6_rewrittenSet 71 = .ok (.lshl, 1) := by decide +kernel
theorem dX6_rewrittenSet_72 : decode cX6_rewrittenSet 72 = .ok (.lor, 1) := by decide +kernel
theorem dX6_rewrittenSet_73 : decode cX6_rewrittenSet 73 = .ok (.goto 11, 3) := by decide +kernel
theorem dX6_rewrittenSet_76 : decode cX6_rewrittenSet 76 = .ok (.lload 8, 2) := by decide +kernel
theorem dX6_rewrittenSet_78 : decode cX6_rewrittenSet 78 = .ok (.lload 6, 2) := by decide +kernel
theorem dX6_rewrittenSet_80 : decode cX6_rewrittenSet 80 = .ok (.iload 10, 2) := by decide +kernel
theorem dX6_rewrittenSet_82 : decode cX6_rewrittenSet 82 = .ok (.lushr, 1) := by decide +kernel
theorem dX6_rewrittenSet_83 : decode cX6_rewrittenSet 83 = .ok (.lor, 1) := by decide +kernel
theorem dX6_rewrittenSet_84 : decode cX6_rewrittenSet 84 = .ok (.lstore_n 3, 1) := by decide +kernel
theorem dX6_rewrittenSet_85 : decode cX6_rewrittenSet 85 = .ok (.iinc 5 1, 3) := by decide +kernel
theorem dX6_rewrittenSet_88 : decode cX6_rewrittenSet 88 = .ok (.goto (-83), 3) := by decide +kernel
theorem dX6_rewrittenSet_91 : decode cX6_rewrittenSet 91 = .ok (.lload_n 3, 1) := by decide +kernel
theorem dX6_rewrittenSet_92 : decode cX6_rewrittenSet 92 = .ok (.lreturn, 1) := by decide +kernel
theorem dX6_leadingInto_0 : decode cX6_leadingInto 0 = .ok (.lload_n 1, 1) := by decide +kernel
theorem dX6_leadingInto_1 : decode cX6_leadingInto 1 = .ok (.lstore_n 3, 1) := by decide +kernel
theorem dX6_leadingInto_2 : decode cX6_leadingInto 2 = .ok (.iconst 0, 1) := by decide +kernel
theorem dX6_leadingInto_3 : decode cX6_leadingInto 3 = .ok (.istore 5, 2) := by decide +kernel
theorem dX6_leadingInto_5 : decode cX6_leadingInto 5 = .ok (.iload 5, 2) := by decide +kernel
theorem dX6_leadingInto_7 : decode cX6_leadingInto 7 = .ok (.iconst 5, 1) := by decide +kernel
theorem dX6_leadingInto_8 : decode cX6_leadingInto 8 = .ok (.if_icmp .ge 83, 3) := by decide +kernel
theorem dX6_leadingInto_11 : decode cX6_leadingInto 11 = .ok (.aload_n 0, 1) := by decide +kernel
theorem dX6_leadingInto_12 : decode cX6_leadingInto 12 = .ok (.getfield 24, 3) := by decide +kernel
theorem dX6_leadingInto_15 : decode cX6_leadingInto 15 = .ok (.iload 5, 2) := by decide +kernel
theorem dX6_leadingInto_17 : decode cX6_leadingInto 17 = .ok (.ishr, 1) := by decide +kernel
theorem dX6_leadingInto_18 : decode cX6_leadingInto 18 = .ok (.iconst 1, 1) := by decide +kernel
theorem dX6_leadingInto_19 : decode cX6_leadingInto 19 = .ok (.iand, 1) := by decide +kernel
theorem dX6_leadingInto_20 : decode cX6_leadingInto 20 = .ok (.ifCond .eq 65, 3) := by decide +kernel
theorem dX6_leadingInto_23 : decode cX6_leadingInto 23 = .ok (.lload_n 3, 1) := by decide +kernel
theorem dX6_leadingInto_24 : decode cX6_leadingInto 24 = .ok (.getstatic 45, 3) := by decide +kernel
theorem dX6_leadingInto_27 : decode cX6_leadingInto 27 = .ok (.iload 5, 2) := by decide +kernel
theorem dX6_leadingInto_29 : decode cX6_leadingInto 29 = .ok (.laload, 1) := by decide +kernel
theorem dX6_leadingInto_30 : decode cX6_leadingInto 30 = .ok (.land, 1) := by decide +kernel
theorem dX6_leadingInto_31 : decode cX6_leadingInto 31 = .ok (.lstore 6, 2) := by decide +kernel
theorem dX6_leadingInto_33 : decode cX6_leadingInto 33 = .ok (.lload_n 3, 1) := by decide +kernel
theorem dX6_leadingInto_34 : decode cX6_leadingInto 34 = .ok (.getstatic 45, 3) := by decide +kernel
theorem dX6_leadingInto_37 : decode cX6_leadingInto 37 = .ok (.iload 5, 2) := by decide +kernel
theorem dX6_leadingInto_39 : decode cX6_leadingInto 39 = .ok (.laload, 1) := by decide +kernel
theorem dX6_leadingInto_40 : decode cX6_leadingInto 40 = .ok (.ldc2_w 49, 3) := by decide +kernel
theorem dX6_leadingInto_43 : decode cX6_leadingInto 43 = .ok (.lxor, 1) := by decide +kernel
theorem dX6_leadingInto_44 : decode cX6_leadingInto 44 = .ok (.land, 1) := by decide +kernel
theorem dX6_leadingInto_45 : decode cX6_leadingInto 45 = .ok (.lstore 8, 2) := by decide +kernel
theorem dX6_leadingInto_47 : decode cX6_leadingInto 47 = .ok (.iconst 1, 1) := by decide +kernel
theorem dX6_leadingInto_48 : decode cX6_leadingInto 48 = .ok (.iload 5, 2) := by decide +kernel
theorem dX6_leadingInto_50 : decode cX6_leadingInto 50 = .ok (.ishl, 1) := by decide +kernel
theorem dX6_leadingInto_51 : decode cX6_leadingInto 51 = .ok (.istore 10, 2) := by decide +kernel
theorem dX6_leadingInto_53 : decode cX6_leadingInto 53 = .ok (.aload_n 0, 1) := by decide +kernel
theorem dX6_leadingInto_54 : decode cX6_leadingInto 54 = .ok (.getfield 27, 3) := by decide +kernel
theorem dX6_leadingInto_57 : decode cX6_leadingInto 57 = .ok (.iload 5, 2) := by decide +kernel
theorem dX6_leadingInto_59 : decode cX6_leadingInto 59 = .ok (.ishr, 1) := by decide +kernel
theorem dX6_leadingInto_60 : decode cX6_leadingInto 60 = .ok (.iconst 1, 1) := by decide +kernel
theorem dX6_leadingInto_61 : decode cX6_leadingInto 61 = .ok (.iand, 1) := by decide +kernel
theorem dX6_leadingInto_62 : decode cX6_leadingInto 62 = .ok (.ifCond .eq 14, 3) := by decide +kernel
theorem dX6_leadingInto_65 : decode cX6_leadingInto 65 = .ok (.lload 6, 2) := by decide +kernel
theorem dX6_leadingInto_67 : decode cX6_leadingInto 67 = .ok (.lload 6, 2) := by decide +kernel
theorem dX6_leadingInto_69 : decode cX6_leadingInto 69 = .ok (.iload 10, 2) := by decide +kernel
theorem dX6_leadingInto_71 : decode cX6_leadingInto 71 = .ok (.lushr, 1) := by decide +kernel
theorem dX6_leadingInto_72 : decode cX6_leadingInto 72 = .ok (.lor, 1) := by decide +kernel
theorem dX6_leadingInto_73 : decode cX6_leadingInto 73 = .ok (.goto 11, 3) := by decide +kernel
theorem dX6_leadingInto_76 : decode cX6_leadingInto 76 = .ok (.lload 8, 2) := by decide +kernel
theorem dX6_leadingInto_78 : decode cX6_leadingInto 78 = .ok (.lload 8, 2) := by decide +kernel
theorem dX6_leadingInto_80 : decode cX6_leadingInto 80 = .ok (.iload 10, 2) := by decide +kernel
theorem dX6_leadingInto_82 : decode cX6_leadingInto 82 = .ok (.lshl, 1) := by decide +kernel
theorem dX6_leadingInto_83 : decode cX6_leadingInto 83 = .ok (.lor, 1) := by decide +kernel
theorem dX6_leadingInto_84 : decode cX6_leadingInto 84 = .ok (.lstore_n 3, 1) := by decide +kernel
theorem dX6_leadingInto_85 : decode cX6_leadingInto 85 = .ok (.iinc 5 1, 3) := by decide +kernel
theorem dX6_leadingInto_88 : decode cX6_leadingInto 88 = .ok (.goto (-83), 3) := by decide +kernel
theorem dX6_leadingInto_91 : decode cX6_leadingInto 91 = .ok (.lload_n 3, 1) := by decide +kernel
theorem dX6_leadingInto_92 : decode cX6_leadingInto 92 = .ok (.lreturn, 1) := by decide +kernel
theorem dX6_lowestOutput_0 : decode cX6_lowestOutput 0 = .ok (.iconst 0, 1) := by decide +kernel
theorem dX6_lowestOutput_1 : decode cX6_lowestOutput 1 = .ok (.istore_n 1, 1) := by decide +kernel
theorem dX6_lowestOutput_2 : decode cX6_lowestOutput 2 = .ok (.iload_n 1, 1) := by decide +kernel
theorem dX6_lowestOutput_3 : decode cX6_lowestOutput 3 = .ok (.iconst 4, 1) := by decide +kernel
theorem dX6_lowestOutput_4 : decode cX6_lowestOutput 4 = .ok (.if_icmp .ge 22, 3) := by decide +kernel
theorem dX6_lowestOutput_7 : decode cX6_lowestOutput 7 = .ok (.aload_n 0, 1) := by decide +kernel
theorem dX6_lowestOutput_8 : decode cX6_lowestOutput 8 = .ok (.getfield 21, 3) := by decide +kernel
theorem dX6_lowestOutput_11 : decode cX6_lowestOutput 11 = .ok (.iload_n 1, 1) := by decide +kernel
theorem dX6_lowestOutput_12 : decode cX6_lowestOutput 12 = .ok (.invokestatic 51, 3) := by decide +kernel
theorem dX6_lowestOutput_15 : decode cX6_lowestOutput 15 = .ok (.ifCond .eq 5, 3) := by decide +kernel
theorem dX6_lowestOutput_18 : decode cX6_lowestOutput 18 = .ok (.iload_n 1, 1) := by decide +kernel
theorem dX6_lowestOutput_19 : decode cX6_lowestOutput 19 = .ok (.ireturn, 1) := by decide +kernel
theorem dX6_lowestOutput_20 : decode cX6_lowestOutput 20 = .ok (.iinc 1 1, 3) := by decide +kernel
theorem dX6_lowestOutput_23 : decode cX6_lowestOutput 23 = .ok (.goto (-21), 3) := by decide +kernel
theorem dX6_lowestOutput_26 : decode cX6_lowestOutput 26 = .ok (.iconst (-1), 1) := by decide +kernel
theorem dX6_lowestOutput_27 : decode cX6_lowestOutput 27 = .ok (.ireturn, 1) := by decide +kernel
theorem dX7_init_0 : decode cX7_init 0 = .ok (.aload_n 0, 1) := by decide +kernel
theorem dX7_init_1 : decode cX7_init 1 = .ok (.invokespecial 3, 3) := by decide +kernel
theorem dX7_init_4 : decode cX7_init 4 = .ok (.aload_n 0, 1) := by decide +kernel
theorem dX7_init_5 : decode cX7_init 5 = .ok (.bipush 6, 2) := by decide +kernel
theorem dX7_init_7 : decode cX7_init 7 = .ok (.anewarray 9, 3) := by decide +kernel
theorem dX7_init_10 : decode cX7_init 10 = .ok (.putfield 11, 3) := by decide +kernel
theorem dX7_init_13 : decode cX7_init 13 = .ok (.iconst 0, 1) := by decide +kernel
theorem dX7_init_14 : decode cX7_init 14 = .ok (.istore_n 2, 1) := by decide +kernel
theorem dX7_init_15 : decode cX7_init 15 = .ok (.iload_n 2, 1) := by decide +kernel
theorem dX7_init_16 : decode cX7_init 16 = .ok (.bipush 6, 2) := by decide +kernel
theorem dX7_init_18 : decode cX7_init 18 = .ok (.if_icmp .ge 16, 3) := by decide +kernel
theorem dX7_init_21 : decode cX7_init 21 = .ok (.aload_n 0, 1) := by decide +kernel
theorem dX7_init_22 : decode cX7_init 22 = .ok (.getfield 11, 3) := by decide +kernel
theorem dX7_init_25 : decode cX7_init 25 = .ok (.iload_n 2, 1) := by decide +kernel
theorem dX7_init_26 : decode cX7_init 26 = .ok (.aload_n 1, 1) := by decide +kernel
theorem dX7_init_27 : decode cX7_init 27 = .ok (.aastore, 1) := by decide +kernel
theorem dX7_init_28 : decode cX7_init 28 = .ok (.iinc 2 1, 3) := by decide +kernel
theorem dX7_init_31 : decode cX7_init 31 = .ok (.goto (-16), 3) := by decide +kernel
theorem dX7_init_34 : decode cX7_init 34 = .ok (.return_, 1) := by decide +kernel
theorem dX7_insertAt_0 : decode cX7_insertAt 0 = .ok (.aload_n 0, 1) := by decide +kernel
theorem dX7_insertAt_1 : decode cX7_insertAt 1 = .ok (.getfield 17, 3) := by decide +kernel
theorem dX7_insertAt_4 : decode cX7_insertAt 4 = .ok (.iconst 5, 1) := by decide +kernel
theorem dX7_insertAt_5 : decode cX7_insertAt 5 = .ok (.invokestatic 21, 3) := by decide +kernel
theorem dX7_insertAt_8 : decode cX7_insertAt 8 = .ok (.istore_n 3, 1) := by decide +kernel
theorem dX7_insertAt_9 : decode cX7_insertAt 9 = .ok (.iload_n 3, 1) := by decide +kernel
theorem dX7_insertAt_10 : decode cX7_insertAt 10 = .ok (.iload_n 1, 1) := by decide +kernel
theorem dX7_insertAt_11 : decode cX7_insertAt 11 = .ok (.if_icmp .le 23, 3) := by decide +kernel
theorem dX7_insertAt_14 : decode cX7_insertAt 14 = .ok (.aload_n 0, 1) := by decide +kernel
theorem dX7_insertAt_15 : decode cX7_insertAt 15 = .ok (.getfield 11, 3) := by decide +kernel
theorem dX7_insertAt_18 : decode cX7_insertAt 18 = .ok (.iload_n 3, 1) := by decide +kernel
theorem dX7_insertAt_19 : decode cX7_insertAt 19 = .ok (.aload_n 0, 1) := by decide +kernel
theorem dX7_insertAt_20 : decode cX7_insertAt 20 = .ok (.getfield 11, 3) := by decide +kernel
theorem dX7_insertAt_23 : decode cX7_insertAt 23 = .ok (.iload_n 3, 1) := by decide +kernel
theorem dX7_insertAt_24 : decode cX7_insertAt 24 = .ok (.iconst 1, 1) := by decide +kernel
theorem dX7_insertAt_25 : decode cX7_insertAt 25 = .ok (.isub, 1) := by decide +kernel
theorem dX7_insertAt_26 : decode cX7_insertAt 26 = .ok (.aaload, 1) := by decide +kernel
theorem dX7_insertAt_27 : decode cX7_insertAt 27 = .ok (.aastore, 1) := by decide +kernel
theorem dX7_insertAt_28 : decode cX7_insertAt 28 = .ok (.iinc 3 (-1), 3) := by decide +kernel
theorem dX7_insertAt_31 : decode cX7_insertAt 31 = .ok (.goto (-22), 3) := by decide +kernel
theorem dX7_insertAt_34 : decode cX7_insertAt 34 = .ok (.aload_n 0, 1) := by decide +kernel
theorem dX7_insertAt_35 : decode cX7_insertAt 35 = .ok (.getfield 11, 3) := by decide +kernel
theorem dX7_insertAt_38 : decode cX7_insertAt 38 = .ok (.iload_n 1, 1) := by decide +kernel
theorem dX7_insertAt_39 : decode cX7_insertAt 39 = .ok (.aload_n 2, 1) := by decide +kernel
theorem dX7_insertAt_40 : decode cX7_insertAt 40 = .ok (.aastore, 1) := by decide +kernel
theorem dX7_insertAt_41 : decode cX7_insertAt 41 = .ok (.aload_n 0, 1) := by decide +kernel
theorem dX7_insertAt_42 : decode cX7_insertAt 42 = .ok (.dup, 1) := by decide +kernel
theorem dX7_insertAt_43 : decode cX7_insertAt 43 = .ok (.getfield 17, 3) := by decide +kernel
theorem dX7_insertAt_46 : decode cX7_insertAt 46 = .ok (.iconst 1, 1) := by decide +kernel
theorem dX7_insertAt_47 : decode cX7_insertAt 47 = .ok (.iadd, 1) := by decide +kernel
theorem dX7_insertAt_48 : decode cX7_insertAt 48 = .ok (.putfield 17, 3) := by decide +kernel
theorem dX7_insertAt_51 : decode cX7_insertAt 51 = .ok (.return_, 1) := by decide +kernel
theorem dX7_removeAt_0 : decode cX7_removeAt 0 = .ok (.iload_n 1, 1) := by decide +kernel
theorem dX7_removeAt_1 : decode cX7_removeAt 1 = .ok (.iconst 1, 1) := by decide +kernel
theorem dX7_removeAt_2 : decode cX7_removeAt 2 = .ok (.iadd, 1) := by decide +kernel
theorem dX7_removeAt_3 : decode cX7_removeAt 3 = .ok (.istore_n 2, 1) := by decide +kernel
theorem dX7_removeAt_4 : decode cX7_removeAt 4 = .ok (.iload_n 2, 1) := by decide +kernel
theorem dX7_removeAt_5 : decode cX7_removeAt 5 = .ok (.aload_n 0, 1) := by decide +kernel
theorem dX7_removeAt_6 : decode cX7_removeAt 6 = .ok (.getfield 17, 3) := by decide +kernel
theorem dX7_removeAt_9 : decode cX7_removeAt 9 = .ok (.if_icmp .ge 23, 3) := by decide +kernel
theorem dX7_removeAt_12 : decode cX7_removeAt 12 = .ok (.aload_n 0, 1) := by decide +kernel
theorem dX7_removeAt_13 : decode cX7_removeAt 13 = .ok (.getfield 11, 3) := by decide +kernel
theorem dX7_removeAt_16 : decode cX7_removeAt 16 = .ok (.iload_n 2, 1) := by decide +kernel
theorem dX7_removeAt_17 : decode cX7_removeAt 17 = .ok (.iconst 1, 1) := by decide +kernel
theorem dX7_removeAt_18 : decode cX7_removeAt 18 = .ok (.isub, 1) := by decide +kernel
theorem dX7_removeAt_19 : decode cX7_removeAt 19 = .ok (.aload_n 0, 1) := by decide +kernel
theorem dX7_removeAt_20 : decode cX7_removeAt 20 = .ok (.getfield 11, 3) := by decide +kernel
theorem dX7_removeAt_23 : decode cX7_removeAt 23 = .ok (.iload_n 2, 1) := by decide +kernel
theorem dX7_removeAt_24 : decode cX7_removeAt 24 = .ok (.aaload, 1) := by decide +kernel
theorem dX7_removeAt_25 : decode cX7_removeAt 25 = .ok (.aastore, 1) := by decide +kernel
theorem dX7_removeAt_26 : decode cX7_removeAt 26 = .ok (.iinc 2 1, 3) := by decide +kernel
theorem dX7_removeAt_29 : decode cX7_removeAt 29 = .ok (.goto (-25), 3) := by decide +kernel
theorem dX7_removeAt_32 : decode cX7_removeAt 32 = .ok (.aload_n 0, 1) := by decide +kernel
theorem dX7_removeAt_33 : decode cX7_removeAt 33 = .ok (.dup, 1) := by decide +kernel
theorem dX7_removeAt_34 : decode cX7_removeAt 34 = .ok (.getfield 17, 3) := by decide +kernel
theorem dX7_removeAt_37 : decode cX7_removeAt 37 = .ok (.iconst 1, 1) := by decide +kernel
theorem dX7_removeAt_38 : decode cX7_removeAt 38 = .ok (.isub, 1) := by decide +kernel
theorem dX7_removeAt_39 : decode cX7_removeAt 39 = .ok (.putfield 17, 3) := by decide +kernel
theorem dX7_removeAt_42 : decode cX7_removeAt 42 = .ok (.return_, 1) := by decide +kernel
theorem dX7_copyFrom_0 : decode cX7_copyFrom 0 = .ok (.iconst 0, 1) := by decide +kernel
theorem dX7_copyFrom_1 : decode cX7_copyFrom 1 = .ok (.istore_n 2, 1) := by decide +kernel
theorem dX7_copyFrom_2 : decode cX7_copyFrom 2 = .ok (.iload_n 2, 1) := by decide +kernel
theorem dX7_copyFrom_3 : decode cX7_copyFrom 3 = .ok (.bipush 6, 2) := by decide +kernel
theorem dX7_copyFrom_5 : decode cX7_copyFrom 5 = .ok (.if_icmp .ge 21, 3) := by decide +kernel
theorem dX7_copyFrom_8 : decode cX7_copyFrom 8 = .ok (.aload_n 0, 1) := by decide +kernel
theorem dX7_copyFrom_9 : decode cX7_copyFrom 9 = .ok (.getfield 11, 3) := by decide +kernel
theorem dX7_copyFrom_12 : decode cX7_copyFrom 12 = .ok (.iload_n 2, 1) := by decide +kernel
theorem dX7_copyFrom_13 : decode cX7_copyFrom 13 = .ok (.aload_n 1, 1) := by decide +kernel
theorem dX7_copyFrom_14 : decode cX7_copyFrom 14 = .ok (.getfield 11, 3) := by decide +kernel
theorem dX7_copyFrom_17 : decode cX7_copyFrom 17 = .ok (.iload_n 2, 1) := by decide +kernel
theorem dX7_copyFrom_18 : decode cX7_copyFrom 18 = .ok (.aaload, 1) := by decide +kernel
theorem dX7_copyFrom_19 : decode cX7_copyFrom 19 = .ok (.aastore, 1) := by decide +kernel
theorem dX7_copyFrom_20 : decode cX7_copyFrom 20 = .ok (.iinc 2 1, 3) := by decide +kernel
theorem dX7_copyFrom_23 : decode cX7_copyFrom 23 = .ok (.goto (-21), 3) := by decide +kernel
theorem dX7_copyFrom_26 : decode cX7_copyFrom 26 = .ok (.aload_n 0, 1) := by decide +kernel
theorem dX7_copyFrom_27 : decode cX7_copyFrom 27 = .ok (.aload_n 1, 1) := by decide +kernel
theorem dX7_copyFrom_28 : decode cX7_copyFrom 28 = .ok (.getfield 17, 3) := by decide +kernel
theorem dX7_copyFrom_31 : decode cX7_copyFrom 31 = .ok (.putfield 17, 3) := by decide +kernel
theorem dX7_copyFrom_34 : decode cX7_copyFrom 34 = .ok (.return_, 1) := by decide +kernel
theorem dX7_leftFor_0 : decode cX7_leftFor 0 = .ok (.lload_n 3, 1) := by decide +kernel
theorem dX7_leftFor_1 : decode cX7_leftFor 1 = .ok (.lstore 5, 2) := by decide +kernel
theorem dX7_leftFor_3 : decode cX7_leftFor 3 = .ok (.iconst 0, 1) := by decide +kernel
theorem dX7_leftFor_4 : decode cX7_leftFor 4 = .ok (.istore 7, 2) := by decide +kernel
theorem dX7_leftFor_6 : decode cX7_leftFor 6 = .ok (.iload 7, 2) := by decide +kernel
theorem dX7_leftFor_8 : decode cX7_leftFor 8 = .ok (.iload_n 1, 1) := by decide +kernel
theorem dX7_leftFor_9 : decode cX7_leftFor 9 = .ok (.if_icmp .ge 31, 3) := by decide +kernel
theorem dX7_leftFor_12 : decode cX7_leftFor 12 = .ok (.lload 5, 2) := by decide +kernel
theorem dX7_leftFor_14 : decode cX7_leftFor 14 = .ok (.aload_n 0, 1) := by decide +kernel
theorem dX7_leftFor_15 : decode cX7_leftFor 15 = .ok (.getfield 11, 3) := by decide +kernel
theorem dX7_leftFor_18 : decode cX7_leftFor 18 = .ok (.iload 7, 2) := by decide +kernel
theorem dX7_leftFor_20 : decode cX7_leftFor 20 = .ok (.aaload, 1) := by decide +kernel
theorem dX7_leftFor_21 : decode cX7_leftFor 21 = .ok (.iload_n 2, 1) := by decide +kernel
theorem dX7_leftFor_22 : decode cX7_leftFor 22 = .ok (.lload 5, 2) := by decide +kernel
theorem dX7_leftFor_24 : decode cX7_leftFor 24 = .ok (.invokevirtual 27, 3) := by decide +kernel
theorem dX7_leftFor_27 : decode cX7_leftFor 27 = .ok (.ldc2_w 31, 3) := by decide +kernel
theorem dX7_leftFor_30 : decode cX7_leftFor 30 = .ok (.lxor, 1) := by decide +kernel
theorem dX7_leftFor_31 : decode cX7_leftFor 31 = .ok (.land, 1) := by decide +kernel
theorem dX7_leftFor_32 : decode cX7_leftFor 32 = .ok (.lstore 5, 2) := by decide +kernel
theorem dX7_leftFor_34 : decode cX7_leftFor 34 = .ok (.iinc 7 1, 3) := by decide +kernel
theorem dX7_leftFor_37 : decode cX7_leftFor 37 = .ok (.goto (-31), 3) := by decide +kernel
theorem dX7_leftFor_40 : decode cX7_leftFor 40 = .ok (.lload 5, 2) := by decide +kernel
theorem dX7_leftFor_42 : decode cX7_leftFor 42 = .ok (.lreturn, 1) := by decide +kernel
theorem dX7_handled_0 : decode cX7_handled 0 = .ok (.aload_n 0, 1) := by decide +kernel
theorem dX7_handled_1 : decode cX7_handled 1 = .ok (.getfield 11, 3) := by decide +kernel
theorem dX7_handled_4 : decode cX7_handled 4 = .ok (.iload_n 1, 1) := by decide +kernel
theorem dX7_handled_5 : decode cX7_handled 5 = .ok (.aaload, 1) := by decide +kernel
theorem dX7_handled_6 : decode cX7_handled 6 = .ok (.iload_n 2, 1) := by decide +kernel
theorem dX7_handled_7 : decode cX7_handled 7 = .ok (.aload_n 0, 1) := by decide +kernel
theorem dX7_handled_8 : decode cX7_handled 8 = .ok (.iload_n 1, 1) := by decide +kernel
theorem dX7_handled_9 : decode cX7_handled 9 = .ok (.iload_n 2, 1) := by decide +kernel
theorem dX7_handled_10 : decode cX7_handled 10 = .ok (.lload_n 3, 1) := by decide +kernel
theorem dX7_handled_11 : decode cX7_handled 11 = .ok (.invokevirtual 33, 3) := by decide +kernel
theorem dX7_handled_14 : decode cX7_handled 14 = .ok (.invokevirtual 27, 3) := by decide +kernel
theorem dX7_handled_17 : decode cX7_handled 17 = .ok (.lreturn, 1) := by decide +kernel
theorem dX7_handler_0 : decode cX7_handler 0 = .ok (.lconst 1, 1) := by decide +kernel
theorem dX7_handler_1 : decode cX7_handler 1 = .ok (.iload_n 2, 1) := by decide +kernel
theorem dX7_handler_2 : decode cX7_handler 2 = .ok (.lshl, 1) := by decide +kernel
theorem dX7_handler_3 : decode cX7_handler 3 = .ok (.lstore 4, 2) := by decide +kernel
theorem dX7_handler_5 : decode cX7_handler 5 = .ok (.iconst 0, 1) := by decide +kernel
theorem dX7_handler_6 : decode cX7_handler 6 = .ok (.istore 6, 2) := by decide +kernel
theorem dX7_handler_8 : decode cX7_handler 8 = .ok (.iload 6, 2) := by decide +kernel
theorem dX7_handler_10 : decode cX7_handler 10 = .ok (.aload_n 0, 1) := by decide +kernel
theorem dX7_handler_11 : decode cX7_handler 11 = .ok (.getfield 17, 3) := by decide +kernel
theorem dX7_handler_14 : decode cX7_handler 14 = .ok (.if_icmp .ge 39, 3) := by decide +kernel
theorem dX7_handler_17 : decode cX7_handler 17 = .ok (.iload_n 3, 1) := by decide +kernel
theorem dX7_handler_18 : decode cX7_handler 18 = .ok (.iload 6, 2) := by decide +kernel
theorem dX7_handler_20 : decode cX7_handler 20 = .ok (.ishr, 1) := by decide +kernel
theorem dX7_handler_21 : decode cX7_handler 21 = .ok (.iconst 1, 1) := by decide +kernel
theorem dX7_handler_22 : decode cX7_handler 22 = .ok (.iand, 1) := by decide +kernel
theorem dX7_handler_23 : decode cX7_handler 23 = .ok (.ifCond .ne 24, 3) := by decide +kernel
theorem dX7_handler_26 : decode cX7_handler 26 = .ok (.aload_n 0, 1) := by decide +kernel
theorem dX7_handler_27 : decode cX7_handler 27 = .ok (.getfield 11, 3) := by decide +kernel
theorem dX7_handler_30 : decode cX7_handler 30 = .ok (.iload 6, 2) := by decide +kernel
theorem dX7_handler_32 : decode cX7_handler 32 = .ok (.aaload, 1) := by decide +kernel
theorem dX7_handler_33 : decode cX7_handler 33 = .ok (.iload_n 1, 1) := by decide +kernel
theorem dX7_handler_34 : decode cX7_handler 34 = .ok (.lload 4, 2) := by decide +kernel
theorem dX7_handler_36 : decode cX7_handler 36 = .ok (.invokevirtual 27, 3) := by decide +kernel
theorem dX7_handler_39 : decode cX7_handler 39 = .ok (.lconst 0, 1) := by decide +kernel
theorem dX7_handler_40 : decode cX7_handler 40 = .ok (.lcmp, 1) := by decide +kernel
theorem dX7_handler_41 : decode cX7_handler 41 = .ok (.ifCond .eq 6, 3) := by decide +kernel
theorem dX7_handler_44 : decode cX7_handler 44 = .ok (.iload 6, 2) := by decide +kernel
theorem dX7_handler_46 : decode cX7_handler 46 = .ok (.ireturn, 1) := by decide +kernel
theorem dX7_handler_47 : decode cX7_handler 47 = .ok (.iinc 6 1, 3) := by decide +kernel
theorem dX7_handler_50 : decode cX7_handler 50 = .ok (.goto (-42), 3) := by decide +kernel
theorem dX7_handler_53 : decode cX7_handler 53 = .ok (.iconst (-1), 1) := by decide +kernel
theorem dX7_handler_54 : decode cX7_handler 54 = .ok (.ireturn, 1) := by decide +kernel
theorem dX7_hiddenRules_0 : decode cX7_hiddenRules 0 = .ok (.iconst 0, 1) := by decide +kernel
theorem dX7_hiddenRules_1 : decode cX7_hiddenRules 1 = .ok (.istore_n 1, 1) := by decide +kernel
theorem dX7_hiddenRules_2 : decode cX7_hiddenRules 2 = .ok (.iconst 0, 1) := by decide +kernel
theorem dX7_hiddenRules_3 : decode cX7_hiddenRules 3 = .ok (.istore_n 2, 1) := by decide +kernel
theorem dX7_hiddenRules_4 : decode cX7_hiddenRules 4 = .ok (.iload_n 2, 1) := by decide +kernel
theorem dX7_hiddenRules_5 : decode cX7_hiddenRules 5 = .ok (.aload_n 0, 1) := by decide +kernel
theorem dX7_hiddenRules_6 : decode cX7_hiddenRules 6 = .ok (.getfield 17, 3) := by decide +kernel
theorem dX7_hiddenRules_9 : decode cX7_hiddenRules 9 = .ok (.if_icmp .ge 35, 3) := by decide +kernel
theorem dX7_hiddenRules_12 : decode cX7_hiddenRules 12 = .ok (.aload_n 0, 1) := by decide +kernel
theorem dX7_hiddenRules_13 : decode cX7_hiddenRules 13 = .ok (.getfield 11, 3) := by decide +kernel
theorem dX7_hiddenRules_16 : decode cX7_hiddenRules 16 = .ok (.iload_n 2, 1) := by decide +kernel
theorem dX7_hiddenRules_17 : decode cX7_hiddenRules 17 = .ok (.aaload, 1) := by decide +kernel
theorem dX7_hiddenRules_18 : decode cX7_hiddenRules 18 = .ok (.getfield 37, 3) := by decide +kernel
theorem dX7_hiddenRules_21 : decode cX7_hiddenRules 21 = .ok (.ifCond .eq 17, 3) := by decide +kernel
theorem dX7_hiddenRules_24 : decode cX7_hiddenRules 24 = .ok (.aload_n 0, 1) := by decide +kernel
theorem dX7_hiddenRules_25 : decode cX7_hiddenRules 25 = .ok (.iload_n 2, 1) := by decide +kernel
theorem dX7_hiddenRules_26 : decode cX7_hiddenRules 26 = .ok (.invokevirtual 41, 3) := by decide +kernel
theorem dX7_hiddenRules_29 : decode cX7_hiddenRules 29 = .ok (.ifCond .eq 9, 3) := by decide +kernel
theorem dX7_hiddenRules_32 : decode cX7_hiddenRules 32 = .ok (.iload_n 1, 1) := by decide +kernel
theorem dX7_hiddenRules_33 : decode cX7_hiddenRules 33 = .ok (.iconst 1, 1) := by decide +kernel
theorem dX7_hiddenRules_34 : decode cX7_hiddenRules 34 = .ok (.iload_n 2, 1) := by decide +kernel
theorem dX7_hiddenRules_35 : decode cX7_hiddenRules 35 = .ok (.ishl, 1) := by decide +kernel
theorem dX7_hiddenRules_36 : decode cX7_hiddenRules 36 = .ok (.ior, 1) := by decide +kernel
theorem dX7_hiddenRules_37 : decode cX7_hiddenRules 37 = .ok (.istore_n 1, 1) := by decide +kernel
theorem dX7_hiddenRules_38 : decode cX7_hiddenRules 38 = .ok (.iinc 2 1, 3) := by decide +kernel
theorem dX7_hiddenRules_41 : decode cX7_hiddenRules 41 = .ok (.goto (-37), 3) := by decide +kernel
theorem dX7_hiddenRules_44 : decode cX7_hiddenRules 44 = .ok (.iload_n 1, 1) := by decide +kernel
theorem dX7_hiddenRules_45 : decode cX7_hiddenRules 45 = .ok (.ireturn, 1) := by decide +kernel
theorem dX7_isHidden_0 : decode cX7_isHidden 0 = .ok (.iconst 0, 1) := by decide +kernel
theorem dX7_isHidden_1 : decode cX7_isHidden 1 = .ok (.istore_n 2, 1) := by decide +kernel
theorem dX7_isHidden_2 : decode cX7_isHidden 2 = .ok (.iload_n 2, 1) := by decide +kernel
theorem dX7_isHidden_3 : decode cX7_isHidden 3 = .ok (.iconst 4, 1) := by decide +kernel
theorem dX7_isHidden_4 : decode cX7_isHidden 4 = .ok (.if_icmp .ge 31, 3) := by decide +kernel
theorem dX7_isHidden_7 : decode cX7_isHidden 7 = .ok (.aload_n 0, 1) := by decide +kernel
theorem dX7_isHidden_8 : decode cX7_isHidden 8 = .ok (.iload_n 1, 1) := by decide +kernel
theorem dX7_isHidden_9 : decode cX7_isHidden 9 = .ok (.iload_n 2, 1) := by decide +kernel
theorem dX7_isHidden_10 : decode cX7_isHidden 10 = .ok (.aload_n 0, 1) := by decide +kernel
theorem dX7_isHidden_11 : decode cX7_isHidden 11 = .ok (.getfield 11, 3) := by decide +kernel
theorem dX7_isHidden_14 : decode cX7_isHidden 14 = .ok (.iload_n 1, 1) := by decide +kernel
theorem dX7_isHidden_15 : decode cX7_isHidden 15 = .ok (.aaload, 1) := by decide +kernel
theorem dX7_isHidden_16 : decode cX7_isHidden 16 = .ok (.getfield 45, 3) := by decide +kernel
theorem dX7_isHidden_19 : decode cX7_isHidden 19 = .ok (.invokevirtual 49, 3) := by decide +kernel
theorem dX7_isHidden_22 : decode cX7_isHidden 22 = .ok (.lconst 0, 1) := by decide +kernel
theorem dX7_isHidden_23 : decode cX7_isHidden 23 = .ok (.lcmp, 1) := by decide +kernel
theorem dX7_isHidden_24 : decode cX7_isHidden 24 = .ok (.ifCond .eq 5, 3) := by decide +kernel
theorem dX7_isHidden_27 : decode cX7_isHidden 27 = .ok (.iconst 0, 1) := by decide +kernel
theorem dX7_isHidden_28 : decode cX7_isHidden 28 = .ok (.ireturn, 1) := by decide +kernel
theorem dX7_isHidden_29 : decode cX7_isHidden 29 = .ok (.iinc 2 1, 3) := by decide +kernel
theorem dX7_isHidden_32 : decode cX7_isHidden 32 = .ok (.goto (-30), 3) := by decide +kernel
theorem dX7_isHidden_35 : decode cX7_isHidden 35 = .ok (.iconst 1, 1) := by decide +kernel
theorem dX7_isHidden_36 : decode cX7_isHidden 36 = .ok (.ireturn, 1) := by decide +kernel
theorem dX8_init_0 : decode cX8_init 0 = .ok (.aload_n 0, 1) := by decide +kernel
theorem dX8_init_1 : decode cX8_init 1 = .ok (.invokespecial 3, 3) := by decide +kernel
theorem dX8_init_4 : decode cX8_init 4 = .ok (.aload_n 0, 1) := by decide +kernel
theorem dX8_init_5 : decode cX8_init 5 = .ok (.bipush 40, 2) := by decide +kernel
theorem dX8_init_7 : decode cX8_init 7 = .ok (.newarray .char, 2) := by decide +kernel
theorem dX8_init_9 : decode cX8_init 9 = .ok (.putfield 9, 3) := by decide +kernel
theorem dX8_init_12 : decode cX8_init 12 = .ok (.return_, 1) := by decide +kernel
theorem dX8_write_0 : decode cX8_write 0 = .ok (.aload_n 0, 1) := by decide +kernel
theorem dX8_write_1 : decode cX8_write 1 = .ok (.iconst 0, 1) := by decide +kernel
theorem dX8_write_2 : decode cX8_write 2 = .ok (.putfield 15, 3) := by decide +kernel
theorem dX8_write_5 : decode cX8_write 5 = .ok (.aload_n 1, 1) := by decide +kernel
theorem dX8_write_6 : decode cX8_write 6 = .ok (.getfield 19, 3) := by decide +kernel
theorem dX8_write_9 : decode cX8_write 9 = .ok (.bipush 15, 2) := by decide +kernel
theorem dX8_write_11 : decode cX8_write 11 = .ok (.if_icmp .ne 12, 3) := by decide +kernel
theorem dX8_write_14 : decode cX8_write 14 = .ok (.aload_n 0, 1) := by decide +kernel
theorem dX8_write_15 : decode cX8_write 15 = .ok (.bipush 42, 2) := by decide +kernel
theorem dX8_write_17 : decode cX8_write 17 = .ok (.invokevirtual 24, 3) := by decide +kernel
theorem dX8_write_20 : decode cX8_write 20 = .ok (.goto 11, 3) := by decide +kernel
theorem dX8_write_23 : decode cX8_write 23 = .ok (.aload_n 0, 1) := by decide +kernel
theorem dX8_write_24 : decode cX8_write 24 = .ok (.aload_n 1, 1) := by decide +kernel
theorem dX8_write_25 : decode cX8_write 25 = .ok (.getfield 19, 3) := by decide +kernel
theorem dX8_write_28 : decode cX8_write 28 = .ok (.invokevirtual 28, 3) := by decide +kernel
theorem dX8_write_31 : decode cX8_write 31 = .ok (.aload_n 0, 1) := by decide +kernel
theorem dX8_write_32 : decode cX8_write 32 = .ok (.bipush 58, 2) := by decide +kernel
theorem dX8_write_34 : decode cX8_write 34 = .ok (.invokevirtual 24, 3) := by decide +kernel
theorem dX8_write_37 : decode cX8_write 37 = .ok (.aload_n 0, 1) := by decide +kernel
theorem dX8_write_38 : decode cX8_write 38 = .ok (.aload_n 1, 1) := by decide +kernel
theorem dX8_write_39 : decode cX8_write 39 = .ok (.getfield 32, 3) := by decide +kernel
theorem dX8_write_42 : decode cX8_write 42 = .ok (.aload_n 1, 1) := by decide +kernel
theorem dX8_write_43 : decode cX8_write 43 = .ok (.getfield 35, 3) := by decide +kernel
theorem dX8_write_46 : decode cX8_write 46 = .ok (.iload_n 2, 1) := by decide +kernel
theorem dX8_write_47 : decode cX8_write 47 = .ok (.invokevirtual 38, 3) := by decide +kernel
theorem dX8_write_50 : decode cX8_write 50 = .ok (.aload_n 1, 1) := by decide +kernel
theorem dX8_write_51 : decode cX8_write 51 = .ok (.getfield 42, 3) := by decide +kernel
theorem dX8_write_54 : decode cX8_write 54 = .ok (.ifCond .ne 10, 3) := by decide +kernel
theorem dX8_write_57 : decode cX8_write 57 = .ok (.aload_n 0, 1) := by decide +kernel
theorem dX8_write_58 : decode cX8_write 58 = .ok (.bipush 33, 2) := by decide +kernel
theorem dX8_write_60 : decode cX8_write 60 = .ok (.invokevirtual 24, 3) := by decide +kernel
theorem dX8_write_63 : decode cX8_write 63 = .ok (.return_, 1) := by decide +kernel
theorem dX8_write_64 : decode cX8_write 64 = .ok (.aload_n 0, 1) := by decide +kernel
theorem dX8_write_65 : decode cX8_write 65 = .ok (.bipush 62, 2) := by decide +kernel
theorem dX8_write_67 : decode cX8_write 67 = .ok (.invokevirtual 24, 3) := by decide +kernel
theorem dX8_write_70 : decode cX8_write 70 = .ok (.aload_n 0, 1) := by decide +kernel
theorem dX8_write_71 : decode cX8_write 71 = .ok (.aload_n 1, 1) := by decide +kernel
theorem dX8_write_72 : decode cX8_write 72 = .ok (.getfield 42, 3) := by decide +kernel
theorem dX8_write_75 : decode cX8_write 75 = .ok (.invokevirtual 28, 3) := by decide +kernel
theorem dX8_write_78 : decode cX8_write 78 = .ok (.aload_n 1, 1) := by decide +kernel
theorem dX8_write_79 : decode cX8_write 79 = .ok (.getfield 45, 3) := by decide +kernel
theorem dX8_write_82 : decode cX8_write 82 = .ok (.ifCond .eq 22, 3) := by decide +kernel
theorem dX8_write_85 : decode cX8_write 85 = .ok (.aload_n 0, 1) := by decide +kernel
theorem dX8_write_86 : decode cX8_write 86 = .ok (.bipush 61, 2) := by decide +kernel
theorem dX8_write_88 : decode cX8_write 88 = .ok (.invokevirtual 24, 3) := by decide +kernel
theorem dX8_write_91 : decode cX8_write 91 = .ok (.aload_n 0, 1) := by decide +kernel
theorem dX8_write_92 : decode cX8_write 92 = .ok (.aload_n 1, 1) := by decide +kernel
theorem dX8_write_93 : decode cX8_write 93 = .ok (.getfield 45, 3) := by decide +kernel
theorem dX8_write_96 : decode cX8_write 96 = .ok (.aload_n 1, 1) := by decide +kernel
theorem dX8_write_97 : decode cX8_write 97 = .ok (.getfield 48, 3) := by decide +kernel
theorem dX8_write_100 : decode cX8_write 100 = .ok (.iload_n 2, 1) := by decide +kernel
theorem dX8_write_101 : decode cX8_write 101 = .ok (.invokevirtual 38, 3) := by decide +kernel
theorem dX8_write_104 : decode cX8_write 104 = .ok (.return_, 1) := by decide +kernel
theorem dX8_put_0 : decode cX8_put 0 = .ok (.aload_n 0, 1) := by decide +kernel
theorem dX8_put_1 : decode cX8_put 1 = .ok (.getfield 15, 3) := by decide +kernel
theorem dX8_put_4 : decode cX8_put 4 = .ok (.bipush 40, 2) := by decide +kernel
theorem dX8_put_6 : decode cX8_put 6 = .ok (.if_icmp .ge 23, 3) := by decide +kernel
theorem dX8_put_9 : decode cX8_put 9 = .ok (.aload_n 0, 1) := by decide +kernel
theorem dX8_put_10 : decode cX8_put 10 = .ok (.getfield 9, 3) := by decide +kernel
theorem dX8_put_13 : decode cX8_put 13 = .ok (.aload_n 0, 1) := by decide +kernel
theorem dX8_put_14 : decode cX8_put 14 = .ok (.getfield 15, 3) := by decide +kernel
theorem dX8_put_17 : decode cX8_put 17 = .ok (.iload_n 1, 1) := by decide +kernel
theorem dX8_put_18 : decode cX8_put 18 = .ok (.castore, 1) := by decide +kernel
theorem dX8_put_19 : decode cX8_put 19 = .ok (.aload_n 0, 1) := by decide +kernel
theorem dX8_put_20 : decode cX8_put 20 = .ok (.dup, 1) := by decide +kernel
theorem dX8_put_21 : decode cX8_put 21 = .ok (.getfield 15, 3) := by decide +kernel
theorem dX8_put_24 : decode cX8_put 24 = .ok (.iconst 1, 1) := by decide +kernel
theorem dX8_put_25 : decode cX8_put 25 = .ok (.iadd, 1) := by decide +kernel
theorem dX8_put_26 : decode cX8_put 26 = .ok (.putfield 15, 3) := by decide +kernel
theorem dX8_put_29 : decode cX8_put 29 = .ok (.return_, 1) := by decide +kernel
theorem dX8_putDigits_0 : decode cX8_putDigits 0 = .ok (.iconst 0, 1) := by decide +kernel
theorem dX8_putDigits_1 : decode cX8_putDigits 1 = .ok (.istore_n 2, 1) := by decide +kernel
theorem dX8_putDigits_2 : decode cX8_putDigits 2 = .ok (.iload_n 2, 1) := by decide +kernel
theorem dX8_putDigits_3 : decode cX8_putDigits 3 = .ok (.iconst 4, 1) := by decide +kernel
theorem dX8_putDigits_4 : decode cX8_putDigits 4 = .ok (.if_icmp .ge 26, 3) := by decide +kernel
theorem dX8_putDigits_7 : decode cX8_putDigits 7 = .ok (.iload_n 1, 1) := by decide +kernel
theorem dX8_putDigits_8 : decode cX8_putDigits 8 = .ok (.iload_n 2, 1) := by decide +kernel
theorem dX8_putDigits_9 : decode cX8_putDigits 9 = .ok (.invokestatic 51, 3) := by decide +kernel
theorem dX8_putDigits_12 : decode cX8_putDigits 12 = .ok (.ifCond .eq 12, 3) := by decide +kernel
theorem dX8_putDigits_15 : decode cX8_putDigits 15 = .ok (.aload_n 0, 1) := by decide +kernel
theorem dX8_putDigits_16 : decode cX8_putDigits 16 = .ok (.bipush 48, 2) := by decide +kernel
theorem dX8_putDigits_18 : decode cX8_putDigits 18 = .ok (.iload_n 2, 1) := by decide +kernel
theorem dX8_putDigits_19 : decode cX8_putDigits 19 = .ok (.iadd, 1) := by decide +kernel
theorem dX8_putDigits_20 : decode cX8_putDigits 20 = .ok (.i2c, 1) := by decide +kernel
theorem dX8_putDigits_21 : decode cX8_putDigits 21 = .ok (.invokevirtual 24, 3) := by decide +kernel
theorem dX8_putDigits_24 : decode cX8_putDigits 24 = .ok (.iinc 2 1, 3) := by decide +kernel
theorem dX8_putDigits_27 : decode cX8_putDigits 27 = .ok (.goto (-25), 3) := by decide +kernel
theorem dX8_putDigits_30 : decode cX8_putDigits 30 = .ok (.return_, 1) := by decide +kernel
theorem dX8_putPattern_0 : decode cX8_putPattern 0 = .ok (.iload_n 3, 1) := by decide +kernel
theorem dX8_putPattern_1 : decode cX8_putPattern 1 = .ok (.iconst 1, 1) := by decide +kernel
theorem dX8_putPattern_2 : decode cX8_putPattern 2 = .ok (.isub, 1) := by decide +kernel
theorem dX8_putPattern_3 : decode cX8_putPattern 3 = .ok (.istore 4, 2) := by decide +kernel
theorem dX8_putPattern_5 : decode cX8_putPattern 5 = .ok (.iload 4, 2) := by decide +kernel
theorem dX8_putPattern_7 : decode cX8_putPattern 7 = .ok (.ifCond .lt 47, 3) := by decide +kernel
theorem dX8_putPattern_10 : decode cX8_putPattern 10 = .ok (.iload_n 1, 1) := by decide +kernel
theorem dX8_putPattern_11 : decode cX8_putPattern 11 = .ok (.iload 4, 2) := by decide +kernel
theorem dX8_putPattern_13 : decode cX8_putPattern 13 = .ok (.ishr, 1) := by decide +kernel
theorem dX8_putPattern_14 : decode cX8_putPattern 14 = .ok (.iconst 1, 1) := by decide +kernel
theorem dX8_putPattern_15 : decode cX8_putPattern 15 = .ok (.iand, 1) := by decide +kernel
theorem dX8_putPattern_16 : decode cX8_putPattern 16 = .ok (.ifCond .ne 12, 3) := by decide +kernel
theorem dX8_putPattern_19 : decode cX8_putPattern 19 = .ok (.aload_n 0, 1) := by decide +kernel
theorem dX8_putPattern_20 : decode cX8_putPattern 20 = .ok (.bipush 42, 2) := by decide +kernel
theorem dX8_putPattern_22 : decode cX8_putPattern 22 = .ok (.invokevirtual 24, 3) := by decide +kernel
theorem dX8_putPattern_25 : decode cX8_putPattern 25 = .ok (.goto 23, 3) := by decide +kernel
theorem dX8_putPattern_28 : decode cX8_putPattern 28 = .ok (.aload_n 0, 1) := by decide +kernel
theorem dX8_putPattern_29 : decode cX8_putPattern 29 = .ok (.iload_n 2, 1) := by decide +kernel
theorem dX8_putPattern_30 : decode cX8_putPattern 30 = .ok (.iload 4, 2) := by decide +kernel
theorem dX8_putPattern_32 : decode cX8_putPattern 32 = .ok (.ishr, 1) := by decide +kernel
theorem dX8_putPattern_33 : decode cX8_putPattern 33 = .ok (.iconst 1, 1) := by decide +kernel
theorem dX8_putPattern_34 : decode cX8_putPattern 34 = .ok (.iand, 1) := by decide +kernel
theorem dX8_putPattern_35 : decode cX8_putPattern 35 = .ok (.ifCond .eq 8, 3) := by decide +kernel
theorem dX8_putPattern_38 : decode cX8_putPattern 38 = .ok (.bipush 49, 2) := by decide +kernel
theorem dX8_putPattern_40 : decode cX8_putPattern 40 = .ok (.goto 5, 3) := by decide +kernel
theorem dX8_putPattern_43 : decode cX8_putPattern 43 = .ok (.bipush 48, 2) := by decide +kernel
theorem dX8_putPattern_45 : decode cX8_putPattern 45 = .ok (.invokevirtual 24, 3) := by decide +kernel
theorem dX8_putPattern_48 : decode cX8_putPattern 48 = .ok (.iinc 4 (-1), 3) := by decide +kernel
theorem dX8_putPattern_51 : decode cX8_putPattern 51 = .ok (.goto (-46), 3) := by decide +kernel
theorem dX8_putPattern_54 : decode cX8_putPattern 54 = .ok (.return_, 1) := by decide +kernel
theorem dX9_init_0 : decode cX9_init 0 = .ok (.aload_n 0, 1) := by decide +kernel
theorem dX9_init_1 : decode cX9_init 1 = .ok (.invokespecial 3, 3) := by decide +kernel
theorem dX9_init_4 : decode cX9_init 4 = .ok (.aload_n 0, 1) := by decide +kernel
theorem dX9_init_5 : decode cX9_init 5 = .ok (.bipush 40, 2) := by decide +kernel
theorem dX9_init_7 : decode cX9_init 7 = .ok (.newarray .char, 2) := by decide +kernel
theorem dX9_init_9 : decode cX9_init 9 = .ok (.putfield 9, 3) := by decide +kernel
theorem dX9_init_12 : decode cX9_init 12 = .ok (.return_, 1) := by decide +kernel
theorem dX9_isRule_0 : decode cX9_isRule 0 = .ok (.aload_n 0, 1) := by decide +kernel
theorem dX9_isRule_1 : decode cX9_isRule 1 = .ok (.iconst 0, 1) := by decide +kernel
theorem dX9_isRule_2 : decode cX9_isRule 2 = .ok (.putfield 15, 3) := by decide +kernel
theorem dX9_isRule_5 : decode cX9_isRule 5 = .ok (.aload_n 0, 1) := by decide +kernel
theorem dX9_isRule_6 : decode cX9_isRule 6 = .ok (.iconst 0, 1) := by decide +kernel
theorem dX9_isRule_7 : decode cX9_isRule 7 = .ok (.putfield 19, 3) := by decide +kernel
theorem dX9_isRule_10 : decode cX9_isRule 10 = .ok (.aload_n 0, 1) := by decide +kernel
theorem dX9_isRule_11 : decode cX9_isRule 11 = .ok (.iconst 0, 1) := by decide +kernel
theorem dX9_isRule_12 : decode cX9_isRule 12 = .ok (.putfield 22, 3) := by decide +kernel
theorem dX9_isRule_15 : decode cX9_isRule 15 = .ok (.aload_n 0, 1) := by decide +kernel
theorem dX9_isRule_16 : decode cX9_isRule 16 = .ok (.iconst 0, 1) := by decide +kernel
theorem dX9_isRule_17 : decode cX9_isRule 17 = .ok (.putfield 25, 3) := by decide +kernel
theorem dX9_isRule_20 : decode cX9_isRule 20 = .ok (.aload_n 0, 1) := by decide +kernel
theorem dX9_isRule_21 : decode cX9_isRule 21 = .ok (.invokevirtual 28, 3) := by decide +kernel
theorem dX9_isRule_24 : decode cX9_isRule 24 = .ok (.ifCond .eq 20, 3) := by decide +kernel
theorem dX9_isRule_27 : decode cX9_isRule 27 = .ok (.aload_n 0, 1) := by decide +kernel
theorem dX9_isRule_28 : decode cX9_isRule 28 = .ok (.bipush 58, 2) := by decide +kernel
theorem dX9_isRule_30 : decode cX9_isRule 30 = .ok (.invokevirtual 32, 3) := by decide +kernel
theorem dX9_isRule_33 : decode cX9_isRule 33 = .ok (.ifCond .eq 11, 3) := by decide +kernel
theorem dX9_isRule_36 : decode cX9_isRule 36 = .ok (.aload_n 0, 1) := by decide +kernel
theorem dX9_isRule_37 : decode cX9_isRule 37 = .ok (.iload_n 1, 1) := by decide +kernel
theorem dX9_isRule_38 : decode cX9_isRule 38 = .ok (.invokevirtual 36, 3) := by decide +kernel
theorem dX9_isRule_41 : decode cX9_isRule 41 = .ok (.ifCond .ne 5, 3) := by decide +kernel
theorem dX9_isRule_44 : decode cX9_isRule 44 = .ok (.iconst 0, 1) := by decide +kernel
theorem dX9_isRule_45 : decode cX9_isRule 45 = .ok (.ireturn, 1) := by decide +kernel
theorem dX9_isRule_46 : decode cX9_isRule 46 = .ok (.aload_n 0, 1) := by decide +kernel
theorem dX9_isRule_47 : decode cX9_isRule 47 = .ok (.bipush 33, 2) := by decide +kernel
theorem dX9_isRule_49 : decode cX9_isRule 49 = .ok (.invokevirtual 32, 3) := by decide +kernel
theorem dX9_isRule_52 : decode cX9_isRule 52 = .ok (.ifCond .eq 20, 3) := by decide +kernel
theorem dX9_isRule_55 : decode cX9_isRule 55 = .ok (.aload_n 0, 1) := by decide +kernel
theorem dX9_isRule_56 : decode cX9_isRule 56 = .ok (.getfield 15, 3) := by decide +kernel
theorem dX9_isRule_59 : decode cX9_isRule 59 = .ok (.aload_n 0, 1) := by decide +kernel
theorem dX9_isRule_60 : decode cX9_isRule 60 = .ok (.getfield 40, 3) := by decide +kernel
theorem dX9_isRule_63 : decode cX9_isRule 63 = .ok (.if_icmp .ne 7, 3) := by decide +kernel
theorem dX9_isRule_66 : decode cX9_isRule 66 = .ok (.iconst 1, 1) := by decide +kernel
theorem dX9_isRule_67 : decode cX9_isRule 67 = .ok (.goto 4, 3) := by decide +kernel
theorem dX9_isRule_70 : decode cX9_isRule 70 = .ok (.iconst 0, 1) := by decide +kernel
theorem dX9_isRule_71 : decode cX9_isRule 71 = .ok (.ireturn, 1) := by decide +kernel
theorem dX9_isRule_72 : decode cX9_isRule 72 = .ok (.aload_n 0, 1) := by decide +kernel
theorem dX9_isRule_73 : decode cX9_isRule 73 = .ok (.bipush 62, 2) := by decide +kernel
theorem dX9_isRule_75 : decode cX9_isRule 75 = .ok (.invokevirtual 32, 3) := by decide +kernel
theorem dX9_isRule_78 : decode cX9_isRule 78 = .ok (.ifCond .eq 33, 3) := by decide +kernel
theorem dX9_isRule_81 : decode cX9_isRule 81 = .ok (.aload_n 0, 1) := by decide +kernel
theorem dX9_isRule_82 : decode cX9_isRule 82 = .ok (.invokevirtual 43, 3) := by decide +kernel
theorem dX9_isRule_85 : decode cX9_isRule 85 = .ok (.ifCond .eq 26, 3) := by decide +kernel
theorem dX9_isRule_88 : decode cX9_isRule 88 = .ok (.aload_n 0, 1) := by decide +kernel
theorem dX9_isRule_89 : decode cX9_isRule 89 = .ok (.iload_n 1, 1) := by decide +kernel
theorem dX9_isRule_90 : decode cX9_isRule 90 = .ok (.invokevirtual 46, 3) := by decide +kernel
theorem dX9_isRule_93 : decode cX9_isRule 93 = .ok (.ifCond .eq 18, 3) := by decide +kernel
theorem dX9_isRule_96 : decode cX9_isRule 96 = .ok (.aload_n 0, 1) := by decide +kernel
theorem dX9_isRule_97 : decode cX9_isRule 97 = .ok (.getfield 15, 3) := by decide +kernel
theorem dX9_isRule_100 : decode cX9_isRule 100 = .ok (.aload_n 0, 1) := by decide +kernel
theorem dX9_isRule_101 : decode cX9_isRule 101 = .ok (.getfield 40, 3) := by decide +kernel
theorem dX9_isRule_104 : decode cX9_isRule 104 = .ok (.if_icmp .ne 7, 3) := by decide +kernel
theorem dX9_isRule_107 : decode cX9_isRule 107 = .ok (.iconst 1, 1) := by decide +kernel
theorem dX9_isRule_108 : decode cX9_isRule 108 = .ok (.goto 4, 3) := by decide +kernel
theorem dX9_isRule_111 : decode cX9_isRule 111 = .ok (.iconst 0, 1) := by decide +kernel
theorem dX9_isRule_112 : decode cX9_isRule 112 = .ok (.ireturn, 1) := by decide +kernel
theorem dX9_readOne_0 : decode cX9_readOne 0 = .ok (.new 49, 3) := by decide +kernel
theorem dX9_readOne_3 : decode cX9_readOne 3 = .ok (.dup, 1) := by decide +kernel
theorem dX9_readOne_4 : decode cX9_readOne 4 = .ok (.aload_n 0, 1) := by decide +kernel
theorem dX9_readOne_5 : decode cX9_readOne 5 = .ok (.getfield 51, 3) := by decide +kernel
theorem dX9_readOne_8 : decode cX9_readOne 8 = .ok (.aload_n 0, 1) := by decide +kernel
theorem dX9_readOne_9 : decode cX9_readOne 9 = .ok (.getfield 54, 3) := by decide +kernel
theorem dX9_readOne_12 : decode cX9_readOne 12 = .ok (.aload_n 0, 1) := by decide +kernel
theorem dX9_readOne_13 : decode cX9_readOne 13 = .ok (.getfield 57, 3) := by decide +kernel
theorem dX9_readOne_16 : decode cX9_readOne 16 = .ok (.aload_n 0, 1) := by decide +kernel
theorem dX9_readOne_17 : decode cX9_readOne 17 = .ok (.getfield 19, 3) := by decide +kernel
theorem dX9_readOne_20 : decode cX9_readOne 20 = .ok (.aload_n 0, 1) := by decide +kernel
theorem dX9_readOne_21 : decode cX9_readOne 21 = .ok (.getfield 22, 3) := by decide +kernel
theorem dX9_readOne_24 : decode cX9_readOne 24 = .ok (.aload_n 0, 1) := by decide +kernel
theorem dX9_readOne_25 : decode cX9_readOne 25 = .ok (.getfield 25, 3) := by decide +kernel
theorem dX9_readOne_28 : decode cX9_readOne 28 = .ok (.iconst 1, 1) := by decide +kernel
theorem dX9_readOne_29 : decode cX9_readOne 29 = .ok (.invokespecial 60, 3) := by decide +kernel
theorem dX9_readOne_32 : decode cX9_readOne 32 = .ok (.areturn, 1) := by decide +kernel
theorem dX9_accepts_0 : decode cX9_accepts 0 = .ok (.aload_n 0, 1) := by decide +kernel
theorem dX9_accepts_1 : decode cX9_accepts 1 = .ok (.getfield 15, 3) := by decide +kernel
theorem dX9_accepts_4 : decode cX9_accepts 4 = .ok (.aload_n 0, 1) := by decide +kernel
theorem dX9_accepts_5 : decode cX9_accepts 5 = .ok (.getfield 40, 3) := by decide +kernel
theorem dX9_accepts_8 : decode cX9_accepts 8 = .ok (.if_icmp .ge 16, 3) := by decide +kernel
theorem dX9_accepts_11 : decode cX9_accepts 11 = .ok (.aload_n 0, 1) := by decide +kernel
theorem dX9_accepts_12 : decode cX9_accepts 12 = .ok (.getfield 9, 3) := by decide +kernel
theorem dX9_accepts_15 : decode cX9_accepts 15 = .ok (.aload_n 0, 1) := by decide +kernel
theorem dX9_accepts_16 : decode cX9_accepts 16 = .ok (.getfield 15, 3) := by decide +kernel
theorem dX9_accepts_19 : decode cX9_accepts 19 = .ok (.caload, 1) := by decide +kernel
theorem dX9_accepts_20 : decode cX9_accepts 20 = .ok (.iload_n 1, 1) := by decide +kernel
theorem dX9_accepts_21 : decode cX9_accepts 21 = .ok (.if_icmp .eq 5, 3) := by decide +kernel
theorem dX9_accepts_24 : decode cX9_accepts 24 = .ok (.iconst 0, 1) := by decide +kernel
theorem dX9_accepts_25 : decode cX9_accepts 25 = .ok (.ireturn, 1) := by decide +kernel
theorem dX9_accepts_26 : decode cX9_accepts 26 = .ok (.aload_n 0, 1) := by decide +kernel
theorem dX9_accepts_27 : decode cX9_accepts 27 = .ok (.dup, 1) := by decide +kernel
theorem dX9_accepts_28 : decode cX9_accepts 28 = .ok (.getfield 15, 3) := by decide +kernel
theorem dX9_accepts_31 : decode cX9_accepts 31 = .ok (.iconst 1, 1) := by decide +kernel
theorem dX9_accepts_32 : decode cX9_accepts 32 = .ok (.iadd, 1) := by decide +kernel
theorem dX9_accepts_33 : decode cX9_accepts 33 = .ok (.putfield 15, 3) := by decide +kernel
theorem dX9_accepts_36 : decode cX9_accepts 36 = .ok (.iconst 1, 1) := by decide +kernel
theorem dX9_accepts_37 : decode cX9_accepts 37 = .ok (.ireturn, 1) := by decide +kernel
theorem dX9_readsPorts_0 : decode cX9_readsPorts 0 = .ok (.aload_n 0, 1) := by decide +kernel
theorem dX9_readsPorts_1 : decode cX9_readsPorts 1 = .ok (.aload_n 0, 1) := by decide +kernel
theorem dX9_readsPorts_2 : decode cX9_readsPorts 2 = .ok (.bipush 42, 2) := by decide +kernel
theorem dX9_readsPorts_4 : decode cX9_readsPorts 4 = .ok (.invokevirtual 32, 3) := by decide +kernel
theorem dX9_readsPorts_7 : decode cX9_readsPorts 7 = .ok (.ifCond .eq 8, 3) := by decide +kernel
theorem dX9_readsPorts_10 : decode cX9_readsPorts 10 = .ok (.bipush 15, 2) := by decide +kernel
theorem dX9_readsPorts_12 : decode cX9_readsPorts 12 = .ok (.goto 7, 3) := by decide +kernel
theorem dX9_readsPorts_15 : decode cX9_readsPorts 15 = .ok (.aload_n 0, 1) := by decide +kernel
theorem dX9_readsPorts_16 : decode cX9_readsPorts 16 = .ok (.invokevirtual 63, 3) := by decide +kernel
theorem dX9_readsPorts_19 : decode cX9_readsPorts 19 = .ok (.putfield 51, 3) := by decide +kernel
theorem dX9_readsPorts_22 : decode cX9_readsPorts 22 = .ok (.aload_n 0, 1) := by decide +kernel
theorem dX9_readsPorts_23 : decode cX9_readsPorts 23 = .ok (.getfield 51, 3) := by decide +kernel
theorem dX9_readsPorts_26 : decode cX9_readsPorts 26 = .ok (.ifCond .eq 7, 3) := by decide +kernel
theorem dX9_readsPorts_29 : decode cX9_readsPorts 29 = .ok (.iconst 1, 1) := by decide +kernel
theorem dX9_readsPorts_30 : decode cX9_readsPorts 30 = .ok (.goto 4, 3) := by decide +kernel
theorem dX9_readsPorts_33 : decode cX9_readsPorts 33 = .ok (.iconst 0, 1) := by decide +kernel
theorem dX9_readsPorts_34 : decode cX9_readsPorts 34 = .ok (.ireturn, 1) := by decide +kernel
theorem dX9_readsOutputs_0 : decode cX9_readsOutputs 0 = .ok (.aload_n 0, 1) := by decide +kernel
theorem dX9_readsOutputs_1 : decode cX9_readsOutputs 1 = .ok (.aload_n 0, 1) := by decide +kernel
theorem dX9_readsOutputs_2 : decode cX9_readsOutputs 2 = .ok (.invokevirtual 63, 3) := by decide +kernel
theorem dX9_readsOutputs_5 : decode cX9_readsOutputs 5 = .ok (.putfield 19, 3) := by decide +kernel
theorem dX9_readsOutputs_8 : decode cX9_readsOutputs 8 = .ok (.aload_n 0, 1) := by decide +kernel
theorem dX9_readsOutputs_9 : decode cX9_readsOutputs 9 = .ok (.getfield 19, 3) := by decide +kernel
theorem dX9_readsOutputs_12 : decode cX9_readsOutputs 12 = .ok (.ifCond .eq 7, 3) := by decide +kernel
theorem dX9_readsOutputs_15 : decode cX9_readsOutputs 15 = .ok (.iconst 1, 1) := by decide +kernel
theorem dX9_readsOutputs_16 : decode cX9_readsOutputs 16 = .ok (.goto 4, 3) := by decide +kernel
theorem dX9_readsOutputs_19 : decode cX9_readsOutputs 19 = .ok (.iconst 0, 1) := by decide +kernel
theorem dX9_readsOutputs_20 : decode cX9_readsOutputs 20 = .ok (.ireturn, 1) := by decide +kernel
theorem dX9_readDigits_0 : decode cX9_readDigits 0 = .ok (.iconst 0, 1) := by decide +kernel
theorem dX9_readDigits_1 : decode cX9_readDigits 1 = .ok (.istore_n 1, 1) := by decide +kernel
theorem dX9_readDigits_2 : decode cX9_readDigits 2 = .ok (.iconst 0, 1) := by decide +kernel
theorem dX9_readDigits_3 : decode cX9_readDigits 3 = .ok (.istore_n 2, 1) := by decide +kernel
theorem dX9_readDigits_4 : decode cX9_readDigits 4 = .ok (.iload_n 2, 1) := by decide +kernel
theorem dX9_readDigits_5 : decode cX9_readDigits 5 = .ok (.iconst 4, 1) := by decide +kernel
theorem dX9_readDigits_6 : decode cX9_readDigits 6 = .ok (.if_icmp .ge 27, 3) := by decide +kernel
theorem dX9_readDigits_9 : decode cX9_readDigits 9 = .ok (.aload_n 0, 1) := by decide +kernel
theorem dX9_readDigits_10 : decode cX9_readDigits 10 = .ok (.bipush 48, 2) := by decide +kernel
theorem dX9_readDigits_12 : decode cX9_readDigits 12 = .ok (.iload_n 2, 1) := by decide +kernel
theorem dX9_readDigits_13 : decode cX9_readDigits 13 = .ok (.iadd, 1) := by decide +kernel
theorem dX9_readDigits_14 : decode cX9_readDigits 14 = .ok (.i2c, 1) := by decide +kernel
theorem dX9_readDigits_15 : decode cX9_readDigits 15 = .ok (.invokevirtual 32, 3) := by decide +kernel
theorem dX9_readDigits_18 : decode cX9_readDigits 18 = .ok (.ifCond .eq 9, 3) := by decide +kernel
theorem dX9_readDigits_21 : decode cX9_readDigits 21 = .ok (.iload_n 1, 1) := by decide +kernel
theorem dX9_readDigits_22 : decode cX9_readDigits 22 = .ok (.iconst 1, 1) := by decide +kernel
theorem dX9_readDigits_23 : decode cX9_readDigits 23 = .ok (.iload_n 2, 1) := by decide +kernel
theorem dX9_readDigits_24 : decode cX9_readDigits 24 = .ok (.ishl, 1) := by decide +kernel
theorem dX9_readDigits_25 : decode cX9_readDigits 25 = .ok (.ior, 1) := by decide +kernel
theorem dX9_readDigits_26 : decode cX9_readDigits 26 = .ok (.istore_n 1, 1) := by decide +kernel
theorem dX9_readDigits_27 : decode cX9_readDigits 27 = .ok (.iinc 2 1, 3) := by decide +kernel
theorem dX9_readDigits_30 : decode cX9_readDigits 30 = .ok (.goto (-26), 3) := by decide +kernel
theorem dX9_readDigits_33 : decode cX9_readDigits 33 = .ok (.iload_n 1, 1) := by decide +kernel
theorem dX9_readDigits_34 : decode cX9_readDigits 34 = .ok (.ireturn, 1) := by decide +kernel
theorem dX9_readsRewriting_0 : decode cX9_readsRewriting 0 = .ok (.aload_n 0, 1) := by decide +kernel
theorem dX9_readsRewriting_1 : decode cX9_readsRewriting 1 = .ok (.getfield 15, 3) := by decide +kernel
theorem dX9_readsRewriting_4 : decode cX9_readsRewriting 4 = .ok (.aload_n 0, 1) := by decide +kernel
theorem dX9_readsRewriting_5 : decode cX9_readsRewriting 5 = .ok (.getfield 40, 3) := by decide +kernel
theorem dX9_readsRewriting_8 : decode cX9_readsRewriting 8 = .ok (.if_icmp .ne 5, 3) := by decide +kernel
theorem dX9_readsRewriting_11 : decode cX9_readsRewriting 11 = .ok (.iconst 1, 1) := by decide +kernel
theorem dX9_readsRewriting_12 : decode cX9_readsRewriting 12 = .ok (.ireturn, 1) := by decide +kernel
theorem dX9_readsRewriting_13 : decode cX9_readsRewriting 13 = .ok (.aload_n 0, 1) := by decide +kernel
theorem dX9_readsRewriting_14 : decode cX9_readsRewriting 14 = .ok (.getfield 54, 3) := by decide +kernel
theorem dX9_readsRewriting_17 : decode cX9_readsRewriting 17 = .ok (.istore_n 2, 1) := by decide +kernel
theorem dX9_readsRewriting_18 : decode cX9_readsRewriting 18 = .ok (.aload_n 0, 1) := by decide +kernel
theorem dX9_readsRewriting_19 : decode cX9_readsRewriting 19 = .ok (.getfield 57, 3) := by decide +kernel
theorem dX9_readsRewriting_22 : decode cX9_readsRewriting 22 = .ok (.istore_n 3, 1) := by decide +kernel
theorem dX9_readsRewriting_23 : decode cX9_readsRewriting 23 = .ok (.aload_n 0, 1) := by decide +kernel
theorem dX9_readsRewriting_24 : decode cX9_readsRewriting 24 = .ok (.bipush 61, 2) := by decide +kernel
theorem dX9_readsRewriting_26 : decode cX9_readsRewriting 26 = .ok (.invokevirtual 32, 3) := by decide +kernel
theorem dX9_readsRewriting_29 : decode cX9_readsRewriting 29 = .ok (.ifCond .eq 15, 3) := by decide +kernel
theorem dX9_readsRewriting_32 : decode cX9_readsRewriting 32 = .ok (.aload_n 0, 1) := by decide +kernel
theorem dX9_readsRewriting_33 : decode cX9_readsRewriting 33 = .ok (.iload_n 1, 1) := by decide +kernel
theorem dX9_readsRewriting_34 : decode cX9_readsRewriting 34 = .ok (.invokevirtual 36, 3) := by decide +kernel
theorem dX9_readsRewriting_37 : decode cX9_readsRewriting 37 = .ok (.ifCond .eq 7, 3) := by decide +kernel
theorem dX9_readsRewriting_40 : decode cX9_readsRewriting 40 = .ok (.iconst 1, 1) := by decide +kernel
theorem dX9_readsRewriting_41 : decode cX9_readsRewriting 41 = .ok (.goto 4, 3) := by decide +kernel
theorem dX9_readsRewriting_44 : decode cX9_readsRewriting 44 = .ok (.iconst 0, 1) := by decide +kernel
theorem dX9_readsRewriting_45 : decode cX9_readsRewriting 45 = .ok (.istore 4, 2) := by decide +kernel
theorem dX9_readsRewriting_47 : decode cX9_readsRewriting 47 = .ok (.aload_n 0, 1) := by decide +kernel
theorem dX9_readsRewriting_48 : decode cX9_readsRewriting 48 = .ok (.aload_n 0, 1) := by decide +kernel
theorem dX9_readsRewriting_49 : decode cX9_readsRewriting 49 = .ok (.getfield 54, 3) := by decide +kernel
theorem dX9_readsRewriting_52 : decode cX9_readsRewriting 52 = .ok (.putfield 22, 3) := by decide +kernel
theorem dX9_readsRewriting_55 : decode cX9_readsRewriting 55 = .ok (.aload_n 0, 1) := by decide +kernel
theorem dX9_readsRewriting_56 : decode cX9_readsRewriting 56 = .ok (.aload_n 0, 1) := by decide +kernel
theorem dX9_readsRewriting_57 : decode cX9_readsRewriting 57 = .ok (.getfield 57, 3) := by decide +kernel
theorem dX9_readsRewriting_60 : decode cX9_readsRewriting 60 = .ok (.putfield 25, 3) := by decide +kernel
theorem dX9_readsRewriting_63 : decode cX9_readsRewriting 63 = .ok (.aload_n 0, 1) := by decide +kernel
theorem dX9_readsRewriting_64 : decode cX9_readsRewriting 64 = .ok (.iload_n 2, 1) := by decide +kernel
theorem dX9_readsRewriting_65 : decode cX9_readsRewriting 65 = .ok (.putfield 54, 3) := by decide +kernel
theorem dX9_readsRewriting_68 : decode cX9_readsRewriting 68 = .ok (.aload_n 0, 1) := by decide +kernel
theorem dX9_readsRewriting_69 : decode cX9_readsRewriting 69 = .ok (.iload_n 3, 1) := by decide +kernel
theorem dX9_readsRewriting_70 : decode cX9_readsRewriting 70 = .ok (.putfield 57, 3) := by decide +kernel
theorem dX9_readsRewriting_73 : decode cX9_readsRewriting 73 = .ok (.iload 4, 2) := by decide +kernel
theorem dX9_readsRewriting_75 : decode cX9_readsRewriting 75 = .ok (.ireturn, 1) := by decide +kernel
theorem dX9_readsPattern_0 : decode cX9_readsPattern 0 = .ok (.aload_n 0, 1) := by decide +kernel
theorem dX9_readsPattern_1 : decode cX9_readsPattern 1 = .ok (.iconst 0, 1) := by decide +kernel
theorem dX9_readsPattern_2 : decode cX9_readsPattern 2 = .ok (.putfield 54, 3) := by decide +kernel
theorem dX9_readsPattern_5 : decode cX9_readsPattern 5 = .ok (.aload_n 0, 1) := by decide +kernel
theorem dX9_readsPattern_6 : decode cX9_readsPattern 6 = .ok (.iconst 0, 1) := by decide +kernel
theorem dX9_readsPattern_7 : decode cX9_readsPattern 7 = .ok (.putfield 57, 3) := by decide +kernel
theorem dX9_readsPattern_10 : decode cX9_readsPattern 10 = .ok (.iload_n 1, 1) := by decide +kernel
theorem dX9_readsPattern_11 : decode cX9_readsPattern 11 = .ok (.iconst 1, 1) := by decide +kernel
theorem dX9_readsPattern_12 : decode cX9_readsPattern 12 = .ok (.isub, 1) := by decide +kernel
theorem dX9_readsPattern_13 : decode cX9_readsPattern 13 = .ok (.istore_n 2, 1) := by decide +kernel
theorem dX9_readsPattern_14 : decode cX9_readsPattern 14 = .ok (.iload_n 2, 1) := by decide +kernel
theorem dX9_readsPattern_15 : decode cX9_readsPattern 15 = .ok (.ifCond .lt 80, 3) := by decide +kernel
theorem dX9_readsPattern_18 : decode cX9_readsPattern 18 = .ok (.aload_n 0, 1) := by decide +kernel
theorem dX9_readsPattern_19 : decode cX9_readsPattern 19 = .ok (.bipush 49, 2) := by decide +kernel
theorem dX9_readsPattern_21 : decode cX9_readsPattern 21 = .ok (.invokevirtual 32, 3) := by decide +kernel
theorem dX9_readsPattern_24 : decode cX9_readsPattern 24 = .ok (.ifCond .eq 30, 3) := by decide +kernel
theorem dX9_readsPattern_27 : decode cX9_readsPattern 27 = .ok (.aload_n 0, 1) := by decide +kernel
theorem dX9_readsPattern_28 : decode cX9_readsPattern 28 = .ok (.dup, 1) := by decide +kernel
theorem dX9_readsPattern_29 : decode cX9_readsPattern 29 = .ok (.getfield 54, 3) := by decide +kernel
theorem dX9_readsPattern_32 : decode cX9_readsPattern 32 = .ok (.iconst 1, 1) := by decide +kernel
theorem dX9_readsPattern_33 : decode cX9_readsPattern 33 = .ok (.iload_n 2, 1) := by decide +kernel
theorem dX9_readsPattern_34 : decode cX9_readsPattern 34 = .ok (.ishl, 1) := by decide +kernel
theorem dX9_readsPattern_35 : decode cX9_readsPattern 35 = .ok (.ior, 1) := by decide +kernel
theorem dX9_readsPattern_36 : decode cX9_readsPattern 36 = .ok (.putfield 54, 3) := by decide +kernel
theorem dX9_readsPattern_39 : decode cX9_readsPattern 39 = .ok (.aload_n 0, 1) := by decide +kernel
theorem dX9_readsPattern_40 : decode cX9_readsPattern 40 = .ok (.dup, 1) := by decide +kernel
theorem dX9_readsPattern_41 : decode cX9_readsPattern 41 = .ok (.getfield 57, 3) := by decide +kernel
theorem dX9_readsPattern_44 : decode cX9_readsPattern 44 = .ok (.iconst 1, 1) := by decide +kernel
theorem dX9_readsPattern_45 : decode cX9_readsPattern 45 = .ok (.iload_n 2, 1) := by decide +kernel
theorem dX9_readsPattern_46 : decode cX9_readsPattern 46 = .ok (.ishl, 1) := by decide +kernel
theorem dX9_readsPattern_47 : decode cX9_readsPattern 47 = .ok (.ior, 1) := by decide +kernel
theorem dX9_readsPattern_48 : decode cX9_readsPattern 48 = .ok (.putfield 57, 3) := by decide +kernel
theorem dX9_readsPattern_51 : decode cX9_readsPattern 51 = .ok (.goto 38, 3) := by decide +kernel
theorem dX9_readsPattern_54 : decode cX9_readsPattern 54 = .ok (.aload_n 0, 1) := by decide +kernel
theorem dX9_readsPattern_55 : decode cX9_readsPattern 55 = .ok (.bipush 48, 2) := by decide +kernel
theorem dX9_readsPattern_57 : decode cX9_readsPattern 57 = .ok (.invokevirtual 32, 3) := by decide +kernel
theorem dX9_readsPattern_60 : decode cX9_readsPattern 60 = .ok (.ifCond .eq 18, 3) := by decide +kernel
theorem dX9_readsPattern_63 : decode cX9_readsPattern 63 = .ok (.aload_n 0, 1) := by decide +kernel
theorem dX9_readsPattern_64 : decode cX9_readsPattern 64 = .ok (.dup, 1) := by decide +kernel
theorem dX9_readsPattern_65 : decode cX9_readsPattern 65 = .ok (.getfield 54, 3) := by decide +kernel
theorem dX9_readsPattern_68 : decode cX9_readsPattern 68 = .ok (.iconst 1, 1) := by decide +kernel
theorem dX9_readsPattern_69 : decode cX9_readsPattern 69 = .ok (.iload_n 2, 1) := by decide +kernel
theorem dX9_readsPattern_70 : decode cX9_readsPattern 70 = .ok (.ishl, 1) := by decide +kernel
theorem dX9_readsPattern_71 : decode cX9_readsPattern 71 = .ok (.ior, 1) := by decide +kernel
theorem dX9_readsPattern_72 : decode cX9_readsPattern 72 = .ok (.putfield 54, 3) := by decide +kernel
theorem dX9_readsPattern_75 : decode cX9_readsPattern 75 = .ok (.goto 14, 3) := by decide +kernel
theorem dX9_readsPattern_78 : decode cX9_readsPattern 78 = .ok (.aload_n 0, 1) := by decide +kernel
theorem dX9_readsPattern_79 : decode cX9_readsPattern 79 = .ok (.bipush 42, 2) := by decide +kernel
theorem dX9_readsPattern_81 : decode cX9_readsPattern 81 = .ok (.invokevirtual 32, 3) := by decide +kernel
theorem dX9_readsPattern_84 : decode cX9_readsPattern 84 = .ok (.ifCond .ne 5, 3) := by decide +kernel
theorem dX9_readsPattern_87 : decode cX9_readsPattern 87 = .ok (.iconst 0, 1) := by decide +kernel
theorem dX9_readsPattern_88 : decode cX9_readsPattern 88 = .ok (.ireturn, 1) := by decide +kernel
theorem dX9_readsPattern_89 : decode cX9_readsPattern 89 = .ok (.iinc 2 (-1), 3) := by decide +kernel
theorem dX9_readsPattern_92 : decode cX9_readsPattern 92 = .ok (.goto (-78), 3) := by decide +kernel
theorem dX9_readsPattern_95 : decode cX9_readsPattern 95 = .ok (.iconst 1, 1) := by decide +kernel
theorem dX9_readsPattern_96 : decode cX9_readsPattern 96 = .ok (.ireturn, 1) := by decide +kernel
theorem dX10_init_0 : decode cX10_init 0 = .ok (.aload_n 0, 1) := by decide +kernel
theorem dX10_init_1 : decode cX10_init 1 = .ok (.invokespecial 3, 3) := by decide +kernel
theorem dX10_init_4 : decode cX10_init 4 = .ok (.aload_n 0, 1) := by decide +kernel
theorem dX10_init_5 : decode cX10_init 5 = .ok (.bipush 24, 2) := by decide +kernel
theorem dX10_init_7 : decode cX10_init 7 = .ok (.newarray .long, 2) := by decide +kernel
theorem dX10_init_9 : decode cX10_init 9 = .ok (.putfield 9, 3) := by decide +kernel
theorem dX10_init_12 : decode cX10_init 12 = .ok (.aload_n 0, 1) := by decide +kernel
theorem dX10_init_13 : decode cX10_init 13 = .ok (.aload_n 1, 1) := by decide +kernel
theorem dX10_init_14 : decode cX10_init 14 = .ok (.putfield 15, 3) := by decide +kernel
theorem dX10_init_17 : decode cX10_init 17 = .ok (.return_, 1) := by decide +kernel
theorem dX10_go_0 : decode cX10_go 0 = .ok (.aload_n 0, 1) := by decide +kernel
theorem dX10_go_1 : decode cX10_go 1 = .ok (.getfield 9, 3) := by decide +kernel
theorem dX10_go_4 : decode cX10_go 4 = .ok (.lconst 0, 1) := by decide +kernel
theorem dX10_go_5 : decode cX10_go 5 = .ok (.invokestatic 19, 3) := by decide +kernel
theorem dX10_go_8 : decode cX10_go 8 = .ok (.aload_n 0, 1) := by decide +kernel
theorem dX10_go_9 : decode cX10_go 9 = .ok (.iload_n 1, 1) := by decide +kernel
theorem dX10_go_10 : decode cX10_go 10 = .ok (.putfield 25, 3) := by decide +kernel
theorem dX10_go_13 : decode cX10_go 13 = .ok (.aload_n 0, 1) := by decide +kernel
theorem dX10_go_14 : decode cX10_go 14 = .ok (.iload_n 2, 1) := by decide +kernel
theorem dX10_go_15 : decode cX10_go 15 = .ok (.putfield 29, 3) := by decide +kernel
theorem dX10_go_18 : decode cX10_go 18 = .ok (.aload_n 0, 1) := by decide +kernel
theorem dX10_go_19 : decode cX10_go 19 = .ok (.getfield 9, 3) := by decide +kernel
theorem dX10_go_22 : decode cX10_go 22 = .ok (.iload_n 1, 1) := by decide +kernel
theorem dX10_go_23 : decode cX10_go 23 = .ok (.lconst 1, 1) := by decide +kernel
theorem dX10_go_24 : decode cX10_go 24 = .ok (.iload_n 2, 1) := by decide +kernel
theorem dX10_go_25 : decode cX10_go 25 = .ok (.lshl, 1) := by decide +kernel
theorem dX10_go_26 : decode cX10_go 26 = .ok (.lastore, 1) := by decide +kernel
theorem dX10_go_27 : decode cX10_go 27 = .ok (.aload_n 0, 1) := by decide +kernel
theorem dX10_go_28 : decode cX10_go 28 = .ok (.iconst 4, 1) := by decide +kernel
theorem dX10_go_29 : decode cX10_go 29 = .ok (.putfield 32, 3) := by decide +kernel
theorem dX10_go_32 : decode cX10_go 32 = .ok (.iconst 0, 1) := by decide +kernel
theorem dX10_go_33 : decode cX10_go 33 = .ok (.istore 4, 2) := by decide +kernel
theorem dX10_go_35 : decode cX10_go 35 = .ok (.iload 4, 2) := by decide +kernel
theorem dX10_go_37 : decode cX10_go 37 = .ok (.iload_n 3, 1) := by decide +kernel
theorem dX10_go_38 : decode cX10_go 38 = .ok (.if_icmp .ge 24, 3) := by decide +kernel
theorem dX10_go_41 : decode cX10_go 41 = .ok (.aload_n 0, 1) := by decide +kernel
theorem dX10_go_42 : decode cX10_go 42 = .ok (.invokevirtual 35, 3) := by decide +kernel
theorem dX10_go_45 : decode cX10_go 45 = .ok (.aload_n 0, 1) := by decide +kernel
theorem dX10_go_46 : decode cX10_go 46 = .ok (.getfield 32, 3) := by decide +kernel
theorem dX10_go_49 : decode cX10_go 49 = .ok (.iconst 4, 1) := by decide +kernel
theorem dX10_go_50 : decode cX10_go 50 = .ok (.if_icmp .eq 6, 3) := by decide +kernel
theorem dX10_go_53 : decode cX10_go 53 = .ok (.iload 4, 2) := by decide +kernel
theorem dX10_go_55 : decode cX10_go 55 = .ok (.ireturn, 1) := by decide +kernel
theorem dX10_go_56 : decode cX10_go 56 = .ok (.iinc 4 1, 3) := by decide +kernel
theorem dX10_go_59 : decode cX10_go 59 = .ok (.goto (-24), 3) := by decide +kernel
theorem dX10_go_62 : decode cX10_go 62 = .ok (.iload_n 3, 1) := by decide +kernel
theorem dX10_go_63 : decode cX10_go 63 = .ok (.ireturn, 1) := by decide +kernel
theorem dX10_goOnce_0 : decode cX10_goOnce 0 = .ok (.aload_n 0, 1) := by decide +kernel
theorem dX10_goOnce_1 : decode cX10_goOnce 1 = .ok (.getfield 25, 3) := by decide +kernel
theorem dX10_goOnce_4 : decode cX10_goOnce 4 = .ok (.iconst 4, 1) := by decide +kernel
theorem dX10_goOnce_5 : decode cX10_goOnce 5 = .ok (.idiv, 1) := by decide +kernel
theorem dX10_goOnce_6 : decode cX10_goOnce 6 = .ok (.istore_n 1, 1) := by decide +kernel
theorem dX10_goOnce_7 : decode cX10_goOnce 7 = .ok (.aload_n 0, 1) := by decide +kernel
theorem dX10_goOnce_8 : decode cX10_goOnce 8 = .ok (.getfield 15, 3) := by decide +kernel
theorem dX10_goOnce_11 : decode cX10_goOnce 11 = .ok (.getfield 38, 3) := by decide +kernel
theorem dX10_goOnce_14 : decode cX10_goOnce 14 = .ok (.iload_n 1, 1) := by decide +kernel
theorem dX10_goOnce_15 : decode cX10_goOnce 15 = .ok (.aaload, 1) := by decide +kernel
theorem dX10_goOnce_16 : decode cX10_goOnce 16 = .ok (.astore_n 2, 1) := by decide +kernel
theorem dX10_goOnce_17 : decode cX10_goOnce 17 = .ok (.aload_n 2, 1) := by decide +kernel
theorem dX10_goOnce_18 : decode cX10_goOnce 18 = .ok (.aload_n 0, 1) := by decide +kernel
theorem dX10_goOnce_19 : decode cX10_goOnce 19 = .ok (.getfield 25, 3) := by decide +kernel
theorem dX10_goOnce_22 : decode cX10_goOnce 22 = .ok (.iconst 4, 1) := by decide +kernel
theorem dX10_goOnce_23 : decode cX10_goOnce 23 = .ok (.irem, 1) := by decide +kernel
theorem dX10_goOnce_24 : decode cX10_goOnce 24 = .ok (.aload_n 0, 1) := by decide +kernel
theorem dX10_goOnce_25 : decode cX10_goOnce 25 = .ok (.getfield 29, 3) := by decide +kernel
theorem dX10_goOnce_28 : decode cX10_goOnce 28 = .ok (.iconst 0, 1) := by decide +kernel
theorem dX10_goOnce_29 : decode cX10_goOnce 29 = .ok (.invokevirtual 44, 3) := by decide +kernel
theorem dX10_goOnce_32 : decode cX10_goOnce 32 = .ok (.istore_n 3, 1) := by decide +kernel
theorem dX10_goOnce_33 : decode cX10_goOnce 33 = .ok (.iload_n 3, 1) := by decide +kernel
theorem dX10_goOnce_34 : decode cX10_goOnce 34 = .ok (.iconst (-1), 1) := by decide +kernel
theorem dX10_goOnce_35 : decode cX10_goOnce 35 = .ok (.if_icmp .ne 9, 3) := by decide +kernel
theorem dX10_goOnce_38 : decode cX10_goOnce 38 = .ok (.aload_n 0, 1) := by decide +kernel
theorem dX10_goOnce_39 : decode cX10_goOnce 39 = .ok (.iconst 2, 1) := by decide +kernel
theorem dX10_goOnce_40 : decode cX10_goOnce 40 = .ok (.putfield 32, 3) := by decide +kernel
theorem dX10_goOnce_43 : decode cX10_goOnce 43 = .ok (.return_, 1) := by decide +kernel
theorem dX10_goOnce_44 : decode cX10_goOnce 44 = .ok (.aload_n 2, 1) := by decide +kernel
theorem dX10_goOnce_45 : decode cX10_goOnce 45 = .ok (.getfield 50, 3) := by decide +kernel
theorem dX10_goOnce_48 : decode cX10_goOnce 48 = .ok (.iload_n 3, 1) := by decide +kernel
theorem dX10_goOnce_49 : decode cX10_goOnce 49 = .ok (.aaload, 1) := by decide +kernel
theorem dX10_goOnce_50 : decode cX10_goOnce 50 = .ok (.astore 4, 2) := by decide +kernel
theorem dX10_goOnce_52 : decode cX10_goOnce 52 = .ok (.aload 4, 2) := by decide +kernel
theorem dX10_goOnce_54 : decode cX10_goOnce 54 = .ok (.invokevirtual 54, 3) := by decide +kernel
theorem dX10_goOnce_57 : decode cX10_goOnce 57 = .ok (.istore 5, 2) := by decide +kernel
theorem dX10_goOnce_59 : decode cX10_goOnce 59 = .ok (.iload 5, 2) := by decide +kernel
theorem dX10_goOnce_61 : decode cX10_goOnce 61 = .ok (.iconst (-1), 1) := by decide +kernel
theorem dX10_goOnce_62 : decode cX10_goOnce 62 = .ok (.if_icmp .ne 9, 3) := by decide +kernel
theorem dX10_goOnce_65 : decode cX10_goOnce 65 = .ok (.aload_n 0, 1) := by decide +kernel
theorem dX10_goOnce_66 : decode cX10_goOnce 66 = .ok (.iconst 1, 1) := by decide +kernel
theorem dX10_goOnce_67 : decode cX10_goOnce 67 = .ok (.putfield 32, 3) := by decide +kernel
theorem dX10_goOnce_70 : decode cX10_goOnce 70 = .ok (.return_, 1) := by decide +kernel
theorem dX10_goOnce_71 : decode cX10_goOnce 71 = .ok (.aload_n 0, 1) := by decide +kernel
theorem dX10_goOnce_72 : decode cX10_goOnce 72 = .ok (.getfield 15, 3) := by decide +kernel
theorem dX10_goOnce_75 : decode cX10_goOnce 75 = .ok (.getfield 60, 3) := by decide +kernel
theorem dX10_goOnce_78 : decode cX10_goOnce 78 = .ok (.iload_n 1, 1) := by decide +kernel
theorem dX10_goOnce_79 : decode cX10_goOnce 79 = .ok (.iload 5, 2) := by decide +kernel
theorem dX10_goOnce_81 : decode cX10_goOnce 81 = .ok (.invokestatic 64, 3) := by decide +kernel
theorem dX10_goOnce_84 : decode cX10_goOnce 84 = .ok (.iaload, 1) := by decide +kernel
theorem dX10_goOnce_85 : decode cX10_goOnce 85 = .ok (.istore 6, 2) := by decide +kernel
theorem dX10_goOnce_87 : decode cX10_goOnce 87 = .ok (.iload 6, 2) := by decide +kernel
theorem dX10_goOnce_89 : decode cX10_goOnce 89 = .ok (.iconst (-1), 1) := by decide +kernel
theorem dX10_goOnce_90 : decode cX10_goOnce 90 = .ok (.if_icmp .ne 11, 3) := by decide +kernel
theorem dX10_goOnce_93 : decode cX10_goOnce 93 = .ok (.aload_n 0, 1) := by decide +kernel
theorem dX10_goOnce_94 : decode cX10_goOnce 94 = .ok (.iconst 0, 1) := by decide +kernel
theorem dX10_goOnce_95 : decode cX10_goOnce 95 = .ok (.putfield 32, 3) := by decide +kernel
theorem dX10_goOnce_98 : decode cX10_goOnce 98 = .ok (.goto 70, 3) := by decide +kernel
theorem dX10_goOnce_101 : decode cX10_goOnce 101 = .ok (.aload_n 0, 1) := by decide +kernel
theorem dX10_goOnce_102 : decode cX10_goOnce 102 = .ok (.getfield 9, 3) := by decide +kernel
theorem dX10_goOnce_105 : decode cX10_goOnce 105 = .ok (.iload 6, 2) := by decide +kernel
theorem dX10_goOnce_107 : decode cX10_goOnce 107 = .ok (.laload, 1) := by decide +kernel
theorem dX10_goOnce_108 : decode cX10_goOnce 108 = .ok (.aload 4, 2) := by decide +kernel
theorem dX10_goOnce_110 : decode cX10_goOnce 110 = .ok (.aload_n 0, 1) := by decide +kernel
theorem dX10_goOnce_111 : decode cX10_goOnce 111 = .ok (.getfield 29, 3) := by decide +kernel
theorem dX10_goOnce_114 : decode cX10_goOnce 114 = .ok (.invokevirtual 68, 3) := by decide +kernel
theorem dX10_goOnce_117 : decode cX10_goOnce 117 = .ok (.invokestatic 72, 3) := by decide +kernel
theorem dX10_goOnce_120 : decode cX10_goOnce 120 = .ok (.ifCond .eq 11, 3) := by decide +kernel
theorem dX10_goOnce_123 : decode cX10_goOnce 123 = .ok (.aload_n 0, 1) := by decide +kernel
theorem dX10_goOnce_124 : decode cX10_goOnce 124 = .ok (.iconst 3, 1) := by decide +kernel
theorem dX10_goOnce_125 : decode cX10_goOnce 125 = .ok (.putfield 32, 3) := by decide +kernel
theorem dX10_goOnce_128 : decode cX10_goOnce 128 = .ok (.goto 40, 3) := by decide +kernel
theorem dX10_goOnce_131 : decode cX10_goOnce 131 = .ok (.aload_n 0, 1) := by decide +kernel
theorem dX10_goOnce_132 : decode cX10_goOnce 132 = .ok (.aload 4, 2) := by decide +kernel
theorem dX10_goOnce_134 : decode cX10_goOnce 134 = .ok (.aload_n 0, 1) := by decide +kernel
theorem dX10_goOnce_135 : decode cX10_goOnce 135 = .ok (.getfield 29, 3) := by decide +kernel
theorem dX10_goOnce_138 : decode cX10_goOnce 138 = .ok (.invokevirtual 68, 3) := by decide +kernel
theorem dX10_goOnce_141 : decode cX10_goOnce 141 = .ok (.putfield 29, 3) := by decide +kernel
theorem dX10_goOnce_144 : decode cX10_goOnce 144 = .ok (.aload_n 0, 1) := by decide +kernel
theorem dX10_goOnce_145 : decode cX10_goOnce 145 = .ok (.iload 6, 2) := by decide +kernel
theorem dX10_goOnce_147 : decode cX10_goOnce 147 = .ok (.putfield 25, 3) := by decide +kernel
theorem dX10_goOnce_150 : decode cX10_goOnce 150 = .ok (.aload_n 0, 1) := by decide +kernel
theorem dX10_goOnce_151 : decode cX10_goOnce 151 = .ok (.getfield 9, 3) := by decide +kernel
theorem dX10_goOnce_154 : decode cX10_goOnce 154 = .ok (.aload_n 0, 1) := by decide +kernel
theorem dX10_goOnce_155 : decode cX10_goOnce 155 = .ok (.getfield 25, 3) := by decide +kernel
theorem dX10_goOnce_158 : decode cX10_goOnce 158 = .ok (.dup2, 1) := by decide +kernel
theorem dX10_goOnce_159 : decode cX10_goOnce 159 = .ok (.laload, 1) := by decide +kernel
theorem dX10_goOnce_160 : decode cX10_goOnce 160 = .ok (.lconst 1, 1) := by decide +kernel
theorem dX10_goOnce_161 : decode cX10_goOnce 161 = .ok (.aload_n 0, 1) := by decide +kernel
theorem dX10_goOnce_162 : decode cX10_goOnce 162 = .ok (.getfield 29, 3) := by decide +kernel
theorem dX10_goOnce_165 : decode cX10_goOnce 165 = .ok (.lshl, 1) := by decide +kernel
theorem dX10_goOnce_166 : decode cX10_goOnce 166 = .ok (.lor, 1) := by decide +kernel
theorem dX10_goOnce_167 : decode cX10_goOnce 167 = .ok (.lastore, 1) := by decide +kernel
theorem dX10_goOnce_168 : decode cX10_goOnce 168 = .ok (.return_, 1) := by decide +kernel
theorem dJ13_bitCount_95d88_0 : decode cJ13_bitCount_95d88 0 = .ok (.lload_n 0, 1) := by decide +kernel
theorem dJ13_bitCount_95d88_1 : decode cJ13_bitCount_95d88 1 = .ok (.lload_n 0, 1) := by decide +kernel
theorem dJ13_bitCount_95d88_2 : decode cJ13_bitCount_95d88 2 = .ok (.iconst 1, 1) := by decide +kernel
theorem dJ13_bitCount_95d88_3 : decode cJ13_bitCount_95d88 3 = .ok (.lushr, 1) := by decide +kernel
theorem dJ13_bitCount_95d88_4 : decode cJ13_bitCount_95d88 4 = .ok (.ldc2_w 314, 3) := by decide +kernel
theorem dJ13_bitCount_95d88_7 : decode cJ13_bitCount_95d88 7 = .ok (.land, 1) := by decide +kernel
theorem dJ13_bitCount_95d88_8 : decode cJ13_bitCount_95d88 8 = .ok (.lsub, 1) := by decide +kernel
theorem dJ13_bitCount_95d88_9 : decode cJ13_bitCount_95d88 9 = .ok (.lstore_n 0, 1) := by decide +kernel
theorem dJ13_bitCount_95d88_10 : decode cJ13_bitCount_95d88 10 = .ok (.lload_n 0, 1) := by decide +kernel
theorem dJ13_bitCount_95d88_11 : decode cJ13_bitCount_95d88 11 = .ok (.ldc2_w 316, 3) := by decide +kernel
theorem dJ13_bitCount_95d88_14 : decode cJ13_bitCount_95d88 14 = .ok (.land, 1) := by decide +kernel
theorem dJ13_bitCount_95d88_15 : decode cJ13_bitCount_95d88 15 = .ok (.lload_n 0, 1) := by decide +kernel
theorem dJ13_bitCount_95d88_16 : decode cJ13_bitCount_95d88 16 = .ok (.iconst 2, 1) := by decide +kernel
theorem dJ13_bitCount_95d88_17 : decode cJ13_bitCount_95d88 17 = .ok (.lushr, 1) := by decide +kernel
theorem dJ13_bitCount_95d88_18 : decode cJ13_bitCount_95d88 18 = .ok (.ldc2_w 316, 3) := by decide +kernel
theorem dJ13_bitCount_95d88_21 : decode cJ13_bitCount_95d88 21 = .ok (.land, 1) := by decide +kernel
theorem dJ13_bitCount_95d88_22 : decode cJ13_bitCount_95d88 22 = .ok (.ladd, 1) := by decide +kernel
theorem dJ13_bitCount_95d88_23 : decode cJ13_bitCount_95d88 23 = .ok (.lstore_n 0, 1) := by decide +kernel
theorem dJ13_bitCount_95d88_24 : decode cJ13_bitCount_95d88 24 = .ok (.lload_n 0, 1) := by decide +kernel
theorem dJ13_bitCount_95d88_25 : decode cJ13_bitCount_95d88 25 = .ok (.lload_n 0, 1) := by decide +kernel
theorem dJ13_bitCount_95d88_26 : decode cJ13_bitCount_95d88 26 = .ok (.iconst 4, 1) := by decide +kernel
theorem dJ13_bitCount_95d88_27 : decode cJ13_bitCount_95d88 27 = .ok (.lushr, 1) := by decide +kernel
theorem dJ13_bitCount_95d88_28 : decode cJ13_bitCount_95d88 28 = .ok (.ladd, 1) := by decide +kernel
theorem dJ13_bitCount_95d88_29 : decode cJ13_bitCount_95d88 29 = .ok (.ldc2_w 318, 3) := by decide +kernel
theorem dJ13_bitCount_95d88_32 : decode cJ13_bitCount_95d88 32 = .ok (.land, 1) := by decide +kernel
theorem dJ13_bitCount_95d88_33 : decode cJ13_bitCount_95d88 33 = .ok (.lstore_n 0, 1) := by decide +kernel
theorem dJ13_bitCount_95d88_34 : decode cJ13_bitCount_95d88 34 = .ok (.lload_n 0, 1) := by decide +kernel
theorem dJ13_bitCount_95d88_35 : decode cJ13_bitCount_95d88 35 = .ok (.lload_n 0, 1) := by decide +kernel
theorem dJ13_bitCount_95d88_36 : decode cJ13_bitCount_95d88 36 = .ok (.bipush 8, 2) := by decide +kernel
theorem dJ13_bitCount_95d88_38 : decode cJ13_bitCount_95d88 38 = .ok (.lushr, 1) := by decide +kernel
theorem dJ13_bitCount_95d88_39 : decode cJ13_bitCount_95d88 39 = .ok (.ladd, 1) := by decide +kernel
theorem dJ13_bitCount_95d88_40 : decode cJ13_bitCount_95d88 40 = .ok (.lstore_n 0, 1) := by decide +kernel
theorem dJ13_bitCount_95d88_41 : decode cJ13_bitCount_95d88 41 = .ok (.lload_n 0, 1) := by decide +kernel
theorem dJ13_bitCount_95d88_42 : decode cJ13_bitCount_95d88 42 = .ok (.lload_n 0, 1) := by decide +kernel
theorem dJ13_bitCount_95d88_43 : decode cJ13_bitCount_95d88 43 = .ok (.bipush 16, 2) := by decide +kernel
theorem dJ13_bitCount_95d88_45 : decode cJ13_bitCount_95d88 45 = .ok (.lushr, 1) := by decide +kernel
theorem dJ13_bitCount_95d88_46 : decode cJ13_bitCount_95d88 46 = .ok (.ladd, 1) := by decide +kernel
theorem dJ13_bitCount_95d88_47 : decode cJ13_bitCount_95d88 47 = .ok (.lstore_n 0, 1) := by decide +kernel
theorem dJ13_bitCount_95d88_48 : decode cJ13_bitCount_95d88 48 = .ok (.lload_n 0, 1) := by decide +kernel
theorem dJ13_bitCount_95d88_49 : decode cJ13_bitCount_95d88 49 = .ok (.lload_n 0, 1) := by decide +kernel
theorem dJ13_bitCount_95d88_50 : decode cJ13_bitCount_95d88 50 = .ok (.bipush 32, 2) := by decide +kernel
theorem dJ13_bitCount_95d88_52 : decode cJ13_bitCount_95d88 52 = .ok (.lushr, 1) := by decide +kernel
theorem dJ13_bitCount_95d88_53 : decode cJ13_bitCount_95d88 53 = .ok (.ladd, 1) := by decide +kernel
theorem dJ13_bitCount_95d88_54 : decode cJ13_bitCount_95d88 54 = .ok (.lstore_n 0, 1) := by decide +kernel
theorem dJ13_bitCount_95d88_55 : decode cJ13_bitCount_95d88 55 = .ok (.lload_n 0, 1) := by decide +kernel
theorem dJ13_bitCount_95d88_56 : decode cJ13_bitCount_95d88 56 = .ok (.l2i, 1) := by decide +kernel
theorem dJ13_bitCount_95d88_57 : decode cJ13_bitCount_95d88 57 = .ok (.bipush 127, 2) := by decide +kernel
theorem dJ13_bitCount_95d88_59 : decode cJ13_bitCount_95d88 59 = .ok (.iand, 1) := by decide +kernel
theorem dJ13_bitCount_95d88_60 : decode cJ13_bitCount_95d88 60 = .ok (.ireturn, 1) := by decide +kernel
theorem dJ9_min_7cf53_0 : decode cJ9_min_7cf53 0 = .ok (.iload_n 0, 1) := by decide +kernel
theorem dJ9_min_7cf53_1 : decode cJ9_min_7cf53 1 = .ok (.iload_n 1, 1) := by decide +kernel
theorem dJ9_min_7cf53_2 : decode cJ9_min_7cf53 2 = .ok (.if_icmp .gt 7, 3) := by decide +kernel
theorem dJ9_min_7cf53_5 : decode cJ9_min_7cf53 5 = .ok (.iload_n 0, 1) := by decide +kernel
theorem dJ9_min_7cf53_6 : decode cJ9_min_7cf53 6 = .ok (.goto 4, 3) := by decide +kernel
theorem dJ9_min_7cf53_9 : decode cJ9_min_7cf53 9 = .ok (.iload_n 1, 1) := by decide +kernel
theorem dJ9_min_7cf53_10 : decode cJ9_min_7cf53 10 = .ok (.ireturn, 1) := by decide +kernel
theorem dJ7_fill_d0a16_0 : decode cJ7_fill_d0a16 0 = .ok (.iconst 0, 1) := by decide +kernel
theorem dJ7_fill_d0a16_1 : decode cJ7_fill_d0a16 1 = .ok (.istore_n 3, 1) := by decide +kernel
theorem dJ7_fill_d0a16_2 : decode cJ7_fill_d0a16 2 = .ok (.aload_n 0, 1) := by decide +kernel
theorem dJ7_fill_d0a16_3 : decode cJ7_fill_d0a16 3 = .ok (.arraylength, 1) := by decide +kernel
theorem dJ7_fill_d0a16_4 : decode cJ7_fill_d0a16 4 = .ok (.istore 4, 2) := by decide +kernel
theorem dJ7_fill_d0a16_6 : decode cJ7_fill_d0a16 6 = .ok (.iload_n 3, 1) := by decide +kernel
theorem dJ7_fill_d0a16_7 : decode cJ7_fill_d0a16 7 = .ok (.iload 4, 2) := by decide +kernel
theorem dJ7_fill_d0a16_9 : decode cJ7_fill_d0a16 9 = .ok (.if_icmp .ge 13, 3) := by decide +kernel
theorem dJ7_fill_d0a16_12 : decode cJ7_fill_d0a16 12 = .ok (.aload_n 0, 1) := by decide +kernel
theorem dJ7_fill_d0a16_13 : decode cJ7_fill_d0a16 13 = .ok (.iload_n 3, 1) := by decide +kernel
theorem dJ7_fill_d0a16_14 : decode cJ7_fill_d0a16 14 = .ok (.lload_n 1, 1) := by decide +kernel
theorem dJ7_fill_d0a16_15 : decode cJ7_fill_d0a16 15 = .ok (.lastore, 1) := by decide +kernel
theorem dJ7_fill_d0a16_16 : decode cJ7_fill_d0a16 16 = .ok (.iinc 3 1, 3) := by decide +kernel
theorem dJ7_fill_d0a16_19 : decode cJ7_fill_d0a16 19 = .ok (.goto (-13), 3) := by decide +kernel
theorem dJ7_fill_d0a16_22 : decode cJ7_fill_d0a16 22 = .ok (.return_, 1) := by decide +kernel
theorem dJ7_fill_53178_0 : decode cJ7_fill_53178 0 = .ok (.iconst 0, 1) := by decide +kernel
theorem dJ7_fill_53178_1 : decode cJ7_fill_53178 1 = .ok (.istore_n 2, 1) := by decide +kernel
theorem dJ7_fill_53178_2 : decode cJ7_fill_53178 2 = .ok (.aload_n 0, 1) := by decide +kernel
theorem dJ7_fill_53178_3 : decode cJ7_fill_53178 3 = .ok (.arraylength, 1) := by decide +kernel
theorem dJ7_fill_53178_4 : decode cJ7_fill_53178 4 = .ok (.istore_n 3, 1) := by decide +kernel
theorem dJ7_fill_53178_5 : decode cJ7_fill_53178 5 = .ok (.iload_n 2, 1) := by decide +kernel
theorem dJ7_fill_53178_6 : decode cJ7_fill_53178 6 = .ok (.iload_n 3, 1) := by decide +kernel
theorem dJ7_fill_53178_7 : decode cJ7_fill_53178 7 = .ok (.if_icmp .ge 13, 3) := by decide +kernel
theorem dJ7_fill_53178_10 : decode cJ7_fill_53178 10 = .ok (.aload_n 0, 1) := by decide +kernel
theorem dJ7_fill_53178_11 : decode cJ7_fill_53178 11 = .ok (.iload_n 2, 1) := by decide +kernel
theorem dJ7_fill_53178_12 : decode cJ7_fill_53178 12 = .ok (.iload_n 1, 1) := by decide +kernel
theorem dJ7_fill_53178_13 : decode cJ7_fill_53178 13 = .ok (.iastore, 1) := by decide +kernel
theorem dJ7_fill_53178_14 : decode cJ7_fill_53178 14 = .ok (.iinc 2 1, 3) := by decide +kernel
theorem dJ7_fill_53178_17 : decode cJ7_fill_53178 17 = .ok (.goto (-12), 3) := by decide +kernel
theorem dJ7_fill_53178_20 : decode cJ7_fill_53178 20 = .ok (.return_, 1) := by decide +kernel
