theorem d_W_init_0 : decode b_W_init 0 = .ok (.aload_n 0, 1) := by decide +kernel
theorem d_W_init_1 : decode b_W_init 1 = .ok (.invokespecial 3, 3) := by decide +kernel
theorem d_W_init_4 : decode b_W_init 4 = .ok (.aload_n 0, 1) := by decide +kernel
theorem d_W_init_5 : decode b_W_init 5 = .ok (.sipush 400, 3) := by decide +kernel
theorem d_W_init_8 : decode b_W_init 8 = .ok (.newarray .char, 2) := by decide +kernel
theorem d_W_init_10 : decode b_W_init 10 = .ok (.putfield 9, 3) := by decide +kernel
theorem d_W_init_13 : decode b_W_init 13 = .ok (.aload_n 0, 1) := by decide +kernel
theorem d_W_init_14 : decode b_W_init 14 = .ok (.iconst 0, 1) := by decide +kernel
theorem d_W_init_15 : decode b_W_init 15 = .ok (.putfield 15, 3) := by decide +kernel
theorem d_W_init_18 : decode b_W_init 18 = .ok (.aload_n 0, 1) := by decide +kernel
theorem d_W_init_19 : decode b_W_init 19 = .ok (.iconst 0, 1) := by decide +kernel
theorem d_W_init_20 : decode b_W_init 20 = .ok (.putfield 19, 3) := by decide +kernel
theorem d_W_init_23 : decode b_W_init 23 = .ok (.aload_n 0, 1) := by decide +kernel
theorem d_W_init_24 : decode b_W_init 24 = .ok (.bipush 7, 2) := by decide +kernel
theorem d_W_init_26 : decode b_W_init 26 = .ok (.newarray .boolean, 2) := by decide +kernel
theorem d_W_init_28 : decode b_W_init 28 = .ok (.putfield 22, 3) := by decide +kernel
theorem d_W_init_31 : decode b_W_init 31 = .ok (.aload_n 0, 1) := by decide +kernel
theorem d_W_init_32 : decode b_W_init 32 = .ok (.bipush 7, 2) := by decide +kernel
theorem d_W_init_34 : decode b_W_init 34 = .ok (.newarray .int, 2) := by decide +kernel
theorem d_W_init_36 : decode b_W_init 36 = .ok (.putfield 26, 3) := by decide +kernel
theorem d_W_init_39 : decode b_W_init 39 = .ok (.aload_n 0, 1) := by decide +kernel
theorem d_W_init_40 : decode b_W_init 40 = .ok (.iconst (-1), 1) := by decide +kernel
theorem d_W_init_41 : decode b_W_init 41 = .ok (.putfield 30, 3) := by decide +kernel
theorem d_W_init_44 : decode b_W_init 44 = .ok (.aload_n 0, 1) := by decide +kernel
theorem d_W_init_45 : decode b_W_init 45 = .ok (.iconst (-1), 1) := by decide +kernel
theorem d_W_init_46 : decode b_W_init 46 = .ok (.putfield 33, 3) := by decide +kernel
theorem d_W_init_49 : decode b_W_init 49 = .ok (.return_, 1) := by decide +kernel
theorem d_W_has_0 : decode b_W_has 0 = .ok (.iload_n 1, 1) := by decide +kernel
theorem d_W_has_1 : decode b_W_has 1 = .ok (.ifCond .lt 22, 3) := by decide +kernel
theorem d_W_has_4 : decode b_W_has 4 = .ok (.iload_n 1, 1) := by decide +kernel
theorem d_W_has_5 : decode b_W_has 5 = .ok (.bipush 7, 2) := by decide +kernel
theorem d_W_has_7 : decode b_W_has 7 = .ok (.if_icmp .ge 16, 3) := by decide +kernel
theorem d_W_has_10 : decode b_W_has 10 = .ok (.aload_n 0, 1) := by decide +kernel
theorem d_W_has_11 : decode b_W_has 11 = .ok (.getfield 22, 3) := by decide +kernel
theorem d_W_has_14 : decode b_W_has 14 = .ok (.iload_n 1, 1) := by decide +kernel
theorem d_W_has_15 : decode b_W_has 15 = .ok (.baload, 1) := by decide +kernel
theorem d_W_has_16 : decode b_W_has 16 = .ok (.ifCond .eq 7, 3) := by decide +kernel
theorem d_W_has_19 : decode b_W_has 19 = .ok (.iconst 1, 1) := by decide +kernel
theorem d_W_has_20 : decode b_W_has 20 = .ok (.goto 4, 3) := by decide +kernel
theorem d_W_has_23 : decode b_W_has 23 = .ok (.iconst 0, 1) := by decide +kernel
theorem d_W_has_24 : decode b_W_has 24 = .ok (.ireturn, 1) := by decide +kernel
theorem d_W_number_0 : decode b_W_number 0 = .ok (.aload_n 0, 1) := by decide +kernel
theorem d_W_number_1 : decode b_W_number 1 = .ok (.iload_n 1, 1) := by decide +kernel
theorem d_W_number_2 : decode b_W_number 2 = .ok (.invokevirtual 36, 3) := by decide +kernel
theorem d_W_number_5 : decode b_W_number 5 = .ok (.ifCond .eq 12, 3) := by decide +kernel
theorem d_W_number_8 : decode b_W_number 8 = .ok (.aload_n 0, 1) := by decide +kernel
theorem d_W_number_9 : decode b_W_number 9 = .ok (.getfield 26, 3) := by decide +kernel
theorem d_W_number_12 : decode b_W_number 12 = .ok (.iload_n 1, 1) := by decide +kernel
theorem d_W_number_13 : decode b_W_number 13 = .ok (.iaload, 1) := by decide +kernel
theorem d_W_number_14 : decode b_W_number 14 = .ok (.goto 4, 3) := by decide +kernel
theorem d_W_number_17 : decode b_W_number 17 = .ok (.iconst 0, 1) := by decide +kernel
theorem d_W_number_18 : decode b_W_number 18 = .ok (.ireturn, 1) := by decide +kernel
theorem d_W_motion_0 : decode b_W_motion 0 = .ok (.aload_n 0, 1) := by decide +kernel
theorem d_W_motion_1 : decode b_W_motion 1 = .ok (.getfield 30, 3) := by decide +kernel
theorem d_W_motion_4 : decode b_W_motion 4 = .ok (.ireturn, 1) := by decide +kernel
theorem d_W_distances_0 : decode b_W_distances 0 = .ok (.aload_n 0, 1) := by decide +kernel
theorem d_W_distances_1 : decode b_W_distances 1 = .ok (.getfield 33, 3) := by decide +kernel
theorem d_W_distances_4 : decode b_W_distances 4 = .ok (.ireturn, 1) := by decide +kernel
theorem d_W_read_0 : decode b_W_read 0 = .ok (.aload_n 0, 1) := by decide +kernel
theorem d_W_read_1 : decode b_W_read 1 = .ok (.invokevirtual 40, 3) := by decide +kernel
theorem d_W_read_4 : decode b_W_read 4 = .ok (.aload_n 0, 1) := by decide +kernel
theorem d_W_read_5 : decode b_W_read 5 = .ok (.aload_n 1, 1) := by decide +kernel
theorem d_W_read_6 : decode b_W_read 6 = .ok (.iload_n 2, 1) := by decide +kernel
theorem d_W_read_7 : decode b_W_read 7 = .ok (.iload_n 3, 1) := by decide +kernel
theorem d_W_read_8 : decode b_W_read 8 = .ok (.invokevirtual 43, 3) := by decide +kernel
theorem d_W_read_11 : decode b_W_read 11 = .ok (.iconst 0, 1) := by decide +kernel
theorem d_W_read_12 : decode b_W_read 12 = .ok (.istore 4, 2) := by decide +kernel
theorem d_W_read_14 : decode b_W_read 14 = .ok (.iconst 0, 1) := by decide +kernel
theorem d_W_read_15 : decode b_W_read 15 = .ok (.istore 5, 2) := by decide +kernel
theorem d_W_read_17 : decode b_W_read 17 = .ok (.iload 5, 2) := by decide +kernel
theorem d_W_read_19 : decode b_W_read 19 = .ok (.aload_n 0, 1) := by decide +kernel
theorem d_W_read_20 : decode b_W_read 20 = .ok (.getfield 15, 3) := by decide +kernel
theorem d_W_read_23 : decode b_W_read 23 = .ok (.if_icmp .ge 31, 3) := by decide +kernel
theorem d_W_read_26 : decode b_W_read 26 = .ok (.aload_n 0, 1) := by decide +kernel
theorem d_W_read_27 : decode b_W_read 27 = .ok (.getfield 19, 3) := by decide +kernel
theorem d_W_read_30 : decode b_W_read 30 = .ok (.aload_n 0, 1) := by decide +kernel
theorem d_W_read_31 : decode b_W_read 31 = .ok (.getfield 15, 3) := by decide +kernel
theorem d_W_read_34 : decode b_W_read 34 = .ok (.if_icmp .ge 20, 3) := by decide +kernel
theorem d_W_read_37 : decode b_W_read 37 = .ok (.iload 4, 2) := by decide +kernel
theorem d_W_read_39 : decode b_W_read 39 = .ok (.ifCond .ne 15, 3) := by decide +kernel
theorem d_W_read_42 : decode b_W_read 42 = .ok (.aload_n 0, 1) := by decide +kernel
theorem d_W_read_43 : decode b_W_read 43 = .ok (.invokevirtual 47, 3) := by decide +kernel
theorem d_W_read_46 : decode b_W_read 46 = .ok (.istore 4, 2) := by decide +kernel
theorem d_W_read_48 : decode b_W_read 48 = .ok (.iinc 5 1, 3) := by decide +kernel
theorem d_W_read_51 : decode b_W_read 51 = .ok (.goto (-34), 3) := by decide +kernel
theorem d_W_read_54 : decode b_W_read 54 = .ok (.iload 4, 2) := by decide +kernel
theorem d_W_read_56 : decode b_W_read 56 = .ok (.ireturn, 1) := by decide +kernel
theorem d_W_forget_0 : decode b_W_forget 0 = .ok (.iconst 0, 1) := by decide +kernel
theorem d_W_forget_1 : decode b_W_forget 1 = .ok (.istore_n 1, 1) := by decide +kernel
theorem d_W_forget_2 : decode b_W_forget 2 = .ok (.iload_n 1, 1) := by decide +kernel
theorem d_W_forget_3 : decode b_W_forget 3 = .ok (.bipush 7, 2) := by decide +kernel
theorem d_W_forget_5 : decode b_W_forget 5 = .ok (.if_icmp .ge 16, 3) := by decide +kernel
theorem d_W_forget_8 : decode b_W_forget 8 = .ok (.aload_n 0, 1) := by decide +kernel
theorem d_W_forget_9 : decode b_W_forget 9 = .ok (.getfield 22, 3) := by decide +kernel
theorem d_W_forget_12 : decode b_W_forget 12 = .ok (.iload_n 1, 1) := by decide +kernel
theorem d_W_forget_13 : decode b_W_forget 13 = .ok (.iconst 0, 1) := by decide +kernel
theorem d_W_forget_14 : decode b_W_forget 14 = .ok (.bastore, 1) := by decide +kernel
theorem d_W_forget_15 : decode b_W_forget 15 = .ok (.iinc 1 1, 3) := by decide +kernel
theorem d_W_forget_18 : decode b_W_forget 18 = .ok (.goto (-16), 3) := by decide +kernel
theorem d_W_forget_21 : decode b_W_forget 21 = .ok (.aload_n 0, 1) := by decide +kernel
theorem d_W_forget_22 : decode b_W_forget 22 = .ok (.iconst (-1), 1) := by decide +kernel
theorem d_W_forget_23 : decode b_W_forget 23 = .ok (.putfield 30, 3) := by decide +kernel
theorem d_W_forget_26 : decode b_W_forget 26 = .ok (.aload_n 0, 1) := by decide +kernel
theorem d_W_forget_27 : decode b_W_forget 27 = .ok (.iconst (-1), 1) := by decide +kernel
theorem d_W_forget_28 : decode b_W_forget 28 = .ok (.putfield 33, 3) := by decide +kernel
theorem d_W_forget_31 : decode b_W_forget 31 = .ok (.return_, 1) := by decide +kernel
theorem d_W_takeRow_0 : decode b_W_takeRow 0 = .ok (.aload_n 0, 1) := by decide +kernel
theorem d_W_takeRow_1 : decode b_W_takeRow 1 = .ok (.iconst 0, 1) := by decide +kernel
theorem d_W_takeRow_2 : decode b_W_takeRow 2 = .ok (.putfield 19, 3) := by decide +kernel
theorem d_W_takeRow_5 : decode b_W_takeRow 5 = .ok (.aload_n 0, 1) := by decide +kernel
theorem d_W_takeRow_6 : decode b_W_takeRow 6 = .ok (.iconst 0, 1) := by decide +kernel
theorem d_W_takeRow_7 : decode b_W_takeRow 7 = .ok (.putfield 15, 3) := by decide +kernel
theorem d_W_takeRow_10 : decode b_W_takeRow 10 = .ok (.iload_n 2, 1) := by decide +kernel
theorem d_W_takeRow_11 : decode b_W_takeRow 11 = .ok (.istore 4, 2) := by decide +kernel
theorem d_W_takeRow_13 : decode b_W_takeRow 13 = .ok (.iload 4, 2) := by decide +kernel
theorem d_W_takeRow_15 : decode b_W_takeRow 15 = .ok (.iload_n 3, 1) := by decide +kernel
theorem d_W_takeRow_16 : decode b_W_takeRow 16 = .ok (.if_icmp .ge 55, 3) := by decide +kernel
theorem d_W_takeRow_19 : decode b_W_takeRow 19 = .ok (.aload_n 0, 1) := by decide +kernel
theorem d_W_takeRow_20 : decode b_W_takeRow 20 = .ok (.getfield 15, 3) := by decide +kernel
theorem d_W_takeRow_23 : decode b_W_takeRow 23 = .ok (.sipush 400, 3) := by decide +kernel
theorem d_W_takeRow_26 : decode b_W_takeRow 26 = .ok (.if_icmp .ge 45, 3) := by decide +kernel
theorem d_W_takeRow_29 : decode b_W_takeRow 29 = .ok (.aload_n 1, 1) := by decide +kernel
theorem d_W_takeRow_30 : decode b_W_takeRow 30 = .ok (.iload 4, 2) := by decide +kernel
theorem d_W_takeRow_32 : decode b_W_takeRow 32 = .ok (.invokevirtual 51, 3) := by decide +kernel
theorem d_W_takeRow_35 : decode b_W_takeRow 35 = .ok (.bipush 32, 2) := by decide +kernel
theorem d_W_takeRow_37 : decode b_W_takeRow 37 = .ok (.if_icmp .eq 28, 3) := by decide +kernel
theorem d_W_takeRow_40 : decode b_W_takeRow 40 = .ok (.aload_n 0, 1) := by decide +kernel
theorem d_W_takeRow_41 : decode b_W_takeRow 41 = .ok (.getfield 9, 3) := by decide +kernel
theorem d_W_takeRow_44 : decode b_W_takeRow 44 = .ok (.aload_n 0, 1) := by decide +kernel
theorem d_W_takeRow_45 : decode b_W_takeRow 45 = .ok (.getfield 15, 3) := by decide +kernel
theorem d_W_takeRow_48 : decode b_W_takeRow 48 = .ok (.aload_n 1, 1) := by decide +kernel
theorem d_W_takeRow_49 : decode b_W_takeRow 49 = .ok (.iload 4, 2) := by decide +kernel
theorem d_W_takeRow_51 : decode b_W_takeRow 51 = .ok (.invokevirtual 51, 3) := by decide +kernel
theorem d_W_takeRow_54 : decode b_W_takeRow 54 = .ok (.castore, 1) := by decide +kernel
theorem d_W_takeRow_55 : decode b_W_takeRow 55 = .ok (.aload_n 0, 1) := by decide +kernel
theorem d_W_takeRow_56 : decode b_W_takeRow 56 = .ok (.dup, 1) := by decide +kernel
theorem d_W_takeRow_57 : decode b_W_takeRow 57 = .ok (.getfield 15, 3) := by decide +kernel
theorem d_W_takeRow_60 : decode b_W_takeRow 60 = .ok (.iconst 1, 1) := by decide +kernel
theorem d_W_takeRow_61 : decode b_W_takeRow 61 = .ok (.iadd, 1) := by decide +kernel
theorem d_W_takeRow_62 : decode b_W_takeRow 62 = .ok (.putfield 15, 3) := by decide +kernel
theorem d_W_takeRow_65 : decode b_W_takeRow 65 = .ok (.iinc 4 1, 3) := by decide +kernel
theorem d_W_takeRow_68 : decode b_W_takeRow 68 = .ok (.goto (-55), 3) := by decide +kernel
theorem d_W_takeRow_71 : decode b_W_takeRow 71 = .ok (.return_, 1) := by decide +kernel
theorem d_W_readWord_0 : decode b_W_readWord 0 = .ok (.ldc 57, 2) := by decide +kernel
theorem d_W_readWord_2 : decode b_W_readWord 2 = .ok (.aload_n 0, 1) := by decide +kernel
theorem d_W_readWord_3 : decode b_W_readWord 3 = .ok (.invokevirtual 59, 3) := by decide +kernel
theorem d_W_readWord_6 : decode b_W_readWord 6 = .ok (.invokevirtual 63, 3) := by decide +kernel
theorem d_W_readWord_9 : decode b_W_readWord 9 = .ok (.istore_n 1, 1) := by decide +kernel
theorem d_W_readWord_10 : decode b_W_readWord 10 = .ok (.iload_n 1, 1) := by decide +kernel
theorem d_W_readWord_11 : decode b_W_readWord 11 = .ok (.ifCond .ge 6, 3) := by decide +kernel
theorem d_W_readWord_14 : decode b_W_readWord 14 = .ok (.bipush 101, 2) := by decide +kernel
theorem d_W_readWord_16 : decode b_W_readWord 16 = .ok (.ireturn, 1) := by decide +kernel
theorem d_W_readWord_17 : decode b_W_readWord 17 = .ok (.aload_n 0, 1) := by decide +kernel
theorem d_W_readWord_18 : decode b_W_readWord 18 = .ok (.dup, 1) := by decide +kernel
theorem d_W_readWord_19 : decode b_W_readWord 19 = .ok (.getfield 19, 3) := by decide +kernel
theorem d_W_readWord_22 : decode b_W_readWord 22 = .ok (.iconst 1, 1) := by decide +kernel
theorem d_W_readWord_23 : decode b_W_readWord 23 = .ok (.iadd, 1) := by decide +kernel
theorem d_W_readWord_24 : decode b_W_readWord 24 = .ok (.putfield 19, 3) := by decide +kernel
theorem d_W_readWord_27 : decode b_W_readWord 27 = .ok (.aload_n 0, 1) := by decide +kernel
theorem d_W_readWord_28 : decode b_W_readWord 28 = .ok (.invokevirtual 59, 3) := by decide +kernel
theorem d_W_readWord_31 : decode b_W_readWord 31 = .ok (.bipush 45, 2) := by decide +kernel
theorem d_W_readWord_33 : decode b_W_readWord 33 = .ok (.if_icmp .ne 7, 3) := by decide +kernel
theorem d_W_readWord_36 : decode b_W_readWord 36 = .ok (.iconst 1, 1) := by decide +kernel
theorem d_W_readWord_37 : decode b_W_readWord 37 = .ok (.goto 4, 3) := by decide +kernel
theorem d_W_readWord_40 : decode b_W_readWord 40 = .ok (.iconst 0, 1) := by decide +kernel
theorem d_W_readWord_41 : decode b_W_readWord 41 = .ok (.istore_n 2, 1) := by decide +kernel
theorem d_W_readWord_42 : decode b_W_readWord 42 = .ok (.iload_n 1, 1) := by decide +kernel
theorem d_W_readWord_43 : decode b_W_readWord 43 = .ok (.invokestatic 69, 3) := by decide +kernel
theorem d_W_readWord_46 : decode b_W_readWord 46 = .ok (.ifCond .eq 26, 3) := by decide +kernel
theorem d_W_readWord_49 : decode b_W_readWord 49 = .ok (.iload_n 2, 1) := by decide +kernel
theorem d_W_readWord_50 : decode b_W_readWord 50 = .ok (.ifCond .ne 12, 3) := by decide +kernel
theorem d_W_readWord_53 : decode b_W_readWord 53 = .ok (.aload_n 0, 1) := by decide +kernel
theorem d_W_readWord_54 : decode b_W_readWord 54 = .ok (.invokevirtual 59, 3) := by decide +kernel
theorem d_W_readWord_57 : decode b_W_readWord 57 = .ok (.bipush 43, 2) := by decide +kernel
theorem d_W_readWord_59 : decode b_W_readWord 59 = .ok (.if_icmp .ne 13, 3) := by decide +kernel
theorem d_W_readWord_62 : decode b_W_readWord 62 = .ok (.aload_n 0, 1) := by decide +kernel
theorem d_W_readWord_63 : decode b_W_readWord 63 = .ok (.dup, 1) := by decide +kernel
theorem d_W_readWord_64 : decode b_W_readWord 64 = .ok (.getfield 19, 3) := by decide +kernel
theorem d_W_readWord_67 : decode b_W_readWord 67 = .ok (.iconst 1, 1) := by decide +kernel
theorem d_W_readWord_68 : decode b_W_readWord 68 = .ok (.iadd, 1) := by decide +kernel
theorem d_W_readWord_69 : decode b_W_readWord 69 = .ok (.putfield 19, 3) := by decide +kernel
theorem d_W_readWord_72 : decode b_W_readWord 72 = .ok (.aload_n 0, 1) := by decide +kernel
theorem d_W_readWord_73 : decode b_W_readWord 73 = .ok (.getfield 19, 3) := by decide +kernel
theorem d_W_readWord_76 : decode b_W_readWord 76 = .ok (.istore_n 3, 1) := by decide +kernel
theorem d_W_readWord_77 : decode b_W_readWord 77 = .ok (.iconst 0, 1) := by decide +kernel
theorem d_W_readWord_78 : decode b_W_readWord 78 = .ok (.istore 4, 2) := by decide +kernel
theorem d_W_readWord_80 : decode b_W_readWord 80 = .ok (.aload_n 0, 1) := by decide +kernel
theorem d_W_readWord_81 : decode b_W_readWord 81 = .ok (.getfield 19, 3) := by decide +kernel
theorem d_W_readWord_84 : decode b_W_readWord 84 = .ok (.aload_n 0, 1) := by decide +kernel
theorem d_W_readWord_85 : decode b_W_readWord 85 = .ok (.getfield 15, 3) := by decide +kernel
theorem d_W_readWord_88 : decode b_W_readWord 88 = .ok (.if_icmp .ge 41, 3) := by decide +kernel
theorem d_W_readWord_91 : decode b_W_readWord 91 = .ok (.aload_n 0, 1) := by decide +kernel
theorem d_W_readWord_92 : decode b_W_readWord 92 = .ok (.invokevirtual 59, 3) := by decide +kernel
theorem d_W_readWord_95 : decode b_W_readWord 95 = .ok (.invokestatic 72, 3) := by decide +kernel
theorem d_W_readWord_98 : decode b_W_readWord 98 = .ok (.ifCond .eq 31, 3) := by decide +kernel
theorem d_W_readWord_101 : decode b_W_readWord 101 = .ok (.bipush 10, 2) := by decide +kernel
theorem d_W_readWord_103 : decode b_W_readWord 103 = .ok (.iload 4, 2) := by decide +kernel
theorem d_W_readWord_105 : decode b_W_readWord 105 = .ok (.imul, 1) := by decide +kernel
theorem d_W_readWord_106 : decode b_W_readWord 106 = .ok (.aload_n 0, 1) := by decide +kernel
theorem d_W_readWord_107 : decode b_W_readWord 107 = .ok (.invokevirtual 59, 3) := by decide +kernel
theorem d_W_readWord_110 : decode b_W_readWord 110 = .ok (.iadd, 1) := by decide +kernel
theorem d_W_readWord_111 : decode b_W_readWord 111 = .ok (.bipush 48, 2) := by decide +kernel
theorem d_W_readWord_113 : decode b_W_readWord 113 = .ok (.isub, 1) := by decide +kernel
theorem d_W_readWord_114 : decode b_W_readWord 114 = .ok (.istore 4, 2) := by decide +kernel
theorem d_W_readWord_116 : decode b_W_readWord 116 = .ok (.aload_n 0, 1) := by decide +kernel
theorem d_W_readWord_117 : decode b_W_readWord 117 = .ok (.dup, 1) := by decide +kernel
theorem d_W_readWord_118 : decode b_W_readWord 118 = .ok (.getfield 19, 3) := by decide +kernel
theorem d_W_readWord_121 : decode b_W_readWord 121 = .ok (.iconst 1, 1) := by decide +kernel
theorem d_W_readWord_122 : decode b_W_readWord 122 = .ok (.iadd, 1) := by decide +kernel
theorem d_W_readWord_123 : decode b_W_readWord 123 = .ok (.putfield 19, 3) := by decide +kernel
theorem d_W_readWord_126 : decode b_W_readWord 126 = .ok (.goto (-46), 3) := by decide +kernel
theorem d_W_readWord_129 : decode b_W_readWord 129 = .ok (.aload_n 0, 1) := by decide +kernel
theorem d_W_readWord_130 : decode b_W_readWord 130 = .ok (.getfield 19, 3) := by decide +kernel
theorem d_W_readWord_133 : decode b_W_readWord 133 = .ok (.iload_n 3, 1) := by decide +kernel
theorem d_W_readWord_134 : decode b_W_readWord 134 = .ok (.isub, 1) := by decide +kernel
theorem d_W_readWord_135 : decode b_W_readWord 135 = .ok (.istore 5, 2) := by decide +kernel
theorem d_W_readWord_137 : decode b_W_readWord 137 = .ok (.iload 5, 2) := by decide +kernel
theorem d_W_readWord_139 : decode b_W_readWord 139 = .ok (.iconst 1, 1) := by decide +kernel
theorem d_W_readWord_140 : decode b_W_readWord 140 = .ok (.if_icmp .lt 13, 3) := by decide +kernel
theorem d_W_readWord_143 : decode b_W_readWord 143 = .ok (.iload 5, 2) := by decide +kernel
theorem d_W_readWord_145 : decode b_W_readWord 145 = .ok (.getstatic 76, 3) := by decide +kernel
theorem d_W_readWord_148 : decode b_W_readWord 148 = .ok (.iload_n 1, 1) := by decide +kernel
theorem d_W_readWord_149 : decode b_W_readWord 149 = .ok (.iaload, 1) := by decide +kernel
theorem d_W_readWord_150 : decode b_W_readWord 150 = .ok (.if_icmp .le 6, 3) := by decide +kernel
theorem d_W_readWord_153 : decode b_W_readWord 153 = .ok (.bipush 101, 2) := by decide +kernel
theorem d_W_readWord_155 : decode b_W_readWord 155 = .ok (.ireturn, 1) := by decide +kernel
theorem d_W_readWord_156 : decode b_W_readWord 156 = .ok (.iload_n 1, 1) := by decide +kernel
theorem d_W_readWord_157 : decode b_W_readWord 157 = .ok (.ifCond .ne 12, 3) := by decide +kernel
theorem d_W_readWord_160 : decode b_W_readWord 160 = .ok (.aload_n 0, 1) := by decide +kernel
theorem d_W_readWord_161 : decode b_W_readWord 161 = .ok (.iload 4, 2) := by decide +kernel
theorem d_W_readWord_163 : decode b_W_readWord 163 = .ok (.invokevirtual 79, 3) := by decide +kernel
theorem d_W_readWord_166 : decode b_W_readWord 166 = .ok (.goto 20, 3) := by decide +kernel
theorem d_W_readWord_169 : decode b_W_readWord 169 = .ok (.aload_n 0, 1) := by decide +kernel
theorem d_W_readWord_170 : decode b_W_readWord 170 = .ok (.iload_n 1, 1) := by decide +kernel
theorem d_W_readWord_171 : decode b_W_readWord 171 = .ok (.iload_n 2, 1) := by decide +kernel
theorem d_W_readWord_172 : decode b_W_readWord 172 = .ok (.ifCond .eq 9, 3) := by decide +kernel
theorem d_W_readWord_175 : decode b_W_readWord 175 = .ok (.iload 4, 2) := by decide +kernel
theorem d_W_readWord_177 : decode b_W_readWord 177 = .ok (.ineg, 1) := by decide +kernel
theorem d_W_readWord_178 : decode b_W_readWord 178 = .ok (.goto 5, 3) := by decide +kernel
theorem d_W_readWord_181 : decode b_W_readWord 181 = .ok (.iload 4, 2) := by decide +kernel
theorem d_W_readWord_183 : decode b_W_readWord 183 = .ok (.invokevirtual 82, 3) := by decide +kernel
theorem d_W_readWord_186 : decode b_W_readWord 186 = .ok (.ireturn, 1) := by decide +kernel
theorem d_W_peek_0 : decode b_W_peek 0 = .ok (.aload_n 0, 1) := by decide +kernel
theorem d_W_peek_1 : decode b_W_peek 1 = .ok (.getfield 19, 3) := by decide +kernel
theorem d_W_peek_4 : decode b_W_peek 4 = .ok (.aload_n 0, 1) := by decide +kernel
theorem d_W_peek_5 : decode b_W_peek 5 = .ok (.getfield 15, 3) := by decide +kernel
theorem d_W_peek_8 : decode b_W_peek 8 = .ok (.if_icmp .ge 15, 3) := by decide +kernel
theorem d_W_peek_11 : decode b_W_peek 11 = .ok (.aload_n 0, 1) := by decide +kernel
theorem d_W_peek_12 : decode b_W_peek 12 = .ok (.getfield 9, 3) := by decide +kernel
theorem d_W_peek_15 : decode b_W_peek 15 = .ok (.aload_n 0, 1) := by decide +kernel
theorem d_W_peek_16 : decode b_W_peek 16 = .ok (.getfield 19, 3) := by decide +kernel
theorem d_W_peek_19 : decode b_W_peek 19 = .ok (.caload, 1) := by decide +kernel
theorem d_W_peek_20 : decode b_W_peek 20 = .ok (.goto 4, 3) := by decide +kernel
theorem d_W_peek_23 : decode b_W_peek 23 = .ok (.iconst 0, 1) := by decide +kernel
theorem d_W_peek_24 : decode b_W_peek 24 = .ok (.ireturn, 1) := by decide +kernel
theorem d_W_isSigned_0 : decode b_W_isSigned 0 = .ok (.iload_n 0, 1) := by decide +kernel
theorem d_W_isSigned_1 : decode b_W_isSigned 1 = .ok (.iconst 2, 1) := by decide +kernel
theorem d_W_isSigned_2 : decode b_W_isSigned 2 = .ok (.if_icmp .eq 18, 3) := by decide +kernel
theorem d_W_isSigned_5 : decode b_W_isSigned 5 = .ok (.iload_n 0, 1) := by decide +kernel
theorem d_W_isSigned_6 : decode b_W_isSigned 6 = .ok (.iconst 3, 1) := by decide +kernel
theorem d_W_isSigned_7 : decode b_W_isSigned 7 = .ok (.if_icmp .eq 13, 3) := by decide +kernel
theorem d_W_isSigned_10 : decode b_W_isSigned 10 = .ok (.iload_n 0, 1) := by decide +kernel
theorem d_W_isSigned_11 : decode b_W_isSigned 11 = .ok (.iconst 4, 1) := by decide +kernel
theorem d_W_isSigned_12 : decode b_W_isSigned 12 = .ok (.if_icmp .eq 8, 3) := by decide +kernel
theorem d_W_isSigned_15 : decode b_W_isSigned 15 = .ok (.iload_n 0, 1) := by decide +kernel
theorem d_W_isSigned_16 : decode b_W_isSigned 16 = .ok (.iconst 5, 1) := by decide +kernel
theorem d_W_isSigned_17 : decode b_W_isSigned 17 = .ok (.if_icmp .ne 7, 3) := by decide +kernel
theorem d_W_isSigned_20 : decode b_W_isSigned 20 = .ok (.iconst 1, 1) := by decide +kernel
theorem d_W_isSigned_21 : decode b_W_isSigned 21 = .ok (.goto 4, 3) := by decide +kernel
theorem d_W_isSigned_24 : decode b_W_isSigned 24 = .ok (.iconst 0, 1) := by decide +kernel
theorem d_W_isSigned_25 : decode b_W_isSigned 25 = .ok (.ireturn, 1) := by decide +kernel
theorem d_W_isDigit_0 : decode b_W_isDigit 0 = .ok (.iload_n 0, 1) := by decide +kernel
theorem d_W_isDigit_1 : decode b_W_isDigit 1 = .ok (.bipush 48, 2) := by decide +kernel
theorem d_W_isDigit_3 : decode b_W_isDigit 3 = .ok (.if_icmp .lt 13, 3) := by decide +kernel
theorem d_W_isDigit_6 : decode b_W_isDigit 6 = .ok (.iload_n 0, 1) := by decide +kernel
theorem d_W_isDigit_7 : decode b_W_isDigit 7 = .ok (.bipush 57, 2) := by decide +kernel
theorem d_W_isDigit_9 : decode b_W_isDigit 9 = .ok (.if_icmp .gt 7, 3) := by decide +kernel
theorem d_W_isDigit_12 : decode b_W_isDigit 12 = .ok (.iconst 1, 1) := by decide +kernel
theorem d_W_isDigit_13 : decode b_W_isDigit 13 = .ok (.goto 4, 3) := by decide +kernel
theorem d_W_isDigit_16 : decode b_W_isDigit 16 = .ok (.iconst 0, 1) := by decide +kernel
theorem d_W_isDigit_17 : decode b_W_isDigit 17 = .ok (.ireturn, 1) := by decide +kernel
theorem d_W_keepG_0 : decode b_W_keepG 0 = .ok (.iload_n 1, 1) := by decide +kernel
theorem d_W_keepG_1 : decode b_W_keepG 1 = .ok (.ifCond .lt 26, 3) := by decide +kernel
theorem d_W_keepG_4 : decode b_W_keepG 4 = .ok (.iload_n 1, 1) := by decide +kernel
theorem d_W_keepG_5 : decode b_W_keepG 5 = .ok (.iconst 3, 1) := by decide +kernel
theorem d_W_keepG_6 : decode b_W_keepG 6 = .ok (.if_icmp .gt 21, 3) := by decide +kernel
theorem d_W_keepG_9 : decode b_W_keepG 9 = .ok (.aload_n 0, 1) := by decide +kernel
theorem d_W_keepG_10 : decode b_W_keepG 10 = .ok (.getfield 30, 3) := by decide +kernel
theorem d_W_keepG_13 : decode b_W_keepG 13 = .ok (.iconst (-1), 1) := by decide +kernel
theorem d_W_keepG_14 : decode b_W_keepG 14 = .ok (.if_icmp .eq 6, 3) := by decide +kernel
theorem d_W_keepG_17 : decode b_W_keepG 17 = .ok (.bipush 103, 2) := by decide +kernel
theorem d_W_keepG_19 : decode b_W_keepG 19 = .ok (.ireturn, 1) := by decide +kernel
theorem d_W_keepG_20 : decode b_W_keepG 20 = .ok (.aload_n 0, 1) := by decide +kernel
theorem d_W_keepG_21 : decode b_W_keepG 21 = .ok (.iload_n 1, 1) := by decide +kernel
theorem d_W_keepG_22 : decode b_W_keepG 22 = .ok (.putfield 30, 3) := by decide +kernel
theorem d_W_keepG_25 : decode b_W_keepG 25 = .ok (.iconst 0, 1) := by decide +kernel
theorem d_W_keepG_26 : decode b_W_keepG 26 = .ok (.ireturn, 1) := by decide +kernel
theorem d_W_keepG_27 : decode b_W_keepG 27 = .ok (.iload_n 1, 1) := by decide +kernel
theorem d_W_keepG_28 : decode b_W_keepG 28 = .ok (.bipush 90, 2) := by decide +kernel
theorem d_W_keepG_30 : decode b_W_keepG 30 = .ok (.if_icmp .eq 9, 3) := by decide +kernel
theorem d_W_keepG_33 : decode b_W_keepG 33 = .ok (.iload_n 1, 1) := by decide +kernel
theorem d_W_keepG_34 : decode b_W_keepG 34 = .ok (.bipush 91, 2) := by decide +kernel
theorem d_W_keepG_36 : decode b_W_keepG 36 = .ok (.if_icmp .ne 21, 3) := by decide +kernel
theorem d_W_keepG_39 : decode b_W_keepG 39 = .ok (.aload_n 0, 1) := by decide +kernel
theorem d_W_keepG_40 : decode b_W_keepG 40 = .ok (.getfield 33, 3) := by decide +kernel
theorem d_W_keepG_43 : decode b_W_keepG 43 = .ok (.iconst (-1), 1) := by decide +kernel
theorem d_W_keepG_44 : decode b_W_keepG 44 = .ok (.if_icmp .eq 6, 3) := by decide +kernel
theorem d_W_keepG_47 : decode b_W_keepG 47 = .ok (.bipush 103, 2) := by decide +kernel
theorem d_W_keepG_49 : decode b_W_keepG 49 = .ok (.ireturn, 1) := by decide +kernel
theorem d_W_keepG_50 : decode b_W_keepG 50 = .ok (.aload_n 0, 1) := by decide +kernel
theorem d_W_keepG_51 : decode b_W_keepG 51 = .ok (.iload_n 1, 1) := by decide +kernel
theorem d_W_keepG_52 : decode b_W_keepG 52 = .ok (.putfield 33, 3) := by decide +kernel
theorem d_W_keepG_55 : decode b_W_keepG 55 = .ok (.iconst 0, 1) := by decide +kernel
theorem d_W_keepG_56 : decode b_W_keepG 56 = .ok (.ireturn, 1) := by decide +kernel
theorem d_W_keepG_57 : decode b_W_keepG 57 = .ok (.bipush 102, 2) := by decide +kernel
theorem d_W_keepG_59 : decode b_W_keepG 59 = .ok (.ireturn, 1) := by decide +kernel
theorem d_W_keep_0 : decode b_W_keep 0 = .ok (.iload_n 1, 1) := by decide +kernel
theorem d_W_keep_1 : decode b_W_keep 1 = .ok (.iconst 1, 1) := by decide +kernel
theorem d_W_keep_2 : decode b_W_keep 2 = .ok (.if_icmp .ne 11, 3) := by decide +kernel
theorem d_W_keep_5 : decode b_W_keep 5 = .ok (.iload_n 2, 1) := by decide +kernel
theorem d_W_keep_6 : decode b_W_keep 6 = .ok (.iconst 2, 1) := by decide +kernel
theorem d_W_keep_7 : decode b_W_keep 7 = .ok (.if_icmp .eq 6, 3) := by decide +kernel
theorem d_W_keep_10 : decode b_W_keep 10 = .ok (.bipush 102, 2) := by decide +kernel
theorem d_W_keep_12 : decode b_W_keep 12 = .ok (.ireturn, 1) := by decide +kernel
theorem d_W_keep_13 : decode b_W_keep 13 = .ok (.aload_n 0, 1) := by decide +kernel
theorem d_W_keep_14 : decode b_W_keep 14 = .ok (.getfield 22, 3) := by decide +kernel
theorem d_W_keep_17 : decode b_W_keep 17 = .ok (.iload_n 1, 1) := by decide +kernel
theorem d_W_keep_18 : decode b_W_keep 18 = .ok (.baload, 1) := by decide +kernel
theorem d_W_keep_19 : decode b_W_keep 19 = .ok (.ifCond .eq 6, 3) := by decide +kernel
theorem d_W_keep_22 : decode b_W_keep 22 = .ok (.bipush 103, 2) := by decide +kernel
theorem d_W_keep_24 : decode b_W_keep 24 = .ok (.ireturn, 1) := by decide +kernel
theorem d_W_keep_25 : decode b_W_keep 25 = .ok (.iload_n 1, 1) := by decide +kernel
theorem d_W_keep_26 : decode b_W_keep 26 = .ok (.bipush 6, 2) := by decide +kernel
theorem d_W_keep_28 : decode b_W_keep 28 = .ok (.if_icmp .ne 18, 3) := by decide +kernel
theorem d_W_keep_31 : decode b_W_keep 31 = .ok (.iload_n 2, 1) := by decide +kernel
theorem d_W_keep_32 : decode b_W_keep 32 = .ok (.iconst 1, 1) := by decide +kernel
theorem d_W_keep_33 : decode b_W_keep 33 = .ok (.if_icmp .lt 10, 3) := by decide +kernel
theorem d_W_keep_36 : decode b_W_keep 36 = .ok (.iload_n 2, 1) := by decide +kernel
theorem d_W_keep_37 : decode b_W_keep 37 = .ok (.sipush 10000, 3) := by decide +kernel
theorem d_W_keep_40 : decode b_W_keep 40 = .ok (.if_icmp .le 6, 3) := by decide +kernel
theorem d_W_keep_43 : decode b_W_keep 43 = .ok (.bipush 105, 2) := by decide +kernel
theorem d_W_keep_45 : decode b_W_keep 45 = .ok (.ireturn, 1) := by decide +kernel
theorem d_W_keep_46 : decode b_W_keep 46 = .ok (.aload_n 0, 1) := by decide +kernel
theorem d_W_keep_47 : decode b_W_keep 47 = .ok (.getfield 22, 3) := by decide +kernel
theorem d_W_keep_50 : decode b_W_keep 50 = .ok (.iload_n 1, 1) := by decide +kernel
theorem d_W_keep_51 : decode b_W_keep 51 = .ok (.iconst 1, 1) := by decide +kernel
theorem d_W_keep_52 : decode b_W_keep 52 = .ok (.bastore, 1) := by decide +kernel
theorem d_W_keep_53 : decode b_W_keep 53 = .ok (.aload_n 0, 1) := by decide +kernel
theorem d_W_keep_54 : decode b_W_keep 54 = .ok (.getfield 26, 3) := by decide +kernel
theorem d_W_keep_57 : decode b_W_keep 57 = .ok (.iload_n 1, 1) := by decide +kernel
theorem d_W_keep_58 : decode b_W_keep 58 = .ok (.iload_n 2, 1) := by decide +kernel
theorem d_W_keep_59 : decode b_W_keep 59 = .ok (.iastore, 1) := by decide +kernel
theorem d_W_keep_60 : decode b_W_keep 60 = .ok (.iconst 0, 1) := by decide +kernel
theorem d_W_keep_61 : decode b_W_keep 61 = .ok (.ireturn, 1) := by decide +kernel
def wp_W_has (x1 : Int32) (wz : Nat → Int32) (Q : Int32 → Prop) : Prop := ((x1 < 0 → (Q (0 : Int32))) ∧ (¬ x1 < 0 → (((7 : Int32) ≤ x1 → (Q (0 : Int32))) ∧ (¬ (7 : Int32) ≤ x1 → (vp_in x1 7 ∧ (((wz x1.toNatClampNeg) = 0 → (Q (0 : Int32))) ∧ (¬ (wz x1.toNatClampNeg) = 0 → (Q (1 : Int32)))))))))
abbrev rm_W_has : Room := { frames := 0, cells := 0, slots := 0, locals := 0 }
set_option maxRecDepth 100000 in
set_option maxHeartbeats 4000000 in
theorem c_W_has (l : Launch) {D : va_G} {X : xT} {a : Nat → Nat} {K : Nat → ClassId} {tl : va_W} {e0 e1 e2 e4 : Nat × va_E} {x1 w_rowSize w_at w_motion w_distances : Int32} {wz : Nat → Int32} {Q : Int32 → Prop} : MZ l y_W_has b_W_has 2 rm_W_has D cls (tys K) X [.ref (a 3), .int x1] (e0 :: e1 :: e2 :: (o_W a w_rowSize w_at w_motion w_distances) :: e4 :: (o_wz a K wz) :: tl) (fun _ : Unit => e0 :: e1 :: e2 :: (o_W a w_rowSize w_at w_motion w_distances) :: e4 :: (o_wz a K wz) :: tl) (wp_W_has x1 wz Q) (fun r _ => Q r) := by
  refine my_of_Z (by decide +kernel) (Nat.le_of_ble_eq_true rfl) (fun p e s m args below meth c A QQ H locs ls hx hb hts hown hml hK hX hA hP hD hS hl hw hret => ?_)
  replace hl : lv_has ls 2 [(0, .ref (a 3)), (1, .int x1)] := hl
  unfold wp_W_has at hw
  refine lv_iload_n hx hb d_W_has_0 rfl (lv_at hl 1 rfl) ?_
  refine lv_if_lt (tgt := 23) hx hb d_W_has_1 (by decide) (fun hc => ?_) (fun hc => ?_)
  · replace hw := hw.1 hc
    refine lv_iconst (v := (0 : Int32)) hx hb d_W_has_23 (by decide) ?_
    exact hret H locs ls 24 ((0 : Int32)) (()) d_W_has_24 (Or.inl rfl) hP hD hS hw
  · replace hw := hw.2 hc
    refine lv_iload_n hx hb d_W_has_4 rfl (lv_at hl 1 rfl) ?_
    refine lv_bipush (v := (7 : Int32)) hx hb d_W_has_5 (by decide) ?_
    refine lv_icmp_ge (tgt := 23) hx hb d_W_has_7 (by decide) (fun hc => ?_) (fun hc => ?_)
    · replace hw := hw.1 hc
      refine lv_iconst (v := (0 : Int32)) hx hb d_W_has_23 (by decide) ?_
      exact hret H locs ls 24 ((0 : Int32)) (()) d_W_has_24 (Or.inl rfl) hP hD hS hw
    · replace hw := hw.2 hc
      refine lv_aload_n hx hb d_W_has_10 rfl (lv_at hl 0 rfl) ?_
      refine g_W_present hx hb hts hown hK hP 3 rfl rfl d_W_has_11 ?_
      refine lv_iload_n hx hb d_W_has_14 rfl (lv_at hl 1 rfl) ?_
      refine va_zald hx hb hK hP 5 2 rfl rfl hw.1 d_W_has_15 ?_
      replace hw := hw.2
      refine lv_if_eq (tgt := 23) hx hb d_W_has_16 (by decide) (fun hc => ?_) (fun hc => ?_)
      · replace hw := hw.1 hc
        refine lv_iconst (v := (0 : Int32)) hx hb d_W_has_23 (by decide) ?_
        exact hret H locs ls 24 ((0 : Int32)) (()) d_W_has_24 (Or.inl rfl) hP hD hS hw
      · replace hw := hw.2 hc
        refine lv_iconst (v := (1 : Int32)) hx hb d_W_has_19 (by decide) ?_
        refine lv_goto (tgt := 24) hx hb d_W_has_20 (by decide) ?_
        exact hret H locs ls 24 ((1 : Int32)) (()) d_W_has_24 (Or.inr rfl) hP hD hS hw
def wp_W_number (x1 : Int32) (wz wn : Nat → Int32) (Q : Int32 → Prop) : Prop := (wp_W_has x1 wz (fun r2 => ((r2 = 0 → (Q (0 : Int32))) ∧ (¬ r2 = 0 → (vp_in x1 7 ∧ (Q (wn x1.toNatClampNeg)))))))
abbrev rm_W_number : Room := { frames := 1, cells := 0, slots := 0, locals := 21 }
set_option maxRecDepth 100000 in
set_option maxHeartbeats 4000000 in
theorem c_W_number (l : Launch) {D : va_G} {X : xT} {a : Nat → Nat} {K : Nat → ClassId} {tl : va_W} {e0 e1 e2 e4 : Nat × va_E} {x1 w_rowSize w_at w_motion w_distances : Int32} {wz wn : Nat → Int32} {Q : Int32 → Prop} : MI l y_W_number b_W_number 2 rm_W_number D cls (tys K) X [.ref (a 3), .int x1] (e0 :: e1 :: e2 :: (o_W a w_rowSize w_at w_motion w_distances) :: e4 :: (o_wz a K wz) :: (o_wn a K wn) :: tl) (fun _ : Unit => e0 :: e1 :: e2 :: (o_W a w_rowSize w_at w_motion w_distances) :: e4 :: (o_wz a K wz) :: (o_wn a K wn) :: tl) (wp_W_number x1 wz wn Q) (fun r _ => Q r) := by
  refine my_of_I (by decide +kernel) (Nat.le_of_ble_eq_true rfl) (fun p e s m args below meth c A QQ H locs ls hx hb hts hown hml hK hX hA hP hD hS hl hw hret => ?_)
  replace hl : lv_has ls 2 [(0, .ref (a 3)), (1, .int x1)] := hl
  unfold wp_W_number at hw
  refine lv_aload_n hx hb d_W_number_0 rfl (lv_at hl 0 rfl) ?_
  refine lv_iload_n hx hb d_W_number_1 rfl (lv_at hl 1 rfl) ?_
  refine my_calli (va_runV (As := [.int x1]) (rest := []) ⟨hx, hb, hml, hown, hts⟩ (c_W_has l H.size) (cw_W_36 hts ⟨Nat.le_of_ble_eq_true rfl, Nat.le_of_ble_eq_true rfl⟩) (my_preV hK hP hX hD hS hA 3 rfl rfl hw) rfl rfl hl.1 rfl (lv_room (Nat.le_of_ble_eq_true rfl)) d_W_number_2 ⟨Nat.le_refl _, Nat.le_refl _⟩) hD hS hA (fun r2 _ H locs hw hP hD hS => ?_)
  have hP : va_P D cls (e0 :: e1 :: e2 :: (o_W a w_rowSize w_at w_motion w_distances) :: e4 :: (o_wz a K wz) :: (o_wn a K wn) :: tl) H := hP
  have hD : va_D A (e0 :: e1 :: e2 :: (o_W a w_rowSize w_at w_motion w_distances) :: e4 :: (o_wz a K wz) :: (o_wn a K wn) :: tl) := hD
  refine lv_if_eq (tgt := 17) hx hb d_W_number_5 (by decide) (fun hc => ?_) (fun hc => ?_)
  · replace hw := hw.1 hc
    refine lv_iconst (v := (0 : Int32)) hx hb d_W_number_17 (by decide) ?_
    exact hret H locs ls 18 ((0 : Int32)) (()) d_W_number_18 hP hD hS hw
  · replace hw := hw.2 hc
    refine lv_aload_n hx hb d_W_number_8 rfl (lv_at hl 0 rfl) ?_
    refine g_W_numbers hx hb hts hown hK hP 3 rfl rfl d_W_number_9 ?_
    refine lv_iload_n hx hb d_W_number_12 rfl (lv_at hl 1 rfl) ?_
    refine va_iald hx hb hK hP 6 3 rfl rfl hw.1 d_W_number_13 ?_
    replace hw := hw.2
    refine lv_goto (tgt := 18) hx hb d_W_number_14 (by decide) ?_
    exact hret H locs ls 18 (wn x1.toNatClampNeg) (()) d_W_number_18 hP hD hS hw
def wp_W_motion (w_motion : Int32) (Q : Int32 → Prop) : Prop := (Q w_motion)
abbrev rm_W_motion : Room := { frames := 0, cells := 0, slots := 0, locals := 0 }
set_option maxRecDepth 100000 in
set_option maxHeartbeats 4000000 in
theorem c_W_motion (l : Launch) {D : va_G} {X : xT} {a : Nat → Nat} {K : Nat → ClassId} {tl : va_W} {e0 e1 e2 : Nat × va_E} {w_rowSize w_at w_motion w_distances : Int32} {Q : Int32 → Prop} : MI l y_W_motion b_W_motion 1 rm_W_motion D cls (tys K) X [.ref (a 3)] (e0 :: e1 :: e2 :: (o_W a w_rowSize w_at w_motion w_distances) :: tl) (fun _ : Unit => e0 :: e1 :: e2 :: (o_W a w_rowSize w_at w_motion w_distances) :: tl) (wp_W_motion w_motion Q) (fun r _ => Q r) := by
  refine my_of_I (by decide +kernel) (Nat.le_of_ble_eq_true rfl) (fun p e s m args below meth c A QQ H locs ls hx hb hts hown hml hK hX hA hP hD hS hl hw hret => ?_)
  replace hl : lv_has ls 1 [(0, .ref (a 3))] := hl
  unfold wp_W_motion at hw
  refine lv_aload_n hx hb d_W_motion_0 rfl (lv_at hl 0 rfl) ?_
  refine g_W_motion hx hb hts hown hK hP 3 rfl rfl d_W_motion_1 ?_
  exact hret H locs ls 4 (w_motion) (()) d_W_motion_4 hP hD hS hw
def wp_W_distances (w_distances : Int32) (Q : Int32 → Prop) : Prop := (Q w_distances)
abbrev rm_W_distances : Room := { frames := 0, cells := 0, slots := 0, locals := 0 }
set_option maxRecDepth 100000 in
set_option maxHeartbeats 4000000 in
theorem c_W_distances (l : Launch) {D : va_G} {X : xT} {a : Nat → Nat} {K : Nat → ClassId} {tl : va_W} {e0 e1 e2 : Nat × va_E} {w_rowSize w_at w_motion w_distances : Int32} {Q : Int32 → Prop} : MI l y_W_distances b_W_distances 1 rm_W_distances D cls (tys K) X [.ref (a 3)] (e0 :: e1 :: e2 :: (o_W a w_rowSize w_at w_motion w_distances) :: tl) (fun _ : Unit => e0 :: e1 :: e2 :: (o_W a w_rowSize w_at w_motion w_distances) :: tl) (wp_W_distances w_distances Q) (fun r _ => Q r) := by
  refine my_of_I (by decide +kernel) (Nat.le_of_ble_eq_true rfl) (fun p e s m args below meth c A QQ H locs ls hx hb hts hown hml hK hX hA hP hD hS hl hw hret => ?_)
  replace hl : lv_has ls 1 [(0, .ref (a 3))] := hl
  unfold wp_W_distances at hw
  refine lv_aload_n hx hb d_W_distances_0 rfl (lv_at hl 0 rfl) ?_
  refine g_W_distances hx hb hts hown hK hP 3 rfl rfl d_W_distances_1 ?_
  exact hret H locs ls 4 (w_distances) (()) d_W_distances_4 hP hD hS hw
def wq_W_forget_2 (Q : Int32 → Int32 → (Nat → Int32) → Prop)  : Nat → Int32 → Int32 → Int32 → (Nat → Int32) → Prop
  | 0, _, _, _, _ => False
  | n2 + 1, x1, w_motion, w_distances, wz => (((7 : Int32) ≤ x1 → (Q (-1 : Int32) (-1 : Int32) wz)) ∧ (¬ (7 : Int32) ≤ x1 → (vp_in x1 7 ∧ (wq_W_forget_2 Q n2 (x1 + (1 : Int32)) w_motion w_distances (upd wz x1.toNatClampNeg (vp_nar .boolean (0 : Int32)))))))
def wp_W_forget (w_motion w_distances : Int32) (wz : Nat → Int32) (Q : Int32 → Int32 → (Nat → Int32) → Prop) : Prop := (∃ n2 : Nat, wq_W_forget_2 Q n2 (0 : Int32) w_motion w_distances wz)
abbrev rm_W_forget : Room := { frames := 0, cells := 0, slots := 0, locals := 0 }
set_option maxRecDepth 100000 in
set_option maxHeartbeats 4000000 in
theorem c_W_forget (l : Launch) {D : va_G} {X : xT} {a : Nat → Nat} {K : Nat → ClassId} {tl : va_W} {e0 e1 e2 e4 : Nat × va_E} {w_rowSize w_at w_motion w_distances : Int32} {wz : Nat → Int32} {Q : Int32 → Int32 → (Nat → Int32) → Prop} : MV l y_W_forget b_W_forget 2 rm_W_forget D cls (tys K) X [.ref (a 3)] (e0 :: e1 :: e2 :: (o_W a w_rowSize w_at w_motion w_distances) :: e4 :: (o_wz a K wz) :: tl) (fun u : Int32 × Int32 × (Nat → Int32) => e0 :: e1 :: e2 :: (o_W a w_rowSize w_at u.1 u.2.1) :: e4 :: (o_wz a K u.2.2) :: tl) (wp_W_forget w_motion w_distances wz Q) (fun u => Q u.1 u.2.1 u.2.2) := by
  refine my_of_V (by decide +kernel) (Nat.le_of_ble_eq_true rfl) (fun p e s m args below meth c A QQ H locs ls hx hb hts hown hml hK hX hA hP hD hS hl hw hret => ?_)
  replace hl : lv_has ls 2 [(0, .ref (a 3))] := hl
  have J2 : ∀ (n2 : Nat) (H : Heap) (locs : List Loc) (ls : Array Slot) (x1 w_motion w_distances : Int32) (wz : Nat → Int32), va_P D cls (e0 :: e1 :: e2 :: (o_W a w_rowSize w_at w_motion w_distances) :: e4 :: (o_wz a K wz) :: tl) H → va_D A (e0 :: e1 :: e2 :: (o_W a w_rowSize w_at w_motion w_distances) :: e4 :: (o_wz a K wz) :: tl) → va_S A s.heap H locs → lv_has ls 2 [(0, .ref (a 3)), (1, .int x1)] → wq_W_forget_2 Q n2 x1 w_motion w_distances wz → W p l e rm_W_forget s m args below meth c H locs 0 0 QQ (F0 m 2 ls []) := by
    intro n2
    induction n2 with
    | zero => intro H locs ls x1 w_motion w_distances wz hP hD hS hl hw; exact False.elim hw
    | succ n2 ih =>
      intro H locs ls x1 w_motion w_distances wz hP hD hS hl hw
      unfold wq_W_forget_2 at hw
      refine lv_iload_n hx hb d_W_forget_2 rfl (lv_at hl 1 rfl) ?_
      refine lv_bipush (v := (7 : Int32)) hx hb d_W_forget_3 (by decide) ?_
      refine lv_icmp_ge (tgt := 21) hx hb d_W_forget_5 (by decide) (fun hc => ?_) (fun hc => ?_)
      · replace hw := hw.1 hc
        refine lv_aload_n hx hb d_W_forget_21 rfl (lv_at hl 0 rfl) ?_
        refine lv_iconst (v := (-1 : Int32)) hx hb d_W_forget_22 (by decide) ?_
        refine u_W_motion hx hb hts hown hK hP hD hS 3 rfl rfl d_W_forget_23 (fun H locs hP hD hS => ?_)
        have hP : va_P D cls (e0 :: e1 :: e2 :: (o_W a w_rowSize w_at (-1 : Int32) w_distances) :: e4 :: (o_wz a K wz) :: tl) H := hP
        have hD : va_D A (e0 :: e1 :: e2 :: (o_W a w_rowSize w_at (-1 : Int32) w_distances) :: e4 :: (o_wz a K wz) :: tl) := hD
        refine lv_aload_n hx hb d_W_forget_26 rfl (lv_at hl 0 rfl) ?_
        refine lv_iconst (v := (-1 : Int32)) hx hb d_W_forget_27 (by decide) ?_
        refine u_W_distances hx hb hts hown hK hP hD hS 3 rfl rfl d_W_forget_28 (fun H locs hP hD hS => ?_)
        have hP : va_P D cls (e0 :: e1 :: e2 :: (o_W a w_rowSize w_at (-1 : Int32) (-1 : Int32)) :: e4 :: (o_wz a K wz) :: tl) H := hP
        have hD : va_D A (e0 :: e1 :: e2 :: (o_W a w_rowSize w_at (-1 : Int32) (-1 : Int32)) :: e4 :: (o_wz a K wz) :: tl) := hD
        exact hret H locs ls 31 (((-1 : Int32), (-1 : Int32), wz)) d_W_forget_31 hP hD hS hw
      · replace hw := hw.2 hc
        refine lv_aload_n hx hb d_W_forget_8 rfl (lv_at hl 0 rfl) ?_
        refine g_W_present hx hb hts hown hK hP 3 rfl rfl d_W_forget_9 ?_
        refine lv_iload_n hx hb d_W_forget_12 rfl (lv_at hl 1 rfl) ?_
        refine lv_iconst (v := (0 : Int32)) hx hb d_W_forget_13 (by decide) ?_
        refine va_zast hx hb hK hP hD hS 5 2 rfl rfl hw.1 d_W_forget_14 (fun H locs hP hD hS => ?_)
        replace hw := hw.2
        have hP : va_P D cls (e0 :: e1 :: e2 :: (o_W a w_rowSize w_at w_motion w_distances) :: e4 :: (o_wz a K (upd wz x1.toNatClampNeg (vp_nar .boolean (0 : Int32)))) :: tl) H := hP
        have hD : va_D A (e0 :: e1 :: e2 :: (o_W a w_rowSize w_at w_motion w_distances) :: e4 :: (o_wz a K (upd wz x1.toNatClampNeg (vp_nar .boolean (0 : Int32)))) :: tl) := hD
        refine lv_iinc (k := 1) (v := x1 + (1 : Int32)) (lv' := [(1, .int (x1 + (1 : Int32))), (0, .ref (a 3))]) hx hb d_W_forget_15 hl rfl (iinc_1 _) (Nat.le_of_ble_eq_true rfl) rfl (fun ls hl => ?_)
        refine lv_goto (tgt := 2) hx hb d_W_forget_18 (by decide) ?_
        exact ih H locs ls (x1 + (1 : Int32)) w_motion w_distances (upd wz x1.toNatClampNeg (vp_nar .boolean (0 : Int32))) hP hD hS (lv_sub hl [1, 0] rfl) hw
  unfold wp_W_forget at hw
  refine lv_iconst (v := (0 : Int32)) hx hb d_W_forget_0 (by decide) ?_
  refine lv_istore_n (lv' := [(1, .int (0 : Int32)), (0, .ref (a 3))]) hx hb d_W_forget_1 rfl hl (Nat.le_of_ble_eq_true rfl) rfl (fun ls hl => ?_)
  obtain ⟨n2, hw⟩ := hw
  exact J2 n2 H locs ls (0 : Int32) w_motion w_distances wz hP hD hS (lv_sub hl [1, 0] rfl) hw
def wq_W_takeRow_65 (Q : Int32 → Int32 → (Nat → Int32) → Prop) (K13 : Int32 → Int32 → Int32 → Int32 → (Nat → Int32) → Prop) (t_size : Int32) (tc : Nat → Int32) (x3 x4 w_rowSize w_at : Int32) (wr : Nat → Int32) : Prop := (K13 x3 (x4 + (1 : Int32)) w_rowSize w_at wr)
def wq_W_takeRow_13 (Q : Int32 → Int32 → (Nat → Int32) → Prop) (t_size : Int32) (tc : Nat → Int32) : Nat → Int32 → Int32 → Int32 → Int32 → (Nat → Int32) → Prop
  | 0, _, _, _, _, _ => False
  | n13 + 1, x3, x4, w_rowSize, w_at, wr => ((x3 ≤ x4 → (Q w_rowSize w_at wr)) ∧ (¬ x3 ≤ x4 → (((400 : Int32) ≤ w_rowSize → (Q w_rowSize w_at wr)) ∧ (¬ (400 : Int32) ≤ w_rowSize → (wp_T_codeAt x4 t_size tc (fun r32 => ((r32 = (32 : Int32) → (wq_W_takeRow_65 Q (fun x3 x4 w_rowSize w_at wr => wq_W_takeRow_13 Q t_size tc n13 x3 x4 w_rowSize w_at wr) t_size tc x3 x4 w_rowSize w_at wr)) ∧ (¬ r32 = (32 : Int32) → (wp_T_codeAt x4 t_size tc (fun r51 => (vp_in w_rowSize 400 ∧ (wq_W_takeRow_65 Q (fun x3 x4 w_rowSize w_at wr => wq_W_takeRow_13 Q t_size tc n13 x3 x4 w_rowSize w_at wr) t_size tc x3 x4 (w_rowSize + (1 : Int32)) w_at (upd wr w_rowSize.toNatClampNeg (vp_nar .char r51))))))))))))))
def wp_W_takeRow (x2 x3 t_size : Int32) (tc : Nat → Int32) (w_rowSize w_at : Int32) (wr : Nat → Int32) (Q : Int32 → Int32 → (Nat → Int32) → Prop) : Prop := (∃ n13 : Nat, wq_W_takeRow_13 Q t_size tc n13 x3 x2 (0 : Int32) (0 : Int32) wr)
abbrev rm_W_takeRow : Room := { frames := 1, cells := 0, slots := 0, locals := 21 }
set_option maxRecDepth 100000 in
set_option maxHeartbeats 4000000 in
theorem c_W_takeRow (l : Launch) {D : va_G} {X : xT} {a : Nat → Nat} {K : Nat → ClassId} {tl : va_W} {e0 : Nat × va_E} {x2 x3 t_size : Int32} {tc : Nat → Int32} {w_rowSize w_at w_motion w_distances : Int32} {wr : Nat → Int32} {Q : Int32 → Int32 → (Nat → Int32) → Prop} : MV l y_W_takeRow b_W_takeRow 5 rm_W_takeRow D cls (tys K) X [.ref (a 3), .ref (a 1), .int x2, .int x3] (e0 :: (o_T a t_size) :: (o_tc a K tc) :: (o_W a w_rowSize w_at w_motion w_distances) :: (o_wr a K wr) :: tl) (fun u : Int32 × Int32 × (Nat → Int32) => e0 :: (o_T a t_size) :: (o_tc a K tc) :: (o_W a u.1 u.2.1 w_motion w_distances) :: (o_wr a K u.2.2) :: tl) (wp_W_takeRow x2 x3 t_size tc w_rowSize w_at wr Q) (fun u => Q u.1 u.2.1 u.2.2) := by
  refine my_of_V (by decide +kernel) (Nat.le_of_ble_eq_true rfl) (fun p e s m args below meth c A QQ H locs ls hx hb hts hown hml hK hX hA hP hD hS hl hw hret => ?_)
  replace hl : lv_has ls 5 [(0, .ref (a 3)), (1, .ref (a 1)), (2, .int x2), (3, .int x3)] := hl
  have J65 : ∀ (K13 : Int32 → Int32 → Int32 → Int32 → (Nat → Int32) → Prop) (hK13 : ∀ (H : Heap) (locs : List Loc) (ls : Array Slot) (x3 x4 w_rowSize w_at : Int32) (wr : Nat → Int32), va_P D cls (e0 :: (o_T a t_size) :: (o_tc a K tc) :: (o_W a w_rowSize w_at w_motion w_distances) :: (o_wr a K wr) :: tl) H → va_D A (e0 :: (o_T a t_size) :: (o_tc a K tc) :: (o_W a w_rowSize w_at w_motion w_distances) :: (o_wr a K wr) :: tl) → va_S A s.heap H locs → lv_has ls 5 [(0, .ref (a 3)), (1, .ref (a 1)), (3, .int x3), (4, .int x4)] → K13 x3 x4 w_rowSize w_at wr → W p l e rm_W_takeRow s m args below meth c H locs 0 0 QQ (F0 m 13 ls [])) (H : Heap) (locs : List Loc) (ls : Array Slot) (x3 x4 w_rowSize w_at : Int32) (wr : Nat → Int32), va_P D cls (e0 :: (o_T a t_size) :: (o_tc a K tc) :: (o_W a w_rowSize w_at w_motion w_distances) :: (o_wr a K wr) :: tl) H → va_D A (e0 :: (o_T a t_size) :: (o_tc a K tc) :: (o_W a w_rowSize w_at w_motion w_distances) :: (o_wr a K wr) :: tl) → va_S A s.heap H locs → lv_has ls 5 [(0, .ref (a 3)), (1, .ref (a 1)), (3, .int x3), (4, .int x4)] → wq_W_takeRow_65 Q K13 t_size tc x3 x4 w_rowSize w_at wr → W p l e rm_W_takeRow s m args below meth c H locs 0 0 QQ (F0 m 65 ls []) := by
    intro K13 hK13 H locs ls x3 x4 w_rowSize w_at wr hP hD hS hl hw
    unfold wq_W_takeRow_65 at hw
    refine lv_iinc (k := 3) (v := x4 + (1 : Int32)) (lv' := [(4, .int (x4 + (1 : Int32))), (0, .ref (a 3)), (1, .ref (a 1)), (3, .int x3)]) hx hb d_W_takeRow_65 hl rfl (iinc_1 _) (Nat.le_of_ble_eq_true rfl) rfl (fun ls hl => ?_)
    refine lv_goto (tgt := 13) hx hb d_W_takeRow_68 (by decide) ?_
    exact hK13 H locs ls x3 (x4 + (1 : Int32)) w_rowSize w_at wr hP hD hS (lv_sub hl [1, 2, 3, 0] rfl) hw
  have J13 : ∀ (n13 : Nat) (H : Heap) (locs : List Loc) (ls : Array Slot) (x3 x4 w_rowSize w_at : Int32) (wr : Nat → Int32), va_P D cls (e0 :: (o_T a t_size) :: (o_tc a K tc) :: (o_W a w_rowSize w_at w_motion w_distances) :: (o_wr a K wr) :: tl) H → va_D A (e0 :: (o_T a t_size) :: (o_tc a K tc) :: (o_W a w_rowSize w_at w_motion w_distances) :: (o_wr a K wr) :: tl) → va_S A s.heap H locs → lv_has ls 5 [(0, .ref (a 3)), (1, .ref (a 1)), (3, .int x3), (4, .int x4)] → wq_W_takeRow_13 Q t_size tc n13 x3 x4 w_rowSize w_at wr → W p l e rm_W_takeRow s m args below meth c H locs 0 0 QQ (F0 m 13 ls []) := by
    intro n13
    induction n13 with
    | zero => intro H locs ls x3 x4 w_rowSize w_at wr hP hD hS hl hw; exact False.elim hw
    | succ n13 ih =>
      intro H locs ls x3 x4 w_rowSize w_at wr hP hD hS hl hw
      unfold wq_W_takeRow_13 at hw
      refine lv_iload hx hb d_W_takeRow_13 (lv_at hl 3 rfl) ?_
      refine lv_iload_n hx hb d_W_takeRow_15 rfl (lv_at hl 2 rfl) ?_
      refine lv_icmp_ge (tgt := 71) hx hb d_W_takeRow_16 (by decide) (fun hc => ?_) (fun hc => ?_)
      · replace hw := hw.1 hc
        exact hret H locs ls 71 ((w_rowSize, w_at, wr)) d_W_takeRow_71 hP hD hS hw
      · replace hw := hw.2 hc
        refine lv_aload_n hx hb d_W_takeRow_19 rfl (lv_at hl 0 rfl) ?_
        refine g_W_rowSize hx hb hts hown hK hP 3 rfl rfl d_W_takeRow_20 ?_
        refine lv_sipush (v := (400 : Int32)) hx hb d_W_takeRow_23 (by decide) ?_
        refine lv_icmp_ge (tgt := 71) hx hb d_W_takeRow_26 (by decide) (fun hc => ?_) (fun hc => ?_)
        · replace hw := hw.1 hc
          exact hret H locs ls 71 ((w_rowSize, w_at, wr)) d_W_takeRow_71 hP hD hS hw
        · replace hw := hw.2 hc
          refine lv_aload_n hx hb d_W_takeRow_29 rfl (lv_at hl 1 rfl) ?_
          refine lv_iload hx hb d_W_takeRow_30 (lv_at hl 3 rfl) ?_
          refine my_calli (va_runV (As := [.int x4]) (rest := []) ⟨hx, hb, hml, hown, hts⟩ (c_T_codeAt l H.size) (cw_W_51 hts ⟨Nat.le_of_ble_eq_true rfl, Nat.le_of_ble_eq_true rfl⟩) (my_preV hK hP hX hD hS hA 1 rfl rfl hw) rfl rfl hl.1 rfl (lv_room (Nat.le_of_ble_eq_true rfl)) d_W_takeRow_32 ⟨Nat.le_refl _, Nat.le_refl _⟩) hD hS hA (fun r32 _ H locs hw hP hD hS => ?_)
          have hP : va_P D cls (e0 :: (o_T a t_size) :: (o_tc a K tc) :: (o_W a w_rowSize w_at w_motion w_distances) :: (o_wr a K wr) :: tl) H := hP
          have hD : va_D A (e0 :: (o_T a t_size) :: (o_tc a K tc) :: (o_W a w_rowSize w_at w_motion w_distances) :: (o_wr a K wr) :: tl) := hD
          refine lv_bipush (v := (32 : Int32)) hx hb d_W_takeRow_35 (by decide) ?_
          refine lv_icmp_eq (tgt := 65) hx hb d_W_takeRow_37 (by decide) (fun hc => ?_) (fun hc => ?_)
          · replace hw := hw.1 hc
            exact J65 (fun x3 x4 w_rowSize w_at wr => wq_W_takeRow_13 Q t_size tc n13 x3 x4 w_rowSize w_at wr) ih H locs ls x3 x4 w_rowSize w_at wr hP hD hS (lv_sub hl [0, 1, 2, 3] rfl) hw
          · replace hw := hw.2 hc
            refine lv_aload_n hx hb d_W_takeRow_40 rfl (lv_at hl 0 rfl) ?_
            refine g_W_row hx hb hts hown hK hP 3 rfl rfl d_W_takeRow_41 ?_
            refine lv_aload_n hx hb d_W_takeRow_44 rfl (lv_at hl 0 rfl) ?_
            refine g_W_rowSize hx hb hts hown hK hP 3 rfl rfl d_W_takeRow_45 ?_
            refine lv_aload_n hx hb d_W_takeRow_48 rfl (lv_at hl 1 rfl) ?_
            refine lv_iload hx hb d_W_takeRow_49 (lv_at hl 3 rfl) ?_
            refine my_calli (va_runV (As := [.int x4]) (rest := [.int w_rowSize, .ref (a 4)]) ⟨hx, hb, hml, hown, hts⟩ (c_T_codeAt l H.size) (cw_W_51 hts ⟨Nat.le_of_ble_eq_true rfl, Nat.le_of_ble_eq_true rfl⟩) (my_preV hK hP hX hD hS hA 1 rfl rfl hw) rfl rfl hl.1 rfl (lv_room (Nat.le_of_ble_eq_true rfl)) d_W_takeRow_51 ⟨Nat.le_refl _, Nat.le_refl _⟩) hD hS hA (fun r51 _ H locs hw hP hD hS => ?_)
            have hP : va_P D cls (e0 :: (o_T a t_size) :: (o_tc a K tc) :: (o_W a w_rowSize w_at w_motion w_distances) :: (o_wr a K wr) :: tl) H := hP
            have hD : va_D A (e0 :: (o_T a t_size) :: (o_tc a K tc) :: (o_W a w_rowSize w_at w_motion w_distances) :: (o_wr a K wr) :: tl) := hD
            refine va_cast hx hb hK hP hD hS 4 1 rfl rfl hw.1 d_W_takeRow_54 (fun H locs hP hD hS => ?_)
            replace hw := hw.2
            have hP : va_P D cls (e0 :: (o_T a t_size) :: (o_tc a K tc) :: (o_W a w_rowSize w_at w_motion w_distances) :: (o_wr a K (upd wr w_rowSize.toNatClampNeg (vp_nar .char r51))) :: tl) H := hP
            have hD : va_D A (e0 :: (o_T a t_size) :: (o_tc a K tc) :: (o_W a w_rowSize w_at w_motion w_distances) :: (o_wr a K (upd wr w_rowSize.toNatClampNeg (vp_nar .char r51))) :: tl) := hD
            refine lv_aload_n hx hb d_W_takeRow_55 rfl (lv_at hl 0 rfl) ?_
            refine lv_dup hx hb d_W_takeRow_56 rfl ?_
            refine g_W_rowSize hx hb hts hown hK hP 3 rfl rfl d_W_takeRow_57 ?_
            refine lv_iconst (v := (1 : Int32)) hx hb d_W_takeRow_60 (by decide) ?_
            refine lv_iadd hx hb d_W_takeRow_61 ?_
            refine u_W_rowSize hx hb hts hown hK hP hD hS 3 rfl rfl d_W_takeRow_62 (fun H locs hP hD hS => ?_)
            have hP : va_P D cls (e0 :: (o_T a t_size) :: (o_tc a K tc) :: (o_W a (w_rowSize + (1 : Int32)) w_at w_motion w_distances) :: (o_wr a K (upd wr w_rowSize.toNatClampNeg (vp_nar .char r51))) :: tl) H := hP
            have hD : va_D A (e0 :: (o_T a t_size) :: (o_tc a K tc) :: (o_W a (w_rowSize + (1 : Int32)) w_at w_motion w_distances) :: (o_wr a K (upd wr w_rowSize.toNatClampNeg (vp_nar .char r51))) :: tl) := hD
            exact J65 (fun x3 x4 w_rowSize w_at wr => wq_W_takeRow_13 Q t_size tc n13 x3 x4 w_rowSize w_at wr) ih H locs ls x3 x4 (w_rowSize + (1 : Int32)) w_at (upd wr w_rowSize.toNatClampNeg (vp_nar .char r51)) hP hD hS (lv_sub hl [0, 1, 2, 3] rfl) hw
  unfold wp_W_takeRow at hw
  refine lv_aload_n hx hb d_W_takeRow_0 rfl (lv_at hl 0 rfl) ?_
  refine lv_iconst (v := (0 : Int32)) hx hb d_W_takeRow_1 (by decide) ?_
  refine u_W_at hx hb hts hown hK hP hD hS 3 rfl rfl d_W_takeRow_2 (fun H locs hP hD hS => ?_)
  have hP : va_P D cls (e0 :: (o_T a t_size) :: (o_tc a K tc) :: (o_W a w_rowSize (0 : Int32) w_motion w_distances) :: (o_wr a K wr) :: tl) H := hP
  have hD : va_D A (e0 :: (o_T a t_size) :: (o_tc a K tc) :: (o_W a w_rowSize (0 : Int32) w_motion w_distances) :: (o_wr a K wr) :: tl) := hD
  refine lv_aload_n hx hb d_W_takeRow_5 rfl (lv_at hl 0 rfl) ?_
  refine lv_iconst (v := (0 : Int32)) hx hb d_W_takeRow_6 (by decide) ?_
  refine u_W_rowSize hx hb hts hown hK hP hD hS 3 rfl rfl d_W_takeRow_7 (fun H locs hP hD hS => ?_)
  have hP : va_P D cls (e0 :: (o_T a t_size) :: (o_tc a K tc) :: (o_W a (0 : Int32) (0 : Int32) w_motion w_distances) :: (o_wr a K wr) :: tl) H := hP
  have hD : va_D A (e0 :: (o_T a t_size) :: (o_tc a K tc) :: (o_W a (0 : Int32) (0 : Int32) w_motion w_distances) :: (o_wr a K wr) :: tl) := hD
  refine lv_iload_n hx hb d_W_takeRow_10 rfl (lv_at hl 2 rfl) ?_
  refine lv_istore (lv' := [(4, .int x2), (0, .ref (a 3)), (1, .ref (a 1)), (2, .int x2), (3, .int x3)]) hx hb d_W_takeRow_11 hl (Nat.le_of_ble_eq_true rfl) rfl (fun ls hl => ?_)
  obtain ⟨n13, hw⟩ := hw
  exact J13 n13 H locs ls x3 x2 (0 : Int32) (0 : Int32) wr hP hD hS (lv_sub hl [1, 2, 4, 0] rfl) hw
def wp_W_peek (w_rowSize w_at : Int32) (wr : Nat → Int32) (Q : Int32 → Prop) : Prop := ((w_rowSize ≤ w_at → (Q (0 : Int32))) ∧ (¬ w_rowSize ≤ w_at → (vp_in w_at 400 ∧ (cZ (wr w_at.toNatClampNeg) ∧ Q (wr w_at.toNatClampNeg)))))
abbrev rm_W_peek : Room := { frames := 0, cells := 0, slots := 0, locals := 0 }
set_option maxRecDepth 100000 in
set_option maxHeartbeats 4000000 in
theorem c_W_peek (l : Launch) {D : va_G} {X : xT} {a : Nat → Nat} {K : Nat → ClassId} {tl : va_W} {e0 e1 e2 : Nat × va_E} {w_rowSize w_at w_motion w_distances : Int32} {wr : Nat → Int32} {Q : Int32 → Prop} : MC l y_W_peek b_W_peek 1 rm_W_peek D cls (tys K) X [.ref (a 3)] (e0 :: e1 :: e2 :: (o_W a w_rowSize w_at w_motion w_distances) :: (o_wr a K wr) :: tl) (fun _ : Unit => e0 :: e1 :: e2 :: (o_W a w_rowSize w_at w_motion w_distances) :: (o_wr a K wr) :: tl) (wp_W_peek w_rowSize w_at wr Q) (fun r _ => Q r) := by
  refine my_of_C (by decide +kernel) (Nat.le_of_ble_eq_true rfl) (fun p e s m args below meth c A QQ H locs ls hx hb hts hown hml hK hX hA hP hD hS hl hw hret => ?_)
  replace hl : lv_has ls 1 [(0, .ref (a 3))] := hl
  unfold wp_W_peek at hw
  refine lv_aload_n hx hb d_W_peek_0 rfl (lv_at hl 0 rfl) ?_
  refine g_W_at hx hb hts hown hK hP 3 rfl rfl d_W_peek_1 ?_
  refine lv_aload_n hx hb d_W_peek_4 rfl (lv_at hl 0 rfl) ?_
  refine g_W_rowSize hx hb hts hown hK hP 3 rfl rfl d_W_peek_5 ?_
  refine lv_icmp_ge (tgt := 23) hx hb d_W_peek_8 (by decide) (fun hc => ?_) (fun hc => ?_)
  · replace hw := hw.1 hc
    refine lv_iconst (v := (0 : Int32)) hx hb d_W_peek_23 (by decide) ?_
    exact hret H locs ls 24 ((0 : Int32)) (()) d_W_peek_24 (by unfold cZ; decide +kernel) hP hD hS hw
  · replace hw := hw.2 hc
    refine lv_aload_n hx hb d_W_peek_11 rfl (lv_at hl 0 rfl) ?_
    refine g_W_row hx hb hts hown hK hP 3 rfl rfl d_W_peek_12 ?_
    refine lv_aload_n hx hb d_W_peek_15 rfl (lv_at hl 0 rfl) ?_
    refine g_W_at hx hb hts hown hK hP 3 rfl rfl d_W_peek_16 ?_
    refine va_cald hx hb hK hP 4 1 rfl rfl hw.1 d_W_peek_19 ?_
    replace hw := hw.2
    refine lv_goto (tgt := 24) hx hb d_W_peek_20 (by decide) ?_
    exact hret H locs ls 24 (wr w_at.toNatClampNeg) (()) d_W_peek_24 hw.1 hP hD hS hw.2
def wq_W_isSigned_20 (Q : Int32 → Prop)  : Prop := (Q (1 : Int32))
def wp_W_isSigned (x0 : Int32) (Q : Int32 → Prop) : Prop := ((x0 = (2 : Int32) → (wq_W_isSigned_20 Q )) ∧ (¬ x0 = (2 : Int32) → ((x0 = (3 : Int32) → (wq_W_isSigned_20 Q )) ∧ (¬ x0 = (3 : Int32) → ((x0 = (4 : Int32) → (wq_W_isSigned_20 Q )) ∧ (¬ x0 = (4 : Int32) → ((¬ x0 = (5 : Int32) → (Q (0 : Int32))) ∧ (x0 = (5 : Int32) → (wq_W_isSigned_20 Q )))))))))
abbrev rm_W_isSigned : Room := { frames := 0, cells := 0, slots := 0, locals := 0 }
set_option maxRecDepth 100000 in
set_option maxHeartbeats 4000000 in
theorem c_W_isSigned (l : Launch) {D : va_G} {X : xT} {K : Nat → ClassId} {tl : va_W} {x0 : Int32} {Q : Int32 → Prop} : MZ l y_W_isSigned b_W_isSigned 1 rm_W_isSigned D cls (tys K) X [.int x0] (tl) (fun _ : Unit => tl) (wp_W_isSigned x0 Q) (fun r _ => Q r) := by
  refine my_of_Z (by decide +kernel) (Nat.le_of_ble_eq_true rfl) (fun p e s m args below meth c A QQ H locs ls hx hb hts hown hml hK hX hA hP hD hS hl hw hret => ?_)
  replace hl : lv_has ls 1 [(0, .int x0)] := hl
  have J20 : ∀ (H : Heap) (locs : List Loc) (ls : Array Slot) , va_P D cls (tl) H → va_D A (tl) → va_S A s.heap H locs → lv_has ls 1 [] → wq_W_isSigned_20 Q → W p l e rm_W_isSigned s m args below meth c H locs 0 0 QQ (F0 m 20 ls []) := by
    intro H locs ls  hP hD hS hl hw
    unfold wq_W_isSigned_20 at hw
    refine lv_iconst (v := (1 : Int32)) hx hb d_W_isSigned_20 (by decide) ?_
    refine lv_goto (tgt := 25) hx hb d_W_isSigned_21 (by decide) ?_
    exact hret H locs ls 25 ((1 : Int32)) (()) d_W_isSigned_25 (Or.inr rfl) hP hD hS hw
  unfold wp_W_isSigned at hw
  refine lv_iload_n hx hb d_W_isSigned_0 rfl (lv_at hl 0 rfl) ?_
  refine lv_iconst (v := (2 : Int32)) hx hb d_W_isSigned_1 (by decide) ?_
  refine lv_icmp_eq (tgt := 20) hx hb d_W_isSigned_2 (by decide) (fun hc => ?_) (fun hc => ?_)
  · replace hw := hw.1 hc
    exact J20 H locs ls  hP hD hS (lv_sub hl [] rfl) hw
  · replace hw := hw.2 hc
    refine lv_iload_n hx hb d_W_isSigned_5 rfl (lv_at hl 0 rfl) ?_
    refine lv_iconst (v := (3 : Int32)) hx hb d_W_isSigned_6 (by decide) ?_
    refine lv_icmp_eq (tgt := 20) hx hb d_W_isSigned_7 (by decide) (fun hc => ?_) (fun hc => ?_)
    · replace hw := hw.1 hc
      exact J20 H locs ls  hP hD hS (lv_sub hl [] rfl) hw
    · replace hw := hw.2 hc
      refine lv_iload_n hx hb d_W_isSigned_10 rfl (lv_at hl 0 rfl) ?_
      refine lv_iconst (v := (4 : Int32)) hx hb d_W_isSigned_11 (by decide) ?_
      refine lv_icmp_eq (tgt := 20) hx hb d_W_isSigned_12 (by decide) (fun hc => ?_) (fun hc => ?_)
      · replace hw := hw.1 hc
        exact J20 H locs ls  hP hD hS (lv_sub hl [] rfl) hw
      · replace hw := hw.2 hc
        refine lv_iload_n hx hb d_W_isSigned_15 rfl (lv_at hl 0 rfl) ?_
        refine lv_iconst (v := (5 : Int32)) hx hb d_W_isSigned_16 (by decide) ?_
        refine lv_icmp_ne (tgt := 24) hx hb d_W_isSigned_17 (by decide) (fun hc => ?_) (fun hc => ?_)
        · replace hw := hw.1 hc
          refine lv_iconst (v := (0 : Int32)) hx hb d_W_isSigned_24 (by decide) ?_
          exact hret H locs ls 25 ((0 : Int32)) (()) d_W_isSigned_25 (Or.inl rfl) hP hD hS hw
        · replace hw := hw.2 hc
          exact J20 H locs ls  hP hD hS (lv_sub hl [] rfl) hw
def wp_W_isDigit (x0 : Int32) (Q : Int32 → Prop) : Prop := ((x0 < (48 : Int32) → (Q (0 : Int32))) ∧ (¬ x0 < (48 : Int32) → (((57 : Int32) < x0 → (Q (0 : Int32))) ∧ (¬ (57 : Int32) < x0 → (Q (1 : Int32))))))
abbrev rm_W_isDigit : Room := { frames := 0, cells := 0, slots := 0, locals := 0 }
set_option maxRecDepth 100000 in
set_option maxHeartbeats 4000000 in
theorem c_W_isDigit (l : Launch) {D : va_G} {X : xT} {K : Nat → ClassId} {tl : va_W} {x0 : Int32} {Q : Int32 → Prop} : MZ l y_W_isDigit b_W_isDigit 1 rm_W_isDigit D cls (tys K) X [.int x0] (tl) (fun _ : Unit => tl) (wp_W_isDigit x0 Q) (fun r _ => Q r) := by
  refine my_of_Z (by decide +kernel) (Nat.le_of_ble_eq_true rfl) (fun p e s m args below meth c A QQ H locs ls hx hb hts hown hml hK hX hA hP hD hS hl hw hret => ?_)
  replace hl : lv_has ls 1 [(0, .int x0)] := hl
  unfold wp_W_isDigit at hw
  refine lv_iload_n hx hb d_W_isDigit_0 rfl (lv_at hl 0 rfl) ?_
  refine lv_bipush (v := (48 : Int32)) hx hb d_W_isDigit_1 (by decide) ?_
  refine lv_icmp_lt (tgt := 16) hx hb d_W_isDigit_3 (by decide) (fun hc => ?_) (fun hc => ?_)
  · replace hw := hw.1 hc
    refine lv_iconst (v := (0 : Int32)) hx hb d_W_isDigit_16 (by decide) ?_
    exact hret H locs ls 17 ((0 : Int32)) (()) d_W_isDigit_17 (Or.inl rfl) hP hD hS hw
  · replace hw := hw.2 hc
    refine lv_iload_n hx hb d_W_isDigit_6 rfl (lv_at hl 0 rfl) ?_
    refine lv_bipush (v := (57 : Int32)) hx hb d_W_isDigit_7 (by decide) ?_
    refine lv_icmp_gt (tgt := 16) hx hb d_W_isDigit_9 (by decide) (fun hc => ?_) (fun hc => ?_)
    · replace hw := hw.1 hc
      refine lv_iconst (v := (0 : Int32)) hx hb d_W_isDigit_16 (by decide) ?_
      exact hret H locs ls 17 ((0 : Int32)) (()) d_W_isDigit_17 (Or.inl rfl) hP hD hS hw
    · replace hw := hw.2 hc
      refine lv_iconst (v := (1 : Int32)) hx hb d_W_isDigit_12 (by decide) ?_
      refine lv_goto (tgt := 17) hx hb d_W_isDigit_13 (by decide) ?_
      exact hret H locs ls 17 ((1 : Int32)) (()) d_W_isDigit_17 (Or.inr rfl) hP hD hS hw
def wq_W_keepG_39 (Q : Int32 → Int32 → Int32 → Prop) (x1 w_motion w_distances : Int32) : Prop := ((w_distances = (-1 : Int32) → (Q (0 : Int32) w_motion x1)) ∧ (¬ w_distances = (-1 : Int32) → (Q (103 : Int32) w_motion w_distances)))
def wq_W_keepG_27 (Q : Int32 → Int32 → Int32 → Prop) (x1 w_motion w_distances : Int32) : Prop := ((x1 = (90 : Int32) → (wq_W_keepG_39 Q x1 w_motion w_distances)) ∧ (¬ x1 = (90 : Int32) → ((¬ x1 = (91 : Int32) → (Q (102 : Int32) w_motion w_distances)) ∧ (x1 = (91 : Int32) → (wq_W_keepG_39 Q x1 w_motion w_distances)))))
def wp_W_keepG (x1 w_motion w_distances : Int32) (Q : Int32 → Int32 → Int32 → Prop) : Prop := ((x1 < 0 → (wq_W_keepG_27 Q x1 w_motion w_distances)) ∧ (¬ x1 < 0 → (((3 : Int32) < x1 → (wq_W_keepG_27 Q x1 w_motion w_distances)) ∧ (¬ (3 : Int32) < x1 → ((w_motion = (-1 : Int32) → (Q (0 : Int32) x1 w_distances)) ∧ (¬ w_motion = (-1 : Int32) → (Q (103 : Int32) w_motion w_distances)))))))
abbrev rm_W_keepG : Room := { frames := 0, cells := 0, slots := 0, locals := 0 }
set_option maxRecDepth 100000 in
set_option maxHeartbeats 4000000 in
theorem c_W_keepG (l : Launch) {D : va_G} {X : xT} {a : Nat → Nat} {K : Nat → ClassId} {tl : va_W} {e0 e1 e2 : Nat × va_E} {x1 w_rowSize w_at w_motion w_distances : Int32} {Q : Int32 → Int32 → Int32 → Prop} : MI l y_W_keepG b_W_keepG 2 rm_W_keepG D cls (tys K) X [.ref (a 3), .int x1] (e0 :: e1 :: e2 :: (o_W a w_rowSize w_at w_motion w_distances) :: tl) (fun u : Int32 × Int32 => e0 :: e1 :: e2 :: (o_W a w_rowSize w_at u.1 u.2) :: tl) (wp_W_keepG x1 w_motion w_distances Q) (fun r u => Q r u.1 u.2) := by
  refine my_of_I (by decide +kernel) (Nat.le_of_ble_eq_true rfl) (fun p e s m args below meth c A QQ H locs ls hx hb hts hown hml hK hX hA hP hD hS hl hw hret => ?_)
  replace hl : lv_has ls 2 [(0, .ref (a 3)), (1, .int x1)] := hl
  have J39 : ∀ (H : Heap) (locs : List Loc) (ls : Array Slot) (x1 w_motion w_distances : Int32), va_P D cls (e0 :: e1 :: e2 :: (o_W a w_rowSize w_at w_motion w_distances) :: tl) H → va_D A (e0 :: e1 :: e2 :: (o_W a w_rowSize w_at w_motion w_distances) :: tl) → va_S A s.heap H locs → lv_has ls 2 [(0, .ref (a 3)), (1, .int x1)] → wq_W_keepG_39 Q x1 w_motion w_distances → W p l e rm_W_keepG s m args below meth c H locs 0 0 QQ (F0 m 39 ls []) := by
    intro H locs ls x1 w_motion w_distances hP hD hS hl hw
    unfold wq_W_keepG_39 at hw
    refine lv_aload_n hx hb d_W_keepG_39 rfl (lv_at hl 0 rfl) ?_
    refine g_W_distances hx hb hts hown hK hP 3 rfl rfl d_W_keepG_40 ?_
    refine lv_iconst (v := (-1 : Int32)) hx hb d_W_keepG_43 (by decide) ?_
    refine lv_icmp_eq (tgt := 50) hx hb d_W_keepG_44 (by decide) (fun hc => ?_) (fun hc => ?_)
    · replace hw := hw.1 hc
      refine lv_aload_n hx hb d_W_keepG_50 rfl (lv_at hl 0 rfl) ?_
      refine lv_iload_n hx hb d_W_keepG_51 rfl (lv_at hl 1 rfl) ?_
      refine u_W_distances hx hb hts hown hK hP hD hS 3 rfl rfl d_W_keepG_52 (fun H locs hP hD hS => ?_)
      have hP : va_P D cls (e0 :: e1 :: e2 :: (o_W a w_rowSize w_at w_motion x1) :: tl) H := hP
      have hD : va_D A (e0 :: e1 :: e2 :: (o_W a w_rowSize w_at w_motion x1) :: tl) := hD
      refine lv_iconst (v := (0 : Int32)) hx hb d_W_keepG_55 (by decide) ?_
      exact hret H locs ls 56 ((0 : Int32)) ((w_motion, x1)) d_W_keepG_56 hP hD hS hw
    · replace hw := hw.2 hc
      refine lv_bipush (v := (103 : Int32)) hx hb d_W_keepG_47 (by decide) ?_
      exact hret H locs ls 49 ((103 : Int32)) ((w_motion, w_distances)) d_W_keepG_49 hP hD hS hw
  have J27 : ∀ (H : Heap) (locs : List Loc) (ls : Array Slot) (x1 w_motion w_distances : Int32), va_P D cls (e0 :: e1 :: e2 :: (o_W a w_rowSize w_at w_motion w_distances) :: tl) H → va_D A (e0 :: e1 :: e2 :: (o_W a w_rowSize w_at w_motion w_distances) :: tl) → va_S A s.heap H locs → lv_has ls 2 [(0, .ref (a 3)), (1, .int x1)] → wq_W_keepG_27 Q x1 w_motion w_distances → W p l e rm_W_keepG s m args below meth c H locs 0 0 QQ (F0 m 27 ls []) := by
    intro H locs ls x1 w_motion w_distances hP hD hS hl hw
    unfold wq_W_keepG_27 at hw
    refine lv_iload_n hx hb d_W_keepG_27 rfl (lv_at hl 1 rfl) ?_
    refine lv_bipush (v := (90 : Int32)) hx hb d_W_keepG_28 (by decide) ?_
    refine lv_icmp_eq (tgt := 39) hx hb d_W_keepG_30 (by decide) (fun hc => ?_) (fun hc => ?_)
    · replace hw := hw.1 hc
      exact J39 H locs ls x1 w_motion w_distances hP hD hS (lv_sub hl [0, 1] rfl) hw
    · replace hw := hw.2 hc
      refine lv_iload_n hx hb d_W_keepG_33 rfl (lv_at hl 1 rfl) ?_
      refine lv_bipush (v := (91 : Int32)) hx hb d_W_keepG_34 (by decide) ?_
      refine lv_icmp_ne (tgt := 57) hx hb d_W_keepG_36 (by decide) (fun hc => ?_) (fun hc => ?_)
      · replace hw := hw.1 hc
        refine lv_bipush (v := (102 : Int32)) hx hb d_W_keepG_57 (by decide) ?_
        exact hret H locs ls 59 ((102 : Int32)) ((w_motion, w_distances)) d_W_keepG_59 hP hD hS hw
      · replace hw := hw.2 hc
        exact J39 H locs ls x1 w_motion w_distances hP hD hS (lv_sub hl [0, 1] rfl) hw
  unfold wp_W_keepG at hw
  refine lv_iload_n hx hb d_W_keepG_0 rfl (lv_at hl 1 rfl) ?_
  refine lv_if_lt (tgt := 27) hx hb d_W_keepG_1 (by decide) (fun hc => ?_) (fun hc => ?_)
  · replace hw := hw.1 hc
    exact J27 H locs ls x1 w_motion w_distances hP hD hS (lv_sub hl [0, 1] rfl) hw
  · replace hw := hw.2 hc
    refine lv_iload_n hx hb d_W_keepG_4 rfl (lv_at hl 1 rfl) ?_
    refine lv_iconst (v := (3 : Int32)) hx hb d_W_keepG_5 (by decide) ?_
    refine lv_icmp_gt (tgt := 27) hx hb d_W_keepG_6 (by decide) (fun hc => ?_) (fun hc => ?_)
    · replace hw := hw.1 hc
      exact J27 H locs ls x1 w_motion w_distances hP hD hS (lv_sub hl [0, 1] rfl) hw
    · replace hw := hw.2 hc
      refine lv_aload_n hx hb d_W_keepG_9 rfl (lv_at hl 0 rfl) ?_
      refine g_W_motion hx hb hts hown hK hP 3 rfl rfl d_W_keepG_10 ?_
      refine lv_iconst (v := (-1 : Int32)) hx hb d_W_keepG_13 (by decide) ?_
      refine lv_icmp_eq (tgt := 20) hx hb d_W_keepG_14 (by decide) (fun hc => ?_) (fun hc => ?_)
      · replace hw := hw.1 hc
        refine lv_aload_n hx hb d_W_keepG_20 rfl (lv_at hl 0 rfl) ?_
        refine lv_iload_n hx hb d_W_keepG_21 rfl (lv_at hl 1 rfl) ?_
        refine u_W_motion hx hb hts hown hK hP hD hS 3 rfl rfl d_W_keepG_22 (fun H locs hP hD hS => ?_)
        have hP : va_P D cls (e0 :: e1 :: e2 :: (o_W a w_rowSize w_at x1 w_distances) :: tl) H := hP
        have hD : va_D A (e0 :: e1 :: e2 :: (o_W a w_rowSize w_at x1 w_distances) :: tl) := hD
        refine lv_iconst (v := (0 : Int32)) hx hb d_W_keepG_25 (by decide) ?_
        exact hret H locs ls 26 ((0 : Int32)) ((x1, w_distances)) d_W_keepG_26 hP hD hS hw
      · replace hw := hw.2 hc
        refine lv_bipush (v := (103 : Int32)) hx hb d_W_keepG_17 (by decide) ?_
        exact hret H locs ls 19 ((103 : Int32)) ((w_motion, w_distances)) d_W_keepG_19 hP hD hS hw
def wq_W_keep_46 (Q : Int32 → (Nat → Int32) → (Nat → Int32) → Prop) (x1 x2 : Int32) (wz wn : Nat → Int32) : Prop := (vp_in x1 7 ∧ (vp_in x1 7 ∧ (Q (0 : Int32) (upd wz x1.toNatClampNeg (vp_nar .boolean (1 : Int32))) (upd wn x1.toNatClampNeg x2))))
def wq_W_keep_13 (Q : Int32 → (Nat → Int32) → (Nat → Int32) → Prop) (x1 x2 : Int32) (wz wn : Nat → Int32) : Prop := (vp_in x1 7 ∧ (((wz x1.toNatClampNeg) = 0 → ((¬ x1 = (6 : Int32) → (wq_W_keep_46 Q x1 x2 wz wn)) ∧ (x1 = (6 : Int32) → ((x2 < (1 : Int32) → (Q (105 : Int32) wz wn)) ∧ (¬ x2 < (1 : Int32) → ((x2 ≤ (10000 : Int32) → (wq_W_keep_46 Q x1 x2 wz wn)) ∧ (¬ x2 ≤ (10000 : Int32) → (Q (105 : Int32) wz wn)))))))) ∧ (¬ (wz x1.toNatClampNeg) = 0 → (Q (103 : Int32) wz wn))))
def wp_W_keep (x1 x2 : Int32) (wz wn : Nat → Int32) (Q : Int32 → (Nat → Int32) → (Nat → Int32) → Prop) : Prop := ((¬ x1 = (1 : Int32) → (wq_W_keep_13 Q x1 x2 wz wn)) ∧ (x1 = (1 : Int32) → ((x2 = (2 : Int32) → (wq_W_keep_13 Q x1 x2 wz wn)) ∧ (¬ x2 = (2 : Int32) → (Q (102 : Int32) wz wn)))))
abbrev rm_W_keep : Room := { frames := 0, cells := 0, slots := 0, locals := 0 }
set_option maxRecDepth 100000 in
set_option maxHeartbeats 4000000 in
theorem c_W_keep (l : Launch) {D : va_G} {X : xT} {a : Nat → Nat} {K : Nat → ClassId} {tl : va_W} {e0 e1 e2 e4 : Nat × va_E} {x1 x2 w_rowSize w_at w_motion w_distances : Int32} {wz wn : Nat → Int32} {Q : Int32 → (Nat → Int32) → (Nat → Int32) → Prop} : MI l y_W_keep b_W_keep 3 rm_W_keep D cls (tys K) X [.ref (a 3), .int x1, .int x2] (e0 :: e1 :: e2 :: (o_W a w_rowSize w_at w_motion w_distances) :: e4 :: (o_wz a K wz) :: (o_wn a K wn) :: tl) (fun u : (Nat → Int32) × (Nat → Int32) => e0 :: e1 :: e2 :: (o_W a w_rowSize w_at w_motion w_distances) :: e4 :: (o_wz a K u.1) :: (o_wn a K u.2) :: tl) (wp_W_keep x1 x2 wz wn Q) (fun r u => Q r u.1 u.2) := by
  refine my_of_I (by decide +kernel) (Nat.le_of_ble_eq_true rfl) (fun p e s m args below meth c A QQ H locs ls hx hb hts hown hml hK hX hA hP hD hS hl hw hret => ?_)
  replace hl : lv_has ls 3 [(0, .ref (a 3)), (1, .int x1), (2, .int x2)] := hl
  have J46 : ∀ (H : Heap) (locs : List Loc) (ls : Array Slot) (x1 x2 : Int32) (wz wn : Nat → Int32), va_P D cls (e0 :: e1 :: e2 :: (o_W a w_rowSize w_at w_motion w_distances) :: e4 :: (o_wz a K wz) :: (o_wn a K wn) :: tl) H → va_D A (e0 :: e1 :: e2 :: (o_W a w_rowSize w_at w_motion w_distances) :: e4 :: (o_wz a K wz) :: (o_wn a K wn) :: tl) → va_S A s.heap H locs → lv_has ls 3 [(0, .ref (a 3)), (1, .int x1), (2, .int x2)] → wq_W_keep_46 Q x1 x2 wz wn → W p l e rm_W_keep s m args below meth c H locs 0 0 QQ (F0 m 46 ls []) := by
    intro H locs ls x1 x2 wz wn hP hD hS hl hw
    unfold wq_W_keep_46 at hw
    refine lv_aload_n hx hb d_W_keep_46 rfl (lv_at hl 0 rfl) ?_
    refine g_W_present hx hb hts hown hK hP 3 rfl rfl d_W_keep_47 ?_
    refine lv_iload_n hx hb d_W_keep_50 rfl (lv_at hl 1 rfl) ?_
    refine lv_iconst (v := (1 : Int32)) hx hb d_W_keep_51 (by decide) ?_
    refine va_zast hx hb hK hP hD hS 5 2 rfl rfl hw.1 d_W_keep_52 (fun H locs hP hD hS => ?_)
    replace hw := hw.2
    have hP : va_P D cls (e0 :: e1 :: e2 :: (o_W a w_rowSize w_at w_motion w_distances) :: e4 :: (o_wz a K (upd wz x1.toNatClampNeg (vp_nar .boolean (1 : Int32)))) :: (o_wn a K wn) :: tl) H := hP
    have hD : va_D A (e0 :: e1 :: e2 :: (o_W a w_rowSize w_at w_motion w_distances) :: e4 :: (o_wz a K (upd wz x1.toNatClampNeg (vp_nar .boolean (1 : Int32)))) :: (o_wn a K wn) :: tl) := hD
    refine lv_aload_n hx hb d_W_keep_53 rfl (lv_at hl 0 rfl) ?_
    refine g_W_numbers hx hb hts hown hK hP 3 rfl rfl d_W_keep_54 ?_
    refine lv_iload_n hx hb d_W_keep_57 rfl (lv_at hl 1 rfl) ?_
    refine lv_iload_n hx hb d_W_keep_58 rfl (lv_at hl 2 rfl) ?_
    refine va_iast hx hb hK hP hD hS 6 3 rfl rfl hw.1 d_W_keep_59 (fun H locs hP hD hS => ?_)
    replace hw := hw.2
    have hP : va_P D cls (e0 :: e1 :: e2 :: (o_W a w_rowSize w_at w_motion w_distances) :: e4 :: (o_wz a K (upd wz x1.toNatClampNeg (vp_nar .boolean (1 : Int32)))) :: (o_wn a K (upd wn x1.toNatClampNeg x2)) :: tl) H := hP
    have hD : va_D A (e0 :: e1 :: e2 :: (o_W a w_rowSize w_at w_motion w_distances) :: e4 :: (o_wz a K (upd wz x1.toNatClampNeg (vp_nar .boolean (1 : Int32)))) :: (o_wn a K (upd wn x1.toNatClampNeg x2)) :: tl) := hD
    refine lv_iconst (v := (0 : Int32)) hx hb d_W_keep_60 (by decide) ?_
    exact hret H locs ls 61 ((0 : Int32)) ((upd wz x1.toNatClampNeg (vp_nar .boolean (1 : Int32)), upd wn x1.toNatClampNeg x2)) d_W_keep_61 hP hD hS hw
  have J13 : ∀ (H : Heap) (locs : List Loc) (ls : Array Slot) (x1 x2 : Int32) (wz wn : Nat → Int32), va_P D cls (e0 :: e1 :: e2 :: (o_W a w_rowSize w_at w_motion w_distances) :: e4 :: (o_wz a K wz) :: (o_wn a K wn) :: tl) H → va_D A (e0 :: e1 :: e2 :: (o_W a w_rowSize w_at w_motion w_distances) :: e4 :: (o_wz a K wz) :: (o_wn a K wn) :: tl) → va_S A s.heap H locs → lv_has ls 3 [(0, .ref (a 3)), (1, .int x1), (2, .int x2)] → wq_W_keep_13 Q x1 x2 wz wn → W p l e rm_W_keep s m args below meth c H locs 0 0 QQ (F0 m 13 ls []) := by
    intro H locs ls x1 x2 wz wn hP hD hS hl hw
    unfold wq_W_keep_13 at hw
    refine lv_aload_n hx hb d_W_keep_13 rfl (lv_at hl 0 rfl) ?_
    refine g_W_present hx hb hts hown hK hP 3 rfl rfl d_W_keep_14 ?_
    refine lv_iload_n hx hb d_W_keep_17 rfl (lv_at hl 1 rfl) ?_
    refine va_zald hx hb hK hP 5 2 rfl rfl hw.1 d_W_keep_18 ?_
    replace hw := hw.2
    refine lv_if_eq (tgt := 25) hx hb d_W_keep_19 (by decide) (fun hc => ?_) (fun hc => ?_)
    · replace hw := hw.1 hc
      refine lv_iload_n hx hb d_W_keep_25 rfl (lv_at hl 1 rfl) ?_
      refine lv_bipush (v := (6 : Int32)) hx hb d_W_keep_26 (by decide) ?_
      refine lv_icmp_ne (tgt := 46) hx hb d_W_keep_28 (by decide) (fun hc => ?_) (fun hc => ?_)
      · replace hw := hw.1 hc
        exact J46 H locs ls x1 x2 wz wn hP hD hS (lv_sub hl [0, 1, 2] rfl) hw
      · replace hw := hw.2 hc
        refine lv_iload_n hx hb d_W_keep_31 rfl (lv_at hl 2 rfl) ?_
        refine lv_iconst (v := (1 : Int32)) hx hb d_W_keep_32 (by decide) ?_
        refine lv_icmp_lt (tgt := 43) hx hb d_W_keep_33 (by decide) (fun hc => ?_) (fun hc => ?_)
        · replace hw := hw.1 hc
          refine lv_bipush (v := (105 : Int32)) hx hb d_W_keep_43 (by decide) ?_
          exact hret H locs ls 45 ((105 : Int32)) ((wz, wn)) d_W_keep_45 hP hD hS hw
        · replace hw := hw.2 hc
          refine lv_iload_n hx hb d_W_keep_36 rfl (lv_at hl 2 rfl) ?_
          refine lv_sipush (v := (10000 : Int32)) hx hb d_W_keep_37 (by decide) ?_
          refine lv_icmp_le (tgt := 46) hx hb d_W_keep_40 (by decide) (fun hc => ?_) (fun hc => ?_)
          · replace hw := hw.1 hc
            exact J46 H locs ls x1 x2 wz wn hP hD hS (lv_sub hl [0, 1, 2] rfl) hw
          · replace hw := hw.2 hc
            refine lv_bipush (v := (105 : Int32)) hx hb d_W_keep_43 (by decide) ?_
            exact hret H locs ls 45 ((105 : Int32)) ((wz, wn)) d_W_keep_45 hP hD hS hw
    · replace hw := hw.2 hc
      refine lv_bipush (v := (103 : Int32)) hx hb d_W_keep_22 (by decide) ?_
      exact hret H locs ls 24 ((103 : Int32)) ((wz, wn)) d_W_keep_24 hP hD hS hw
  unfold wp_W_keep at hw
  refine lv_iload_n hx hb d_W_keep_0 rfl (lv_at hl 1 rfl) ?_
  refine lv_iconst (v := (1 : Int32)) hx hb d_W_keep_1 (by decide) ?_
  refine lv_icmp_ne (tgt := 13) hx hb d_W_keep_2 (by decide) (fun hc => ?_) (fun hc => ?_)
  · replace hw := hw.1 hc
    exact J13 H locs ls x1 x2 wz wn hP hD hS (lv_sub hl [0, 1, 2] rfl) hw
  · replace hw := hw.2 hc
    refine lv_iload_n hx hb d_W_keep_5 rfl (lv_at hl 2 rfl) ?_
    refine lv_iconst (v := (2 : Int32)) hx hb d_W_keep_6 (by decide) ?_
    refine lv_icmp_eq (tgt := 13) hx hb d_W_keep_7 (by decide) (fun hc => ?_) (fun hc => ?_)
    · replace hw := hw.1 hc
      exact J13 H locs ls x1 x2 wz wn hP hD hS (lv_sub hl [0, 1, 2] rfl) hw
    · replace hw := hw.2 hc
      refine lv_bipush (v := (102 : Int32)) hx hb d_W_keep_10 (by decide) ?_
      exact hret H locs ls 12 ((102 : Int32)) ((wz, wn)) d_W_keep_12 hP hD hS hw
def wq_W_readWord_183 (Q : Int32 → Int32 → Int32 → Int32 → (Nat → Int32) → (Nat → Int32) → Prop) (s1 s2 w_at w_motion w_distances : Int32) (wz wn : Nat → Int32) : Prop := (wp_W_keep s1 s2 wz wn (fun r183 wz_183 wn_183 => (Q r183 w_at w_motion w_distances wz_183 wn_183)))
def wq_W_readWord_129 (Q : Int32 → Int32 → Int32 → Int32 → (Nat → Int32) → (Nat → Int32) → Prop) (x1 x2 x3 x4 w_at w_motion w_distances : Int32) (wz wn : Nat → Int32) : Prop := (((w_at - x3) < (1 : Int32) → (Q (101 : Int32) w_at w_motion w_distances wz wn)) ∧ (¬ (w_at - x3) < (1 : Int32) → (vp_in x1 7 ∧ (((w_at - x3) ≤ (mdg x1.toNatClampNeg) → ((¬ x1 = 0 → ((x2 = 0 → (wq_W_readWord_183 Q x1 x4 w_at w_motion w_distances wz wn)) ∧ (¬ x2 = 0 → (wq_W_readWord_183 Q x1 (-x4) w_at w_motion w_distances wz wn)))) ∧ (x1 = 0 → (wp_W_keepG x4 w_motion w_distances (fun r163 w_motion_163 w_distances_163 => (Q r163 w_at w_motion_163 w_distances_163 wz wn)))))) ∧ (¬ (w_at - x3) ≤ (mdg x1.toNatClampNeg) → (Q (101 : Int32) w_at w_motion w_distances wz wn))))))
def wq_W_readWord_80 (Q : Int32 → Int32 → Int32 → Int32 → (Nat → Int32) → (Nat → Int32) → Prop) (w_rowSize : Int32) (wr : Nat → Int32) : Nat → Int32 → Int32 → Int32 → Int32 → Int32 → Int32 → Int32 → (Nat → Int32) → (Nat → Int32) → Prop
  | 0, _, _, _, _, _, _, _, _, _ => False
  | n80 + 1, x1, x2, x3, x4, w_at, w_motion, w_distances, wz, wn => ((w_rowSize ≤ w_at → (wq_W_readWord_129 Q x1 x2 x3 x4 w_at w_motion w_distances wz wn)) ∧ (¬ w_rowSize ≤ w_at → (wp_W_peek w_rowSize w_at wr (fun r92 => (wp_W_isDigit r92 (fun r95 => ((r95 = 0 → (wq_W_readWord_129 Q x1 x2 x3 x4 w_at w_motion w_distances wz wn)) ∧ (¬ r95 = 0 → (wp_W_peek w_rowSize w_at wr (fun r107 => (wq_W_readWord_80 Q w_rowSize wr n80 x1 x2 x3 ((((10 : Int32) * x4) + r107) - (48 : Int32)) (w_at + (1 : Int32)) w_motion w_distances wz wn)))))))))))
def wq_W_readWord_72 (Q : Int32 → Int32 → Int32 → Int32 → (Nat → Int32) → (Nat → Int32) → Prop) (w_rowSize : Int32) (wr : Nat → Int32) (x1 x2 w_at w_motion w_distances : Int32) (wz wn : Nat → Int32) : Prop := (∃ n80 : Nat, wq_W_readWord_80 Q w_rowSize wr n80 x1 x2 w_at (0 : Int32) w_at w_motion w_distances wz wn)
def wq_W_readWord_62 (Q : Int32 → Int32 → Int32 → Int32 → (Nat → Int32) → (Nat → Int32) → Prop) (w_rowSize : Int32) (wr : Nat → Int32) (x1 x2 w_at w_motion w_distances : Int32) (wz wn : Nat → Int32) : Prop := (wq_W_readWord_72 Q w_rowSize wr x1 x2 (w_at + (1 : Int32)) w_motion w_distances wz wn)
def wq_W_readWord_41 (Q : Int32 → Int32 → Int32 → Int32 → (Nat → Int32) → (Nat → Int32) → Prop) (w_rowSize : Int32) (wr : Nat → Int32) (x1 s0 w_at w_motion w_distances : Int32) (wz wn : Nat → Int32) : Prop := (wp_W_isSigned x1 (fun r43 => ((r43 = 0 → (wq_W_readWord_72 Q w_rowSize wr x1 s0 w_at w_motion w_distances wz wn)) ∧ (¬ r43 = 0 → ((¬ s0 = 0 → (wq_W_readWord_62 Q w_rowSize wr x1 s0 w_at w_motion w_distances wz wn)) ∧ (s0 = 0 → (wp_W_peek w_rowSize w_at wr (fun r54 => ((¬ r54 = (43 : Int32) → (wq_W_readWord_72 Q w_rowSize wr x1 s0 w_at w_motion w_distances wz wn)) ∧ (r54 = (43 : Int32) → (wq_W_readWord_62 Q w_rowSize wr x1 s0 w_at w_motion w_distances wz wn)))))))))))
def wp_W_readWord (w_rowSize w_at w_motion w_distances : Int32) (wr wz wn : Nat → Int32) (Q : Int32 → Int32 → Int32 → Int32 → (Nat → Int32) → (Nat → Int32) → Prop) : Prop := (wp_W_peek w_rowSize w_at wr (fun r3 => (wp_Js_indexOf r3 (fun r6 => ((0 ≤ r6 → (wp_W_peek w_rowSize (w_at + (1 : Int32)) wr (fun r28 => ((¬ r28 = (45 : Int32) → (wq_W_readWord_41 Q w_rowSize wr r6 (0 : Int32) (w_at + (1 : Int32)) w_motion w_distances wz wn)) ∧ (r28 = (45 : Int32) → (wq_W_readWord_41 Q w_rowSize wr r6 (1 : Int32) (w_at + (1 : Int32)) w_motion w_distances wz wn)))))) ∧ (¬ 0 ≤ r6 → (Q (101 : Int32) w_at w_motion w_distances wz wn)))))))
abbrev rm_W_readWord : Room := { frames := 4, cells := 0, slots := 0, locals := 91 }
set_option maxRecDepth 100000 in
set_option maxHeartbeats 4000000 in
theorem c_W_readWord (l : Launch) {D : va_G} {X : xT} {a : Nat → Nat} {K : Nat → ClassId} {tl : va_W} {e0 e1 e2 : Nat × va_E} {w_rowSize w_at w_motion w_distances : Int32} {wr wz wn : Nat → Int32} {Q : Int32 → Int32 → Int32 → Int32 → (Nat → Int32) → (Nat → Int32) → Prop} : MI l y_W_readWord b_W_readWord 6 rm_W_readWord D cls (tys K) X [.ref (a 3)] (e0 :: e1 :: e2 :: (o_W a w_rowSize w_at w_motion w_distances) :: (o_wr a K wr) :: (o_wz a K wz) :: (o_wn a K wn) :: tl) (fun u : Int32 × Int32 × Int32 × (Nat → Int32) × (Nat → Int32) => e0 :: e1 :: e2 :: (o_W a w_rowSize u.1 u.2.1 u.2.2.1) :: (o_wr a K wr) :: (o_wz a K u.2.2.2.1) :: (o_wn a K u.2.2.2.2) :: tl) (wp_W_readWord w_rowSize w_at w_motion w_distances wr wz wn Q) (fun r u => Q r u.1 u.2.1 u.2.2.1 u.2.2.2.1 u.2.2.2.2) := by
  refine my_of_I (by decide +kernel) (Nat.le_of_ble_eq_true rfl) (fun p e s m args below meth c A QQ H locs ls hx hb hts hown hml hK hX hA hP hD hS hl hw hret => ?_)
  replace hl : lv_has ls 6 [(0, .ref (a 3))] := hl
  have J183 : ∀ (H : Heap) (locs : List Loc) (ls : Array Slot) (s1 s2 w_at w_motion w_distances : Int32) (wz wn : Nat → Int32), va_P D cls (e0 :: e1 :: e2 :: (o_W a w_rowSize w_at w_motion w_distances) :: (o_wr a K wr) :: (o_wz a K wz) :: (o_wn a K wn) :: tl) H → va_D A (e0 :: e1 :: e2 :: (o_W a w_rowSize w_at w_motion w_distances) :: (o_wr a K wr) :: (o_wz a K wz) :: (o_wn a K wn) :: tl) → va_S A s.heap H locs → lv_has ls 6 [] → wq_W_readWord_183 Q s1 s2 w_at w_motion w_distances wz wn → W p l e rm_W_readWord s m args below meth c H locs 0 0 QQ (F0 m 183 ls [.int s2, .int s1, .ref (a 3)]) := by
    intro H locs ls s1 s2 w_at w_motion w_distances wz wn hP hD hS hl hw
    unfold wq_W_readWord_183 at hw
    refine my_calli (va_runV (As := [.int s1, .int s2]) (rest := []) ⟨hx, hb, hml, hown, hts⟩ (c_W_keep l H.size) (cw_W_82 hts ⟨Nat.le_of_ble_eq_true rfl, Nat.le_of_ble_eq_true rfl⟩) (my_preV hK hP hX hD hS hA 3 rfl rfl hw) rfl rfl hl.1 rfl (lv_room (Nat.le_of_ble_eq_true rfl)) d_W_readWord_183 ⟨Nat.le_refl _, Nat.le_refl _⟩) hD hS hA (fun r183 u H locs hw hP hD hS => ?_)
    obtain ⟨wz_183, wn_183⟩ := u
    dsimp only at hw
    have hP : va_P D cls (e0 :: e1 :: e2 :: (o_W a w_rowSize w_at w_motion w_distances) :: (o_wr a K wr) :: (o_wz a K wz_183) :: (o_wn a K wn_183) :: tl) H := hP
    have hD : va_D A (e0 :: e1 :: e2 :: (o_W a w_rowSize w_at w_motion w_distances) :: (o_wr a K wr) :: (o_wz a K wz_183) :: (o_wn a K wn_183) :: tl) := hD
    exact hret H locs ls 186 (r183) ((w_at, w_motion, w_distances, wz_183, wn_183)) d_W_readWord_186 hP hD hS hw
  have J129 : ∀ (H : Heap) (locs : List Loc) (ls : Array Slot) (x1 x2 x3 x4 w_at w_motion w_distances : Int32) (wz wn : Nat → Int32), va_P D cls (e0 :: e1 :: e2 :: (o_W a w_rowSize w_at w_motion w_distances) :: (o_wr a K wr) :: (o_wz a K wz) :: (o_wn a K wn) :: tl) H → va_D A (e0 :: e1 :: e2 :: (o_W a w_rowSize w_at w_motion w_distances) :: (o_wr a K wr) :: (o_wz a K wz) :: (o_wn a K wn) :: tl) → va_S A s.heap H locs → lv_has ls 6 [(0, .ref (a 3)), (1, .int x1), (2, .int x2), (3, .int x3), (4, .int x4)] → wq_W_readWord_129 Q x1 x2 x3 x4 w_at w_motion w_distances wz wn → W p l e rm_W_readWord s m args below meth c H locs 0 0 QQ (F0 m 129 ls []) := by
    intro H locs ls x1 x2 x3 x4 w_at w_motion w_distances wz wn hP hD hS hl hw
    unfold wq_W_readWord_129 at hw
    refine lv_aload_n hx hb d_W_readWord_129 rfl (lv_at hl 0 rfl) ?_
    refine g_W_at hx hb hts hown hK hP 3 rfl rfl d_W_readWord_130 ?_
    refine lv_iload_n hx hb d_W_readWord_133 rfl (lv_at hl 3 rfl) ?_
    refine lv_isub hx hb d_W_readWord_134 ?_
    refine lv_istore (lv' := [(5, .int (w_at - x3)), (0, .ref (a 3)), (1, .int x1), (2, .int x2), (3, .int x3), (4, .int x4)]) hx hb d_W_readWord_135 hl (Nat.le_of_ble_eq_true rfl) rfl (fun ls hl => ?_)
    refine lv_iload hx hb d_W_readWord_137 (lv_at hl 0 rfl) ?_
    refine lv_iconst (v := (1 : Int32)) hx hb d_W_readWord_139 (by decide) ?_
    refine lv_icmp_lt (tgt := 153) hx hb d_W_readWord_140 (by decide) (fun hc => ?_) (fun hc => ?_)
    · replace hw := hw.1 hc
      refine lv_bipush (v := (101 : Int32)) hx hb d_W_readWord_153 (by decide) ?_
      exact hret H locs ls 155 ((101 : Int32)) ((w_at, w_motion, w_distances, wz, wn)) d_W_readWord_155 hP hD hS hw
    · replace hw := hw.2 hc
      refine lv_iload hx hb d_W_readWord_143 (lv_at hl 0 rfl) ?_
      refine va_gets hx hb hX.2.2.2.1 hS hown (hts _ k_W_76) (fun _ h => h) d_W_readWord_145 ?_
      refine lv_iload_n hx hb d_W_readWord_148 rfl (lv_at hl 2 rfl) ?_
      refine va_ti (v := .int (mdg x1.toNatClampNeg)) hx hb hX.2.2.2.2.1 hS hw.1 rfl d_W_readWord_149 ?_
      replace hw := hw.2
      refine lv_icmp_le (tgt := 156) hx hb d_W_readWord_150 (by decide) (fun hc => ?_) (fun hc => ?_)
      · replace hw := hw.1 hc
        refine lv_iload_n hx hb d_W_readWord_156 rfl (lv_at hl 2 rfl) ?_
        refine lv_if_ne (tgt := 169) hx hb d_W_readWord_157 (by decide) (fun hc => ?_) (fun hc => ?_)
        · replace hw := hw.1 hc
          refine lv_aload_n hx hb d_W_readWord_169 rfl (lv_at hl 1 rfl) ?_
          refine lv_iload_n hx hb d_W_readWord_170 rfl (lv_at hl 2 rfl) ?_
          refine lv_iload_n hx hb d_W_readWord_171 rfl (lv_at hl 3 rfl) ?_
          refine lv_if_eq (tgt := 181) hx hb d_W_readWord_172 (by decide) (fun hc => ?_) (fun hc => ?_)
          · replace hw := hw.1 hc
            refine lv_iload hx hb d_W_readWord_181 (lv_at hl 5 rfl) ?_
            exact J183 H locs ls x1 x4 w_at w_motion w_distances wz wn hP hD hS (lv_sub hl [] rfl) hw
          · replace hw := hw.2 hc
            refine lv_iload hx hb d_W_readWord_175 (lv_at hl 5 rfl) ?_
            refine lv_ineg hx hb d_W_readWord_177 ?_
            refine lv_goto (tgt := 183) hx hb d_W_readWord_178 (by decide) ?_
            exact J183 H locs ls x1 (-x4) w_at w_motion w_distances wz wn hP hD hS (lv_sub hl [] rfl) hw
        · replace hw := hw.2 hc
          refine lv_aload_n hx hb d_W_readWord_160 rfl (lv_at hl 1 rfl) ?_
          refine lv_iload hx hb d_W_readWord_161 (lv_at hl 5 rfl) ?_
          refine my_calli (va_runV (As := [.int x4]) (rest := []) ⟨hx, hb, hml, hown, hts⟩ (c_W_keepG l H.size) (cw_W_79 hts ⟨Nat.le_of_ble_eq_true rfl, Nat.le_of_ble_eq_true rfl⟩) (my_preV hK hP hX hD hS hA 3 rfl rfl hw) rfl rfl hl.1 rfl (lv_room (Nat.le_of_ble_eq_true rfl)) d_W_readWord_163 ⟨Nat.le_refl _, Nat.le_refl _⟩) hD hS hA (fun r163 u H locs hw hP hD hS => ?_)
          obtain ⟨w_motion_163, w_distances_163⟩ := u
          dsimp only at hw
          have hP : va_P D cls (e0 :: e1 :: e2 :: (o_W a w_rowSize w_at w_motion_163 w_distances_163) :: (o_wr a K wr) :: (o_wz a K wz) :: (o_wn a K wn) :: tl) H := hP
          have hD : va_D A (e0 :: e1 :: e2 :: (o_W a w_rowSize w_at w_motion_163 w_distances_163) :: (o_wr a K wr) :: (o_wz a K wz) :: (o_wn a K wn) :: tl) := hD
          refine lv_goto (tgt := 186) hx hb d_W_readWord_166 (by decide) ?_
          exact hret H locs ls 186 (r163) ((w_at, w_motion_163, w_distances_163, wz, wn)) d_W_readWord_186 hP hD hS hw
      · replace hw := hw.2 hc
        refine lv_bipush (v := (101 : Int32)) hx hb d_W_readWord_153 (by decide) ?_
        exact hret H locs ls 155 ((101 : Int32)) ((w_at, w_motion, w_distances, wz, wn)) d_W_readWord_155 hP hD hS hw
  have J80 : ∀ (n80 : Nat) (H : Heap) (locs : List Loc) (ls : Array Slot) (x1 x2 x3 x4 w_at w_motion w_distances : Int32) (wz wn : Nat → Int32), va_P D cls (e0 :: e1 :: e2 :: (o_W a w_rowSize w_at w_motion w_distances) :: (o_wr a K wr) :: (o_wz a K wz) :: (o_wn a K wn) :: tl) H → va_D A (e0 :: e1 :: e2 :: (o_W a w_rowSize w_at w_motion w_distances) :: (o_wr a K wr) :: (o_wz a K wz) :: (o_wn a K wn) :: tl) → va_S A s.heap H locs → lv_has ls 6 [(0, .ref (a 3)), (1, .int x1), (2, .int x2), (3, .int x3), (4, .int x4)] → wq_W_readWord_80 Q w_rowSize wr n80 x1 x2 x3 x4 w_at w_motion w_distances wz wn → W p l e rm_W_readWord s m args below meth c H locs 0 0 QQ (F0 m 80 ls []) := by
    intro n80
    induction n80 with
    | zero => intro H locs ls x1 x2 x3 x4 w_at w_motion w_distances wz wn hP hD hS hl hw; exact False.elim hw
    | succ n80 ih =>
      intro H locs ls x1 x2 x3 x4 w_at w_motion w_distances wz wn hP hD hS hl hw
      unfold wq_W_readWord_80 at hw
      refine lv_aload_n hx hb d_W_readWord_80 rfl (lv_at hl 0 rfl) ?_
      refine g_W_at hx hb hts hown hK hP 3 rfl rfl d_W_readWord_81 ?_
      refine lv_aload_n hx hb d_W_readWord_84 rfl (lv_at hl 0 rfl) ?_
      refine g_W_rowSize hx hb hts hown hK hP 3 rfl rfl d_W_readWord_85 ?_
      refine lv_icmp_ge (tgt := 129) hx hb d_W_readWord_88 (by decide) (fun hc => ?_) (fun hc => ?_)
      · replace hw := hw.1 hc
        exact J129 H locs ls x1 x2 x3 x4 w_at w_motion w_distances wz wn hP hD hS (lv_sub hl [0, 1, 2, 3, 4] rfl) hw
      · replace hw := hw.2 hc
        refine lv_aload_n hx hb d_W_readWord_91 rfl (lv_at hl 0 rfl) ?_
        refine my_calli (va_runV (As := []) (rest := []) ⟨hx, hb, hml, hown, hts⟩ (c_W_peek l H.size) (cw_W_59 hts ⟨Nat.le_of_ble_eq_true rfl, Nat.le_of_ble_eq_true rfl⟩) (my_preV hK hP hX hD hS hA 3 rfl rfl hw) rfl rfl hl.1 rfl (lv_room (Nat.le_of_ble_eq_true rfl)) d_W_readWord_92 ⟨Nat.le_refl _, Nat.le_refl _⟩) hD hS hA (fun r92 _ H locs hw hP hD hS => ?_)
        have hP : va_P D cls (e0 :: e1 :: e2 :: (o_W a w_rowSize w_at w_motion w_distances) :: (o_wr a K wr) :: (o_wz a K wz) :: (o_wn a K wn) :: tl) H := hP
        have hD : va_D A (e0 :: e1 :: e2 :: (o_W a w_rowSize w_at w_motion w_distances) :: (o_wr a K wr) :: (o_wz a K wz) :: (o_wn a K wn) :: tl) := hD
        refine my_calli (va_runS (As := [.int r92]) (rest := []) ⟨hx, hb, hml, hown, hts⟩ (c_W_isDigit l H.size) (cw_W_72 hts ⟨Nat.le_of_ble_eq_true rfl, Nat.le_of_ble_eq_true rfl⟩) (my_preS hK hP hX hD hS hA hw) rfl rfl hl.1 rfl (lv_room (Nat.le_of_ble_eq_true rfl)) d_W_readWord_95 ⟨Nat.le_refl _, Nat.le_refl _⟩) hD hS hA (fun r95 _ H locs hw hP hD hS => ?_)
        have hP : va_P D cls (e0 :: e1 :: e2 :: (o_W a w_rowSize w_at w_motion w_distances) :: (o_wr a K wr) :: (o_wz a K wz) :: (o_wn a K wn) :: tl) H := hP
        have hD : va_D A (e0 :: e1 :: e2 :: (o_W a w_rowSize w_at w_motion w_distances) :: (o_wr a K wr) :: (o_wz a K wz) :: (o_wn a K wn) :: tl) := hD
        refine lv_if_eq (tgt := 129) hx hb d_W_readWord_98 (by decide) (fun hc => ?_) (fun hc => ?_)
        · replace hw := hw.1 hc
          exact J129 H locs ls x1 x2 x3 x4 w_at w_motion w_distances wz wn hP hD hS (lv_sub hl [0, 1, 2, 3, 4] rfl) hw
        · replace hw := hw.2 hc
          refine lv_bipush (v := (10 : Int32)) hx hb d_W_readWord_101 (by decide) ?_
          refine lv_iload hx hb d_W_readWord_103 (lv_at hl 4 rfl) ?_
          refine lv_imul hx hb d_W_readWord_105 ?_
          refine lv_aload_n hx hb d_W_readWord_106 rfl (lv_at hl 0 rfl) ?_
          refine my_calli (va_runV (As := []) (rest := [.int ((10 : Int32) * x4)]) ⟨hx, hb, hml, hown, hts⟩ (c_W_peek l H.size) (cw_W_59 hts ⟨Nat.le_of_ble_eq_true rfl, Nat.le_of_ble_eq_true rfl⟩) (my_preV hK hP hX hD hS hA 3 rfl rfl hw) rfl rfl hl.1 rfl (lv_room (Nat.le_of_ble_eq_true rfl)) d_W_readWord_107 ⟨Nat.le_refl _, Nat.le_refl _⟩) hD hS hA (fun r107 _ H locs hw hP hD hS => ?_)
          have hP : va_P D cls (e0 :: e1 :: e2 :: (o_W a w_rowSize w_at w_motion w_distances) :: (o_wr a K wr) :: (o_wz a K wz) :: (o_wn a K wn) :: tl) H := hP
          have hD : va_D A (e0 :: e1 :: e2 :: (o_W a w_rowSize w_at w_motion w_distances) :: (o_wr a K wr) :: (o_wz a K wz) :: (o_wn a K wn) :: tl) := hD
          refine lv_iadd hx hb d_W_readWord_110 ?_
          refine lv_bipush (v := (48 : Int32)) hx hb d_W_readWord_111 (by decide) ?_
          refine lv_isub hx hb d_W_readWord_113 ?_
          refine lv_istore (lv' := [(4, .int ((((10 : Int32) * x4) + r107) - (48 : Int32))), (0, .ref (a 3)), (1, .int x1), (2, .int x2), (3, .int x3)]) hx hb d_W_readWord_114 hl (Nat.le_of_ble_eq_true rfl) rfl (fun ls hl => ?_)
          refine lv_aload_n hx hb d_W_readWord_116 rfl (lv_at hl 1 rfl) ?_
          refine lv_dup hx hb d_W_readWord_117 rfl ?_
          refine g_W_at hx hb hts hown hK hP 3 rfl rfl d_W_readWord_118 ?_
          refine lv_iconst (v := (1 : Int32)) hx hb d_W_readWord_121 (by decide) ?_
          refine lv_iadd hx hb d_W_readWord_122 ?_
          refine u_W_at hx hb hts hown hK hP hD hS 3 rfl rfl d_W_readWord_123 (fun H locs hP hD hS => ?_)
          have hP : va_P D cls (e0 :: e1 :: e2 :: (o_W a w_rowSize (w_at + (1 : Int32)) w_motion w_distances) :: (o_wr a K wr) :: (o_wz a K wz) :: (o_wn a K wn) :: tl) H := hP
          have hD : va_D A (e0 :: e1 :: e2 :: (o_W a w_rowSize (w_at + (1 : Int32)) w_motion w_distances) :: (o_wr a K wr) :: (o_wz a K wz) :: (o_wn a K wn) :: tl) := hD
          refine lv_goto (tgt := 80) hx hb d_W_readWord_126 (by decide) ?_
          exact ih H locs ls x1 x2 x3 ((((10 : Int32) * x4) + r107) - (48 : Int32)) (w_at + (1 : Int32)) w_motion w_distances wz wn hP hD hS (lv_sub hl [1, 2, 3, 4, 0] rfl) hw
  have J72 : ∀ (H : Heap) (locs : List Loc) (ls : Array Slot) (x1 x2 w_at w_motion w_distances : Int32) (wz wn : Nat → Int32), va_P D cls (e0 :: e1 :: e2 :: (o_W a w_rowSize w_at w_motion w_distances) :: (o_wr a K wr) :: (o_wz a K wz) :: (o_wn a K wn) :: tl) H → va_D A (e0 :: e1 :: e2 :: (o_W a w_rowSize w_at w_motion w_distances) :: (o_wr a K wr) :: (o_wz a K wz) :: (o_wn a K wn) :: tl) → va_S A s.heap H locs → lv_has ls 6 [(0, .ref (a 3)), (1, .int x1), (2, .int x2)] → wq_W_readWord_72 Q w_rowSize wr x1 x2 w_at w_motion w_distances wz wn → W p l e rm_W_readWord s m args below meth c H locs 0 0 QQ (F0 m 72 ls []) := by
    intro H locs ls x1 x2 w_at w_motion w_distances wz wn hP hD hS hl hw
    unfold wq_W_readWord_72 at hw
    refine lv_aload_n hx hb d_W_readWord_72 rfl (lv_at hl 0 rfl) ?_
    refine g_W_at hx hb hts hown hK hP 3 rfl rfl d_W_readWord_73 ?_
    refine lv_istore_n (lv' := [(3, .int w_at), (0, .ref (a 3)), (1, .int x1), (2, .int x2)]) hx hb d_W_readWord_76 rfl hl (Nat.le_of_ble_eq_true rfl) rfl (fun ls hl => ?_)
    refine lv_iconst (v := (0 : Int32)) hx hb d_W_readWord_77 (by decide) ?_
    refine lv_istore (lv' := [(4, .int (0 : Int32)), (3, .int w_at), (0, .ref (a 3)), (1, .int x1), (2, .int x2)]) hx hb d_W_readWord_78 hl (Nat.le_of_ble_eq_true rfl) rfl (fun ls hl => ?_)
    obtain ⟨n80, hw⟩ := hw
    exact J80 n80 H locs ls x1 x2 w_at (0 : Int32) w_at w_motion w_distances wz wn hP hD hS (lv_sub hl [2, 3, 4, 1, 0] rfl) hw
  have J62 : ∀ (H : Heap) (locs : List Loc) (ls : Array Slot) (x1 x2 w_at w_motion w_distances : Int32) (wz wn : Nat → Int32), va_P D cls (e0 :: e1 :: e2 :: (o_W a w_rowSize w_at w_motion w_distances) :: (o_wr a K wr) :: (o_wz a K wz) :: (o_wn a K wn) :: tl) H → va_D A (e0 :: e1 :: e2 :: (o_W a w_rowSize w_at w_motion w_distances) :: (o_wr a K wr) :: (o_wz a K wz) :: (o_wn a K wn) :: tl) → va_S A s.heap H locs → lv_has ls 6 [(0, .ref (a 3)), (1, .int x1), (2, .int x2)] → wq_W_readWord_62 Q w_rowSize wr x1 x2 w_at w_motion w_distances wz wn → W p l e rm_W_readWord s m args below meth c H locs 0 0 QQ (F0 m 62 ls []) := by
    intro H locs ls x1 x2 w_at w_motion w_distances wz wn hP hD hS hl hw
    unfold wq_W_readWord_62 at hw
    refine lv_aload_n hx hb d_W_readWord_62 rfl (lv_at hl 0 rfl) ?_
    refine lv_dup hx hb d_W_readWord_63 rfl ?_
    refine g_W_at hx hb hts hown hK hP 3 rfl rfl d_W_readWord_64 ?_
    refine lv_iconst (v := (1 : Int32)) hx hb d_W_readWord_67 (by decide) ?_
    refine lv_iadd hx hb d_W_readWord_68 ?_
    refine u_W_at hx hb hts hown hK hP hD hS 3 rfl rfl d_W_readWord_69 (fun H locs hP hD hS => ?_)
    have hP : va_P D cls (e0 :: e1 :: e2 :: (o_W a w_rowSize (w_at + (1 : Int32)) w_motion w_distances) :: (o_wr a K wr) :: (o_wz a K wz) :: (o_wn a K wn) :: tl) H := hP
    have hD : va_D A (e0 :: e1 :: e2 :: (o_W a w_rowSize (w_at + (1 : Int32)) w_motion w_distances) :: (o_wr a K wr) :: (o_wz a K wz) :: (o_wn a K wn) :: tl) := hD
    exact J72 H locs ls x1 x2 (w_at + (1 : Int32)) w_motion w_distances wz wn hP hD hS (lv_sub hl [0, 1, 2] rfl) hw
  have J41 : ∀ (H : Heap) (locs : List Loc) (ls : Array Slot) (x1 s0 w_at w_motion w_distances : Int32) (wz wn : Nat → Int32), va_P D cls (e0 :: e1 :: e2 :: (o_W a w_rowSize w_at w_motion w_distances) :: (o_wr a K wr) :: (o_wz a K wz) :: (o_wn a K wn) :: tl) H → va_D A (e0 :: e1 :: e2 :: (o_W a w_rowSize w_at w_motion w_distances) :: (o_wr a K wr) :: (o_wz a K wz) :: (o_wn a K wn) :: tl) → va_S A s.heap H locs → lv_has ls 6 [(0, .ref (a 3)), (1, .int x1)] → wq_W_readWord_41 Q w_rowSize wr x1 s0 w_at w_motion w_distances wz wn → W p l e rm_W_readWord s m args below meth c H locs 0 0 QQ (F0 m 41 ls [.int s0]) := by
    intro H locs ls x1 s0 w_at w_motion w_distances wz wn hP hD hS hl hw
    unfold wq_W_readWord_41 at hw
    refine lv_istore_n (lv' := [(2, .int s0), (0, .ref (a 3)), (1, .int x1)]) hx hb d_W_readWord_41 rfl hl (Nat.le_of_ble_eq_true rfl) rfl (fun ls hl => ?_)
    refine lv_iload_n hx hb d_W_readWord_42 rfl (lv_at hl 2 rfl) ?_
    refine my_calli (va_runS (As := [.int x1]) (rest := []) ⟨hx, hb, hml, hown, hts⟩ (c_W_isSigned l H.size) (cw_W_69 hts ⟨Nat.le_of_ble_eq_true rfl, Nat.le_of_ble_eq_true rfl⟩) (my_preS hK hP hX hD hS hA hw) rfl rfl hl.1 rfl (lv_room (Nat.le_of_ble_eq_true rfl)) d_W_readWord_43 ⟨Nat.le_refl _, Nat.le_refl _⟩) hD hS hA (fun r43 _ H locs hw hP hD hS => ?_)
    have hP : va_P D cls (e0 :: e1 :: e2 :: (o_W a w_rowSize w_at w_motion w_distances) :: (o_wr a K wr) :: (o_wz a K wz) :: (o_wn a K wn) :: tl) H := hP
    have hD : va_D A (e0 :: e1 :: e2 :: (o_W a w_rowSize w_at w_motion w_distances) :: (o_wr a K wr) :: (o_wz a K wz) :: (o_wn a K wn) :: tl) := hD
    refine lv_if_eq (tgt := 72) hx hb d_W_readWord_46 (by decide) (fun hc => ?_) (fun hc => ?_)
    · replace hw := hw.1 hc
      exact J72 H locs ls x1 s0 w_at w_motion w_distances wz wn hP hD hS (lv_sub hl [1, 2, 0] rfl) hw
    · replace hw := hw.2 hc
      refine lv_iload_n hx hb d_W_readWord_49 rfl (lv_at hl 0 rfl) ?_
      refine lv_if_ne (tgt := 62) hx hb d_W_readWord_50 (by decide) (fun hc => ?_) (fun hc => ?_)
      · replace hw := hw.1 hc
        exact J62 H locs ls x1 s0 w_at w_motion w_distances wz wn hP hD hS (lv_sub hl [1, 2, 0] rfl) hw
      · replace hw := hw.2 hc
        refine lv_aload_n hx hb d_W_readWord_53 rfl (lv_at hl 1 rfl) ?_
        refine my_calli (va_runV (As := []) (rest := []) ⟨hx, hb, hml, hown, hts⟩ (c_W_peek l H.size) (cw_W_59 hts ⟨Nat.le_of_ble_eq_true rfl, Nat.le_of_ble_eq_true rfl⟩) (my_preV hK hP hX hD hS hA 3 rfl rfl hw) rfl rfl hl.1 rfl (lv_room (Nat.le_of_ble_eq_true rfl)) d_W_readWord_54 ⟨Nat.le_refl _, Nat.le_refl _⟩) hD hS hA (fun r54 _ H locs hw hP hD hS => ?_)
        have hP : va_P D cls (e0 :: e1 :: e2 :: (o_W a w_rowSize w_at w_motion w_distances) :: (o_wr a K wr) :: (o_wz a K wz) :: (o_wn a K wn) :: tl) H := hP
        have hD : va_D A (e0 :: e1 :: e2 :: (o_W a w_rowSize w_at w_motion w_distances) :: (o_wr a K wr) :: (o_wz a K wz) :: (o_wn a K wn) :: tl) := hD
        refine lv_bipush (v := (43 : Int32)) hx hb d_W_readWord_57 (by decide) ?_
        refine lv_icmp_ne (tgt := 72) hx hb d_W_readWord_59 (by decide) (fun hc => ?_) (fun hc => ?_)
        · replace hw := hw.1 hc
          exact J72 H locs ls x1 s0 w_at w_motion w_distances wz wn hP hD hS (lv_sub hl [1, 2, 0] rfl) hw
        · replace hw := hw.2 hc
          exact J62 H locs ls x1 s0 w_at w_motion w_distances wz wn hP hD hS (lv_sub hl [1, 2, 0] rfl) hw
  unfold wp_W_readWord at hw
  refine va_ldcS hx hb hown hX.2.2.2.2.2.1 d_W_readWord_0 ?_
  refine lv_aload_n hx hb d_W_readWord_2 rfl (lv_at hl 0 rfl) ?_
  refine my_calli (va_runV (As := []) (rest := [.ref X.2.1]) ⟨hx, hb, hml, hown, hts⟩ (c_W_peek l H.size) (cw_W_59 hts ⟨Nat.le_of_ble_eq_true rfl, Nat.le_of_ble_eq_true rfl⟩) (my_preV hK hP hX hD hS hA 3 rfl rfl hw) rfl rfl hl.1 rfl (lv_room (Nat.le_of_ble_eq_true rfl)) d_W_readWord_3 ⟨Nat.le_refl _, Nat.le_refl _⟩) hD hS hA (fun r3 _ H locs hw hP hD hS => ?_)
  have hP : va_P D cls (e0 :: e1 :: e2 :: (o_W a w_rowSize w_at w_motion w_distances) :: (o_wr a K wr) :: (o_wz a K wz) :: (o_wn a K wn) :: tl) H := hP
  have hD : va_D A (e0 :: e1 :: e2 :: (o_W a w_rowSize w_at w_motion w_distances) :: (o_wr a K wr) :: (o_wz a K wz) :: (o_wn a K wn) :: tl) := hD
  refine my_calli (va_runV (As := [.int r3]) (rest := []) ⟨hx, hb, hml, hown, hts⟩ (c_Js_indexOf l H.size) (cw_W_63 hts ⟨Nat.le_of_ble_eq_true rfl, Nat.le_of_ble_eq_true rfl⟩) (my_preT hK hP hX hD hS hA hw) rfl rfl hl.1 rfl (lv_room (Nat.le_of_ble_eq_true rfl)) d_W_readWord_6 ⟨Nat.le_refl _, Nat.le_refl _⟩) hD hS hA (fun r6 _ H locs hw hP hD hS => ?_)
  have hP : va_P D cls (e0 :: e1 :: e2 :: (o_W a w_rowSize w_at w_motion w_distances) :: (o_wr a K wr) :: (o_wz a K wz) :: (o_wn a K wn) :: tl) H := hP
  have hD : va_D A (e0 :: e1 :: e2 :: (o_W a w_rowSize w_at w_motion w_distances) :: (o_wr a K wr) :: (o_wz a K wz) :: (o_wn a K wn) :: tl) := hD
  refine lv_istore_n (lv' := [(1, .int r6), (0, .ref (a 3))]) hx hb d_W_readWord_9 rfl hl (Nat.le_of_ble_eq_true rfl) rfl (fun ls hl => ?_)
  refine lv_iload_n hx hb d_W_readWord_10 rfl (lv_at hl 0 rfl) ?_
  refine lv_if_ge (tgt := 17) hx hb d_W_readWord_11 (by decide) (fun hc => ?_) (fun hc => ?_)
  · replace hw := hw.1 hc
    refine lv_aload_n hx hb d_W_readWord_17 rfl (lv_at hl 1 rfl) ?_
    refine lv_dup hx hb d_W_readWord_18 rfl ?_
    refine g_W_at hx hb hts hown hK hP 3 rfl rfl d_W_readWord_19 ?_
    refine lv_iconst (v := (1 : Int32)) hx hb d_W_readWord_22 (by decide) ?_
    refine lv_iadd hx hb d_W_readWord_23 ?_
    refine u_W_at hx hb hts hown hK hP hD hS 3 rfl rfl d_W_readWord_24 (fun H locs hP hD hS => ?_)
    have hP : va_P D cls (e0 :: e1 :: e2 :: (o_W a w_rowSize (w_at + (1 : Int32)) w_motion w_distances) :: (o_wr a K wr) :: (o_wz a K wz) :: (o_wn a K wn) :: tl) H := hP
    have hD : va_D A (e0 :: e1 :: e2 :: (o_W a w_rowSize (w_at + (1 : Int32)) w_motion w_distances) :: (o_wr a K wr) :: (o_wz a K wz) :: (o_wn a K wn) :: tl) := hD
    refine lv_aload_n hx hb d_W_readWord_27 rfl (lv_at hl 1 rfl) ?_
    refine my_calli (va_runV (As := []) (rest := []) ⟨hx, hb, hml, hown, hts⟩ (c_W_peek l H.size) (cw_W_59 hts ⟨Nat.le_of_ble_eq_true rfl, Nat.le_of_ble_eq_true rfl⟩) (my_preV hK hP hX hD hS hA 3 rfl rfl hw) rfl rfl hl.1 rfl (lv_room (Nat.le_of_ble_eq_true rfl)) d_W_readWord_28 ⟨Nat.le_refl _, Nat.le_refl _⟩) hD hS hA (fun r28 _ H locs hw hP hD hS => ?_)
    have hP : va_P D cls (e0 :: e1 :: e2 :: (o_W a w_rowSize (w_at + (1 : Int32)) w_motion w_distances) :: (o_wr a K wr) :: (o_wz a K wz) :: (o_wn a K wn) :: tl) H := hP
    have hD : va_D A (e0 :: e1 :: e2 :: (o_W a w_rowSize (w_at + (1 : Int32)) w_motion w_distances) :: (o_wr a K wr) :: (o_wz a K wz) :: (o_wn a K wn) :: tl) := hD
    refine lv_bipush (v := (45 : Int32)) hx hb d_W_readWord_31 (by decide) ?_
    refine lv_icmp_ne (tgt := 40) hx hb d_W_readWord_33 (by decide) (fun hc => ?_) (fun hc => ?_)
    · replace hw := hw.1 hc
      refine lv_iconst (v := (0 : Int32)) hx hb d_W_readWord_40 (by decide) ?_
      exact J41 H locs ls r6 (0 : Int32) (w_at + (1 : Int32)) w_motion w_distances wz wn hP hD hS (lv_sub hl [1, 0] rfl) hw
    · replace hw := hw.2 hc
      refine lv_iconst (v := (1 : Int32)) hx hb d_W_readWord_36 (by decide) ?_
      refine lv_goto (tgt := 41) hx hb d_W_readWord_37 (by decide) ?_
      exact J41 H locs ls r6 (1 : Int32) (w_at + (1 : Int32)) w_motion w_distances wz wn hP hD hS (lv_sub hl [1, 0] rfl) hw
  · replace hw := hw.2 hc
    refine lv_bipush (v := (101 : Int32)) hx hb d_W_readWord_14 (by decide) ?_
    exact hret H locs ls 16 ((101 : Int32)) ((w_at, w_motion, w_distances, wz, wn)) d_W_readWord_16 hP hD hS hw
def wq_W_read_17 (Q : Int32 → Int32 → Int32 → Int32 → Int32 → (Nat → Int32) → (Nat → Int32) → (Nat → Int32) → Prop)  : Nat → Int32 → Int32 → Int32 → Int32 → Int32 → Int32 → (Nat → Int32) → (Nat → Int32) → (Nat → Int32) → Prop
  | 0, _, _, _, _, _, _, _, _, _ => False
  | n17 + 1, x4, x5, w_rowSize, w_at, w_motion, w_distances, wr, wz, wn => ((w_rowSize ≤ x5 → (Q x4 w_rowSize w_at w_motion w_distances wr wz wn)) ∧ (¬ w_rowSize ≤ x5 → ((w_rowSize ≤ w_at → (Q x4 w_rowSize w_at w_motion w_distances wr wz wn)) ∧ (¬ w_rowSize ≤ w_at → ((¬ x4 = 0 → (Q x4 w_rowSize w_at w_motion w_distances wr wz wn)) ∧ (x4 = 0 → (wp_W_readWord w_rowSize w_at w_motion w_distances wr wz wn (fun r43 w_at_43 w_motion_43 w_distances_43 wz_43 wn_43 => (wq_W_read_17 Q n17 r43 (x5 + (1 : Int32)) w_rowSize w_at_43 w_motion_43 w_distances_43 wr wz_43 wn_43)))))))))
def wp_W_read (x2 x3 t_size : Int32) (tc : Nat → Int32) (w_rowSize w_at w_motion w_distances : Int32) (wr wz wn : Nat → Int32) (Q : Int32 → Int32 → Int32 → Int32 → Int32 → (Nat → Int32) → (Nat → Int32) → (Nat → Int32) → Prop) : Prop := (wp_W_forget w_motion w_distances wz (fun w_motion_1 w_distances_1 wz_1 => (wp_W_takeRow x2 x3 t_size tc w_rowSize w_at wr (fun w_rowSize_8 w_at_8 wr_8 => (∃ n17 : Nat, wq_W_read_17 Q n17 (0 : Int32) (0 : Int32) w_rowSize_8 w_at_8 w_motion_1 w_distances_1 wr_8 wz_1 wn)))))
abbrev rm_W_read : Room := { frames := 5, cells := 0, slots := 0, locals := 116 }
set_option maxRecDepth 100000 in
set_option maxHeartbeats 4000000 in
theorem c_W_read (l : Launch) {D : va_G} {X : xT} {a : Nat → Nat} {K : Nat → ClassId} {tl : va_W} {e0 : Nat × va_E} {x2 x3 t_size : Int32} {tc : Nat → Int32} {w_rowSize w_at w_motion w_distances : Int32} {wr wz wn : Nat → Int32} {Q : Int32 → Int32 → Int32 → Int32 → Int32 → (Nat → Int32) → (Nat → Int32) → (Nat → Int32) → Prop} : MI l y_W_read b_W_read 6 rm_W_read D cls (tys K) X [.ref (a 3), .ref (a 1), .int x2, .int x3] (e0 :: (o_T a t_size) :: (o_tc a K tc) :: (o_W a w_rowSize w_at w_motion w_distances) :: (o_wr a K wr) :: (o_wz a K wz) :: (o_wn a K wn) :: tl) (fun u : Int32 × Int32 × Int32 × Int32 × (Nat → Int32) × (Nat → Int32) × (Nat → Int32) => e0 :: (o_T a t_size) :: (o_tc a K tc) :: (o_W a u.1 u.2.1 u.2.2.1 u.2.2.2.1) :: (o_wr a K u.2.2.2.2.1) :: (o_wz a K u.2.2.2.2.2.1) :: (o_wn a K u.2.2.2.2.2.2) :: tl) (wp_W_read x2 x3 t_size tc w_rowSize w_at w_motion w_distances wr wz wn Q) (fun r u => Q r u.1 u.2.1 u.2.2.1 u.2.2.2.1 u.2.2.2.2.1 u.2.2.2.2.2.1 u.2.2.2.2.2.2) := by
  refine my_of_I (by decide +kernel) (Nat.le_of_ble_eq_true rfl) (fun p e s m args below meth c A QQ H locs ls hx hb hts hown hml hK hX hA hP hD hS hl hw hret => ?_)
  replace hl : lv_has ls 6 [(0, .ref (a 3)), (1, .ref (a 1)), (2, .int x2), (3, .int x3)] := hl
  have J17 : ∀ (n17 : Nat) (H : Heap) (locs : List Loc) (ls : Array Slot) (x4 x5 w_rowSize w_at w_motion w_distances : Int32) (wr wz wn : Nat → Int32), va_P D cls (e0 :: (o_T a t_size) :: (o_tc a K tc) :: (o_W a w_rowSize w_at w_motion w_distances) :: (o_wr a K wr) :: (o_wz a K wz) :: (o_wn a K wn) :: tl) H → va_D A (e0 :: (o_T a t_size) :: (o_tc a K tc) :: (o_W a w_rowSize w_at w_motion w_distances) :: (o_wr a K wr) :: (o_wz a K wz) :: (o_wn a K wn) :: tl) → va_S A s.heap H locs → lv_has ls 6 [(0, .ref (a 3)), (4, .int x4), (5, .int x5)] → wq_W_read_17 Q n17 x4 x5 w_rowSize w_at w_motion w_distances wr wz wn → W p l e rm_W_read s m args below meth c H locs 0 0 QQ (F0 m 17 ls []) := by
    intro n17
    induction n17 with
    | zero => intro H locs ls x4 x5 w_rowSize w_at w_motion w_distances wr wz wn hP hD hS hl hw; exact False.elim hw
    | succ n17 ih =>
      intro H locs ls x4 x5 w_rowSize w_at w_motion w_distances wr wz wn hP hD hS hl hw
      unfold wq_W_read_17 at hw
      refine lv_iload hx hb d_W_read_17 (lv_at hl 2 rfl) ?_
      refine lv_aload_n hx hb d_W_read_19 rfl (lv_at hl 0 rfl) ?_
      refine g_W_rowSize hx hb hts hown hK hP 3 rfl rfl d_W_read_20 ?_
      refine lv_icmp_ge (tgt := 54) hx hb d_W_read_23 (by decide) (fun hc => ?_) (fun hc => ?_)
      · replace hw := hw.1 hc
        refine lv_iload hx hb d_W_read_54 (lv_at hl 1 rfl) ?_
        exact hret H locs ls 56 (x4) ((w_rowSize, w_at, w_motion, w_distances, wr, wz, wn)) d_W_read_56 hP hD hS hw
      · replace hw := hw.2 hc
        refine lv_aload_n hx hb d_W_read_26 rfl (lv_at hl 0 rfl) ?_
        refine g_W_at hx hb hts hown hK hP 3 rfl rfl d_W_read_27 ?_
        refine lv_aload_n hx hb d_W_read_30 rfl (lv_at hl 0 rfl) ?_
        refine g_W_rowSize hx hb hts hown hK hP 3 rfl rfl d_W_read_31 ?_
        refine lv_icmp_ge (tgt := 54) hx hb d_W_read_34 (by decide) (fun hc => ?_) (fun hc => ?_)
        · replace hw := hw.1 hc
          refine lv_iload hx hb d_W_read_54 (lv_at hl 1 rfl) ?_
          exact hret H locs ls 56 (x4) ((w_rowSize, w_at, w_motion, w_distances, wr, wz, wn)) d_W_read_56 hP hD hS hw
        · replace hw := hw.2 hc
          refine lv_iload hx hb d_W_read_37 (lv_at hl 1 rfl) ?_
          refine lv_if_ne (tgt := 54) hx hb d_W_read_39 (by decide) (fun hc => ?_) (fun hc => ?_)
          · replace hw := hw.1 hc
            refine lv_iload hx hb d_W_read_54 (lv_at hl 1 rfl) ?_
            exact hret H locs ls 56 (x4) ((w_rowSize, w_at, w_motion, w_distances, wr, wz, wn)) d_W_read_56 hP hD hS hw
          · replace hw := hw.2 hc
            refine lv_aload_n hx hb d_W_read_42 rfl (lv_at hl 0 rfl) ?_
            refine my_calli (va_runV (As := []) (rest := []) ⟨hx, hb, hml, hown, hts⟩ (c_W_readWord l H.size) (cw_W_47 hts ⟨Nat.le_of_ble_eq_true rfl, Nat.le_of_ble_eq_true rfl⟩) (my_preV hK hP hX hD hS hA 3 rfl rfl hw) rfl rfl hl.1 rfl (lv_room (Nat.le_of_ble_eq_true rfl)) d_W_read_43 ⟨Nat.le_refl _, Nat.le_refl _⟩) hD hS hA (fun r43 u H locs hw hP hD hS => ?_)
            obtain ⟨w_at_43, w_motion_43, w_distances_43, wz_43, wn_43⟩ := u
            dsimp only at hw
            have hP : va_P D cls (e0 :: (o_T a t_size) :: (o_tc a K tc) :: (o_W a w_rowSize w_at_43 w_motion_43 w_distances_43) :: (o_wr a K wr) :: (o_wz a K wz_43) :: (o_wn a K wn_43) :: tl) H := hP
            have hD : va_D A (e0 :: (o_T a t_size) :: (o_tc a K tc) :: (o_W a w_rowSize w_at_43 w_motion_43 w_distances_43) :: (o_wr a K wr) :: (o_wz a K wz_43) :: (o_wn a K wn_43) :: tl) := hD
            refine lv_istore (lv' := [(4, .int r43), (0, .ref (a 3)), (5, .int x5)]) hx hb d_W_read_46 hl (Nat.le_of_ble_eq_true rfl) rfl (fun ls hl => ?_)
            refine lv_iinc (k := 2) (v := x5 + (1 : Int32)) (lv' := [(5, .int (x5 + (1 : Int32))), (4, .int r43), (0, .ref (a 3))]) hx hb d_W_read_48 hl rfl (iinc_1 _) (Nat.le_of_ble_eq_true rfl) rfl (fun ls hl => ?_)
            refine lv_goto (tgt := 17) hx hb d_W_read_51 (by decide) ?_
            exact ih H locs ls r43 (x5 + (1 : Int32)) w_rowSize w_at_43 w_motion_43 w_distances_43 wr wz_43 wn_43 hP hD hS (lv_sub hl [2, 1, 0] rfl) hw
  unfold wp_W_read at hw
  refine lv_aload_n hx hb d_W_read_0 rfl (lv_at hl 0 rfl) ?_
  refine my_callv (va_runV (As := []) (rest := []) ⟨hx, hb, hml, hown, hts⟩ (c_W_forget l H.size) (cw_W_40 hts ⟨Nat.le_of_ble_eq_true rfl, Nat.le_of_ble_eq_true rfl⟩) (my_preV hK hP hX hD hS hA 3 rfl rfl hw) rfl rfl hl.1 rfl (lv_room (Nat.le_of_ble_eq_true rfl)) d_W_read_1 ⟨Nat.le_refl _, Nat.le_refl _⟩) hD hS hA (fun u H locs hw hP hD hS => ?_)
  obtain ⟨w_motion_1, w_distances_1, wz_1⟩ := u
  dsimp only at hw
  have hP : va_P D cls (e0 :: (o_T a t_size) :: (o_tc a K tc) :: (o_W a w_rowSize w_at w_motion_1 w_distances_1) :: (o_wr a K wr) :: (o_wz a K wz_1) :: (o_wn a K wn) :: tl) H := hP
  have hD : va_D A (e0 :: (o_T a t_size) :: (o_tc a K tc) :: (o_W a w_rowSize w_at w_motion_1 w_distances_1) :: (o_wr a K wr) :: (o_wz a K wz_1) :: (o_wn a K wn) :: tl) := hD
  refine lv_aload_n hx hb d_W_read_4 rfl (lv_at hl 0 rfl) ?_
  refine lv_aload_n hx hb d_W_read_5 rfl (lv_at hl 1 rfl) ?_
  refine lv_iload_n hx hb d_W_read_6 rfl (lv_at hl 2 rfl) ?_
  refine lv_iload_n hx hb d_W_read_7 rfl (lv_at hl 3 rfl) ?_
  refine my_callv (va_runV (As := [.ref (a 1), .int x2, .int x3]) (rest := []) ⟨hx, hb, hml, hown, hts⟩ (c_W_takeRow l H.size) (cw_W_43 hts ⟨Nat.le_of_ble_eq_true rfl, Nat.le_of_ble_eq_true rfl⟩) (my_preV hK hP hX hD hS hA 3 rfl rfl hw) rfl rfl hl.1 rfl (lv_room (Nat.le_of_ble_eq_true rfl)) d_W_read_8 ⟨Nat.le_refl _, Nat.le_refl _⟩) hD hS hA (fun u H locs hw hP hD hS => ?_)
  obtain ⟨w_rowSize_8, w_at_8, wr_8⟩ := u
  dsimp only at hw
  have hP : va_P D cls (e0 :: (o_T a t_size) :: (o_tc a K tc) :: (o_W a w_rowSize_8 w_at_8 w_motion_1 w_distances_1) :: (o_wr a K wr_8) :: (o_wz a K wz_1) :: (o_wn a K wn) :: tl) H := hP
  have hD : va_D A (e0 :: (o_T a t_size) :: (o_tc a K tc) :: (o_W a w_rowSize_8 w_at_8 w_motion_1 w_distances_1) :: (o_wr a K wr_8) :: (o_wz a K wz_1) :: (o_wn a K wn) :: tl) := hD
  refine lv_iconst (v := (0 : Int32)) hx hb d_W_read_11 (by decide) ?_
  refine lv_istore (lv' := [(4, .int (0 : Int32)), (0, .ref (a 3)), (1, .ref (a 1)), (2, .int x2), (3, .int x3)]) hx hb d_W_read_12 hl (Nat.le_of_ble_eq_true rfl) rfl (fun ls hl => ?_)
  refine lv_iconst (v := (0 : Int32)) hx hb d_W_read_14 (by decide) ?_
  refine lv_istore (lv' := [(5, .int (0 : Int32)), (4, .int (0 : Int32)), (0, .ref (a 3)), (1, .ref (a 1)), (2, .int x2), (3, .int x3)]) hx hb d_W_read_15 hl (Nat.le_of_ble_eq_true rfl) rfl (fun ls hl => ?_)
  obtain ⟨n17, hw⟩ := hw
  exact J17 n17 H locs ls (0 : Int32) (0 : Int32) w_rowSize_8 w_at_8 w_motion_1 w_distances_1 wr_8 wz_1 wn hP hD hS (lv_sub hl [2, 1, 0] rfl) hw
