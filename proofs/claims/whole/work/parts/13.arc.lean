theorem d_A_init_0 : decode b_A_init 0 = .ok (.aload_n 0, 1) := by decide +kernel
theorem d_A_init_1 : decode b_A_init 1 = .ok (.invokespecial 3, 3) := by decide +kernel
theorem d_A_init_4 : decode b_A_init 4 = .ok (.aload_n 0, 1) := by decide +kernel
theorem d_A_init_5 : decode b_A_init 5 = .ok (.sipush 202, 3) := by decide +kernel
theorem d_A_init_8 : decode b_A_init 8 = .ok (.newarray .int, 2) := by decide +kernel
theorem d_A_init_10 : decode b_A_init 10 = .ok (.putfield 9, 3) := by decide +kernel
theorem d_A_init_13 : decode b_A_init 13 = .ok (.aload_n 0, 1) := by decide +kernel
theorem d_A_init_14 : decode b_A_init 14 = .ok (.iconst 0, 1) := by decide +kernel
theorem d_A_init_15 : decode b_A_init 15 = .ok (.putfield 15, 3) := by decide +kernel
theorem d_A_init_18 : decode b_A_init 18 = .ok (.aload_n 0, 1) := by decide +kernel
theorem d_A_init_19 : decode b_A_init 19 = .ok (.iconst 0, 1) := by decide +kernel
theorem d_A_init_20 : decode b_A_init 20 = .ok (.putfield 19, 3) := by decide +kernel
theorem d_A_init_23 : decode b_A_init 23 = .ok (.aload_n 0, 1) := by decide +kernel
theorem d_A_init_24 : decode b_A_init 24 = .ok (.iconst 0, 1) := by decide +kernel
theorem d_A_init_25 : decode b_A_init 25 = .ok (.putfield 22, 3) := by decide +kernel
theorem d_A_init_28 : decode b_A_init 28 = .ok (.aload_n 0, 1) := by decide +kernel
theorem d_A_init_29 : decode b_A_init 29 = .ok (.iconst 1, 1) := by decide +kernel
theorem d_A_init_30 : decode b_A_init 30 = .ok (.putfield 25, 3) := by decide +kernel
theorem d_A_init_33 : decode b_A_init 33 = .ok (.aload_n 0, 1) := by decide +kernel
theorem d_A_init_34 : decode b_A_init 34 = .ok (.iconst 0, 1) := by decide +kernel
theorem d_A_init_35 : decode b_A_init 35 = .ok (.putfield 28, 3) := by decide +kernel
theorem d_A_init_38 : decode b_A_init 38 = .ok (.aload_n 0, 1) := by decide +kernel
theorem d_A_init_39 : decode b_A_init 39 = .ok (.iconst 1, 1) := by decide +kernel
theorem d_A_init_40 : decode b_A_init 40 = .ok (.putfield 31, 3) := by decide +kernel
theorem d_A_init_43 : decode b_A_init 43 = .ok (.aload_n 0, 1) := by decide +kernel
theorem d_A_init_44 : decode b_A_init 44 = .ok (.iconst 0, 1) := by decide +kernel
theorem d_A_init_45 : decode b_A_init 45 = .ok (.putfield 34, 3) := by decide +kernel
theorem d_A_init_48 : decode b_A_init 48 = .ok (.return_, 1) := by decide +kernel
theorem d_A_radius_0 : decode b_A_radius 0 = .ok (.iconst 0, 1) := by decide +kernel
theorem d_A_radius_1 : decode b_A_radius 1 = .ok (.istore_n 1, 1) := by decide +kernel
theorem d_A_radius_2 : decode b_A_radius 2 = .ok (.iload_n 1, 1) := by decide +kernel
theorem d_A_radius_3 : decode b_A_radius 3 = .ok (.sipush 200, 3) := by decide +kernel
theorem d_A_radius_6 : decode b_A_radius 6 = .ok (.if_icmp .gt 26, 3) := by decide +kernel
theorem d_A_radius_9 : decode b_A_radius 9 = .ok (.iconst 2, 1) := by decide +kernel
theorem d_A_radius_10 : decode b_A_radius 10 = .ok (.iload_n 1, 1) := by decide +kernel
theorem d_A_radius_11 : decode b_A_radius 11 = .ok (.imul, 1) := by decide +kernel
theorem d_A_radius_12 : decode b_A_radius 12 = .ok (.iconst 1, 1) := by decide +kernel
theorem d_A_radius_13 : decode b_A_radius 13 = .ok (.iadd, 1) := by decide +kernel
theorem d_A_radius_14 : decode b_A_radius 14 = .ok (.iconst 2, 1) := by decide +kernel
theorem d_A_radius_15 : decode b_A_radius 15 = .ok (.iload_n 1, 1) := by decide +kernel
theorem d_A_radius_16 : decode b_A_radius 16 = .ok (.imul, 1) := by decide +kernel
theorem d_A_radius_17 : decode b_A_radius 17 = .ok (.iconst 1, 1) := by decide +kernel
theorem d_A_radius_18 : decode b_A_radius 18 = .ok (.iadd, 1) := by decide +kernel
theorem d_A_radius_19 : decode b_A_radius 19 = .ok (.imul, 1) := by decide +kernel
theorem d_A_radius_20 : decode b_A_radius 20 = .ok (.iconst 4, 1) := by decide +kernel
theorem d_A_radius_21 : decode b_A_radius 21 = .ok (.iload_n 0, 1) := by decide +kernel
theorem d_A_radius_22 : decode b_A_radius 22 = .ok (.imul, 1) := by decide +kernel
theorem d_A_radius_23 : decode b_A_radius 23 = .ok (.if_icmp .gt 9, 3) := by decide +kernel
theorem d_A_radius_26 : decode b_A_radius 26 = .ok (.iinc 1 1, 3) := by decide +kernel
theorem d_A_radius_29 : decode b_A_radius 29 = .ok (.goto (-27), 3) := by decide +kernel
theorem d_A_radius_32 : decode b_A_radius 32 = .ok (.iload_n 1, 1) := by decide +kernel
theorem d_A_radius_33 : decode b_A_radius 33 = .ok (.ireturn, 1) := by decide +kernel
theorem d_A_lay_0 : decode b_A_lay 0 = .ok (.aload_n 0, 1) := by decide +kernel
theorem d_A_lay_1 : decode b_A_lay 1 = .ok (.iload_n 1, 1) := by decide +kernel
theorem d_A_lay_2 : decode b_A_lay 2 = .ok (.putfield 15, 3) := by decide +kernel
theorem d_A_lay_5 : decode b_A_lay 5 = .ok (.aload_n 0, 1) := by decide +kernel
theorem d_A_lay_6 : decode b_A_lay 6 = .ok (.iload_n 2, 1) := by decide +kernel
theorem d_A_lay_7 : decode b_A_lay 7 = .ok (.putfield 19, 3) := by decide +kernel
theorem d_A_lay_10 : decode b_A_lay 10 = .ok (.aload_n 0, 1) := by decide +kernel
theorem d_A_lay_11 : decode b_A_lay 11 = .ok (.iconst 0, 1) := by decide +kernel
theorem d_A_lay_12 : decode b_A_lay 12 = .ok (.putfield 22, 3) := by decide +kernel
theorem d_A_lay_15 : decode b_A_lay 15 = .ok (.iload_n 3, 1) := by decide +kernel
theorem d_A_lay_16 : decode b_A_lay 16 = .ok (.invokestatic 37, 3) := by decide +kernel
theorem d_A_lay_19 : decode b_A_lay 19 = .ok (.istore 4, 2) := by decide +kernel
theorem d_A_lay_21 : decode b_A_lay 21 = .ok (.iconst 0, 1) := by decide +kernel
theorem d_A_lay_22 : decode b_A_lay 22 = .ok (.istore 5, 2) := by decide +kernel
theorem d_A_lay_24 : decode b_A_lay 24 = .ok (.iload 5, 2) := by decide +kernel
theorem d_A_lay_26 : decode b_A_lay 26 = .ok (.sipush 200, 3) := by decide +kernel
theorem d_A_lay_29 : decode b_A_lay 29 = .ok (.if_icmp .gt 71, 3) := by decide +kernel
theorem d_A_lay_32 : decode b_A_lay 32 = .ok (.iconst 2, 1) := by decide +kernel
theorem d_A_lay_33 : decode b_A_lay 33 = .ok (.iload 5, 2) := by decide +kernel
theorem d_A_lay_35 : decode b_A_lay 35 = .ok (.imul, 1) := by decide +kernel
theorem d_A_lay_36 : decode b_A_lay 36 = .ok (.iload 5, 2) := by decide +kernel
theorem d_A_lay_38 : decode b_A_lay 38 = .ok (.imul, 1) := by decide +kernel
theorem d_A_lay_39 : decode b_A_lay 39 = .ok (.iload_n 3, 1) := by decide +kernel
theorem d_A_lay_40 : decode b_A_lay 40 = .ok (.if_icmp .gt 60, 3) := by decide +kernel
theorem d_A_lay_43 : decode b_A_lay 43 = .ok (.iload 4, 2) := by decide +kernel
theorem d_A_lay_45 : decode b_A_lay 45 = .ok (.ifCond .le 34, 3) := by decide +kernel
theorem d_A_lay_48 : decode b_A_lay 48 = .ok (.iconst 2, 1) := by decide +kernel
theorem d_A_lay_49 : decode b_A_lay 49 = .ok (.iload 4, 2) := by decide +kernel
theorem d_A_lay_51 : decode b_A_lay 51 = .ok (.imul, 1) := by decide +kernel
theorem d_A_lay_52 : decode b_A_lay 52 = .ok (.iconst 1, 1) := by decide +kernel
theorem d_A_lay_53 : decode b_A_lay 53 = .ok (.isub, 1) := by decide +kernel
theorem d_A_lay_54 : decode b_A_lay 54 = .ok (.iconst 2, 1) := by decide +kernel
theorem d_A_lay_55 : decode b_A_lay 55 = .ok (.iload 4, 2) := by decide +kernel
theorem d_A_lay_57 : decode b_A_lay 57 = .ok (.imul, 1) := by decide +kernel
theorem d_A_lay_58 : decode b_A_lay 58 = .ok (.iconst 1, 1) := by decide +kernel
theorem d_A_lay_59 : decode b_A_lay 59 = .ok (.isub, 1) := by decide +kernel
theorem d_A_lay_60 : decode b_A_lay 60 = .ok (.imul, 1) := by decide +kernel
theorem d_A_lay_61 : decode b_A_lay 61 = .ok (.iconst 4, 1) := by decide +kernel
theorem d_A_lay_62 : decode b_A_lay 62 = .ok (.iload_n 3, 1) := by decide +kernel
theorem d_A_lay_63 : decode b_A_lay 63 = .ok (.iload 5, 2) := by decide +kernel
theorem d_A_lay_65 : decode b_A_lay 65 = .ok (.iload 5, 2) := by decide +kernel
theorem d_A_lay_67 : decode b_A_lay 67 = .ok (.imul, 1) := by decide +kernel
theorem d_A_lay_68 : decode b_A_lay 68 = .ok (.isub, 1) := by decide +kernel
theorem d_A_lay_69 : decode b_A_lay 69 = .ok (.imul, 1) := by decide +kernel
theorem d_A_lay_70 : decode b_A_lay 70 = .ok (.if_icmp .le 9, 3) := by decide +kernel
theorem d_A_lay_73 : decode b_A_lay 73 = .ok (.iinc 4 (-1), 3) := by decide +kernel
theorem d_A_lay_76 : decode b_A_lay 76 = .ok (.goto (-33), 3) := by decide +kernel
theorem d_A_lay_79 : decode b_A_lay 79 = .ok (.aload_n 0, 1) := by decide +kernel
theorem d_A_lay_80 : decode b_A_lay 80 = .ok (.getfield 9, 3) := by decide +kernel
theorem d_A_lay_83 : decode b_A_lay 83 = .ok (.iload 5, 2) := by decide +kernel
theorem d_A_lay_85 : decode b_A_lay 85 = .ok (.iload 4, 2) := by decide +kernel
theorem d_A_lay_87 : decode b_A_lay 87 = .ok (.iastore, 1) := by decide +kernel
theorem d_A_lay_88 : decode b_A_lay 88 = .ok (.aload_n 0, 1) := by decide +kernel
theorem d_A_lay_89 : decode b_A_lay 89 = .ok (.iload 5, 2) := by decide +kernel
theorem d_A_lay_91 : decode b_A_lay 91 = .ok (.putfield 22, 3) := by decide +kernel
theorem d_A_lay_94 : decode b_A_lay 94 = .ok (.iinc 5 1, 3) := by decide +kernel
theorem d_A_lay_97 : decode b_A_lay 97 = .ok (.goto (-73), 3) := by decide +kernel
theorem d_A_lay_100 : decode b_A_lay 100 = .ok (.aload_n 0, 1) := by decide +kernel
theorem d_A_lay_101 : decode b_A_lay 101 = .ok (.iconst 1, 1) := by decide +kernel
theorem d_A_lay_102 : decode b_A_lay 102 = .ok (.aload_n 0, 1) := by decide +kernel
theorem d_A_lay_103 : decode b_A_lay 103 = .ok (.getfield 22, 3) := by decide +kernel
theorem d_A_lay_106 : decode b_A_lay 106 = .ok (.aload_n 0, 1) := by decide +kernel
theorem d_A_lay_107 : decode b_A_lay 107 = .ok (.getfield 9, 3) := by decide +kernel
theorem d_A_lay_110 : decode b_A_lay 110 = .ok (.aload_n 0, 1) := by decide +kernel
theorem d_A_lay_111 : decode b_A_lay 111 = .ok (.getfield 22, 3) := by decide +kernel
theorem d_A_lay_114 : decode b_A_lay 114 = .ok (.iaload, 1) := by decide +kernel
theorem d_A_lay_115 : decode b_A_lay 115 = .ok (.iadd, 1) := by decide +kernel
theorem d_A_lay_116 : decode b_A_lay 116 = .ok (.invokestatic 41, 3) := by decide +kernel
theorem d_A_lay_119 : decode b_A_lay 119 = .ok (.putfield 25, 3) := by decide +kernel
theorem d_A_lay_122 : decode b_A_lay 122 = .ok (.aload_n 0, 1) := by decide +kernel
theorem d_A_lay_123 : decode b_A_lay 123 = .ok (.getfield 9, 3) := by decide +kernel
theorem d_A_lay_126 : decode b_A_lay 126 = .ok (.aload_n 0, 1) := by decide +kernel
theorem d_A_lay_127 : decode b_A_lay 127 = .ok (.getfield 22, 3) := by decide +kernel
theorem d_A_lay_130 : decode b_A_lay 130 = .ok (.iconst 1, 1) := by decide +kernel
theorem d_A_lay_131 : decode b_A_lay 131 = .ok (.iadd, 1) := by decide +kernel
theorem d_A_lay_132 : decode b_A_lay 132 = .ok (.aload_n 0, 1) := by decide +kernel
theorem d_A_lay_133 : decode b_A_lay 133 = .ok (.getfield 22, 3) := by decide +kernel
theorem d_A_lay_136 : decode b_A_lay 136 = .ok (.iconst 1, 1) := by decide +kernel
theorem d_A_lay_137 : decode b_A_lay 137 = .ok (.iadd, 1) := by decide +kernel
theorem d_A_lay_138 : decode b_A_lay 138 = .ok (.iastore, 1) := by decide +kernel
theorem d_A_lay_139 : decode b_A_lay 139 = .ok (.return_, 1) := by decide +kernel
theorem d_A_join_0 : decode b_A_join 0 = .ok (.aload_n 0, 1) := by decide +kernel
theorem d_A_join_1 : decode b_A_join 1 = .ok (.aload_n 0, 1) := by decide +kernel
theorem d_A_join_2 : decode b_A_join 2 = .ok (.iload_n 1, 1) := by decide +kernel
theorem d_A_join_3 : decode b_A_join 3 = .ok (.iload_n 2, 1) := by decide +kernel
theorem d_A_join_4 : decode b_A_join 4 = .ok (.invokevirtual 47, 3) := by decide +kernel
theorem d_A_join_7 : decode b_A_join 7 = .ok (.putfield 28, 3) := by decide +kernel
theorem d_A_join_10 : decode b_A_join 10 = .ok (.aload_n 0, 1) := by decide +kernel
theorem d_A_join_11 : decode b_A_join 11 = .ok (.iload 5, 2) := by decide +kernel
theorem d_A_join_13 : decode b_A_join 13 = .ok (.ifCond .eq 7, 3) := by decide +kernel
theorem d_A_join_16 : decode b_A_join 16 = .ok (.iconst 1, 1) := by decide +kernel
theorem d_A_join_17 : decode b_A_join 17 = .ok (.goto 4, 3) := by decide +kernel
theorem d_A_join_20 : decode b_A_join 20 = .ok (.iconst (-1), 1) := by decide +kernel
theorem d_A_join_21 : decode b_A_join 21 = .ok (.putfield 31, 3) := by decide +kernel
theorem d_A_join_24 : decode b_A_join 24 = .ok (.iconst 4, 1) := by decide +kernel
theorem d_A_join_25 : decode b_A_join 25 = .ok (.aload_n 0, 1) := by decide +kernel
theorem d_A_join_26 : decode b_A_join 26 = .ok (.getfield 25, 3) := by decide +kernel
theorem d_A_join_29 : decode b_A_join 29 = .ok (.imul, 1) := by decide +kernel
theorem d_A_join_30 : decode b_A_join 30 = .ok (.istore 6, 2) := by decide +kernel
theorem d_A_join_32 : decode b_A_join 32 = .ok (.aload_n 0, 1) := by decide +kernel
theorem d_A_join_33 : decode b_A_join 33 = .ok (.getfield 31, 3) := by decide +kernel
theorem d_A_join_36 : decode b_A_join 36 = .ok (.aload_n 0, 1) := by decide +kernel
theorem d_A_join_37 : decode b_A_join 37 = .ok (.iload_n 3, 1) := by decide +kernel
theorem d_A_join_38 : decode b_A_join 38 = .ok (.iload 4, 2) := by decide +kernel
theorem d_A_join_40 : decode b_A_join 40 = .ok (.invokevirtual 47, 3) := by decide +kernel
theorem d_A_join_43 : decode b_A_join 43 = .ok (.aload_n 0, 1) := by decide +kernel
theorem d_A_join_44 : decode b_A_join 44 = .ok (.getfield 28, 3) := by decide +kernel
theorem d_A_join_47 : decode b_A_join 47 = .ok (.isub, 1) := by decide +kernel
theorem d_A_join_48 : decode b_A_join 48 = .ok (.imul, 1) := by decide +kernel
theorem d_A_join_49 : decode b_A_join 49 = .ok (.iload 6, 2) := by decide +kernel
theorem d_A_join_51 : decode b_A_join 51 = .ok (.invokestatic 50, 3) := by decide +kernel
theorem d_A_join_54 : decode b_A_join 54 = .ok (.istore 7, 2) := by decide +kernel
theorem d_A_join_56 : decode b_A_join 56 = .ok (.aload_n 0, 1) := by decide +kernel
theorem d_A_join_57 : decode b_A_join 57 = .ok (.iload 7, 2) := by decide +kernel
theorem d_A_join_59 : decode b_A_join 59 = .ok (.ifCond .ne 8, 3) := by decide +kernel
theorem d_A_join_62 : decode b_A_join 62 = .ok (.iload 6, 2) := by decide +kernel
theorem d_A_join_64 : decode b_A_join 64 = .ok (.goto 5, 3) := by decide +kernel
theorem d_A_join_67 : decode b_A_join 67 = .ok (.iload 7, 2) := by decide +kernel
theorem d_A_join_69 : decode b_A_join 69 = .ok (.putfield 34, 3) := by decide +kernel
theorem d_A_join_72 : decode b_A_join 72 = .ok (.return_, 1) := by decide +kernel
theorem d_A_size_0 : decode b_A_size 0 = .ok (.aload_n 0, 1) := by decide +kernel
theorem d_A_size_1 : decode b_A_size 1 = .ok (.getfield 34, 3) := by decide +kernel
theorem d_A_size_4 : decode b_A_size 4 = .ok (.ireturn, 1) := by decide +kernel
theorem d_A_xAfter_0 : decode b_A_xAfter 0 = .ok (.aload_n 0, 1) := by decide +kernel
theorem d_A_xAfter_1 : decode b_A_xAfter 1 = .ok (.getfield 15, 3) := by decide +kernel
theorem d_A_xAfter_4 : decode b_A_xAfter 4 = .ok (.aload_n 0, 1) := by decide +kernel
theorem d_A_xAfter_5 : decode b_A_xAfter 5 = .ok (.aload_n 0, 1) := by decide +kernel
theorem d_A_xAfter_6 : decode b_A_xAfter 6 = .ok (.getfield 28, 3) := by decide +kernel
theorem d_A_xAfter_9 : decode b_A_xAfter 9 = .ok (.aload_n 0, 1) := by decide +kernel
theorem d_A_xAfter_10 : decode b_A_xAfter 10 = .ok (.getfield 31, 3) := by decide +kernel
theorem d_A_xAfter_13 : decode b_A_xAfter 13 = .ok (.iload_n 1, 1) := by decide +kernel
theorem d_A_xAfter_14 : decode b_A_xAfter 14 = .ok (.imul, 1) := by decide +kernel
theorem d_A_xAfter_15 : decode b_A_xAfter 15 = .ok (.iadd, 1) := by decide +kernel
theorem d_A_xAfter_16 : decode b_A_xAfter 16 = .ok (.invokevirtual 53, 3) := by decide +kernel
theorem d_A_xAfter_19 : decode b_A_xAfter 19 = .ok (.iadd, 1) := by decide +kernel
theorem d_A_xAfter_20 : decode b_A_xAfter 20 = .ok (.ireturn, 1) := by decide +kernel
theorem d_A_yAfter_0 : decode b_A_yAfter 0 = .ok (.aload_n 0, 1) := by decide +kernel
theorem d_A_yAfter_1 : decode b_A_yAfter 1 = .ok (.getfield 19, 3) := by decide +kernel
theorem d_A_yAfter_4 : decode b_A_yAfter 4 = .ok (.aload_n 0, 1) := by decide +kernel
theorem d_A_yAfter_5 : decode b_A_yAfter 5 = .ok (.aload_n 0, 1) := by decide +kernel
theorem d_A_yAfter_6 : decode b_A_yAfter 6 = .ok (.getfield 28, 3) := by decide +kernel
theorem d_A_yAfter_9 : decode b_A_yAfter 9 = .ok (.aload_n 0, 1) := by decide +kernel
theorem d_A_yAfter_10 : decode b_A_yAfter 10 = .ok (.getfield 31, 3) := by decide +kernel
theorem d_A_yAfter_13 : decode b_A_yAfter 13 = .ok (.iload_n 1, 1) := by decide +kernel
theorem d_A_yAfter_14 : decode b_A_yAfter 14 = .ok (.imul, 1) := by decide +kernel
theorem d_A_yAfter_15 : decode b_A_yAfter 15 = .ok (.iadd, 1) := by decide +kernel
theorem d_A_yAfter_16 : decode b_A_yAfter 16 = .ok (.aload_n 0, 1) := by decide +kernel
theorem d_A_yAfter_17 : decode b_A_yAfter 17 = .ok (.getfield 25, 3) := by decide +kernel
theorem d_A_yAfter_20 : decode b_A_yAfter 20 = .ok (.isub, 1) := by decide +kernel
theorem d_A_yAfter_21 : decode b_A_yAfter 21 = .ok (.invokevirtual 53, 3) := by decide +kernel
theorem d_A_yAfter_24 : decode b_A_yAfter 24 = .ok (.iadd, 1) := by decide +kernel
theorem d_A_yAfter_25 : decode b_A_yAfter 25 = .ok (.ireturn, 1) := by decide +kernel
theorem d_A_xOf_0 : decode b_A_xOf 0 = .ok (.iload_n 1, 1) := by decide +kernel
theorem d_A_xOf_1 : decode b_A_xOf 1 = .ok (.iconst 4, 1) := by decide +kernel
theorem d_A_xOf_2 : decode b_A_xOf 2 = .ok (.aload_n 0, 1) := by decide +kernel
theorem d_A_xOf_3 : decode b_A_xOf 3 = .ok (.getfield 25, 3) := by decide +kernel
theorem d_A_xOf_6 : decode b_A_xOf 6 = .ok (.imul, 1) := by decide +kernel
theorem d_A_xOf_7 : decode b_A_xOf 7 = .ok (.invokestatic 50, 3) := by decide +kernel
theorem d_A_xOf_10 : decode b_A_xOf 10 = .ok (.istore_n 2, 1) := by decide +kernel
theorem d_A_xOf_11 : decode b_A_xOf 11 = .ok (.iload_n 2, 1) := by decide +kernel
theorem d_A_xOf_12 : decode b_A_xOf 12 = .ok (.aload_n 0, 1) := by decide +kernel
theorem d_A_xOf_13 : decode b_A_xOf 13 = .ok (.getfield 25, 3) := by decide +kernel
theorem d_A_xOf_16 : decode b_A_xOf 16 = .ok (.irem, 1) := by decide +kernel
theorem d_A_xOf_17 : decode b_A_xOf 17 = .ok (.aload_n 0, 1) := by decide +kernel
theorem d_A_xOf_18 : decode b_A_xOf 18 = .ok (.getfield 22, 3) := by decide +kernel
theorem d_A_xOf_21 : decode b_A_xOf 21 = .ok (.isub, 1) := by decide +kernel
theorem d_A_xOf_22 : decode b_A_xOf 22 = .ok (.istore_n 3, 1) := by decide +kernel
theorem d_A_xOf_23 : decode b_A_xOf 23 = .ok (.iload_n 2, 1) := by decide +kernel
theorem d_A_xOf_24 : decode b_A_xOf 24 = .ok (.aload_n 0, 1) := by decide +kernel
theorem d_A_xOf_25 : decode b_A_xOf 25 = .ok (.getfield 25, 3) := by decide +kernel
theorem d_A_xOf_28 : decode b_A_xOf 28 = .ok (.idiv, 1) := by decide +kernel
theorem d_A_xOf_29 : decode b_A_xOf 29 = .ok (.tableswitch 43 0 2 #[27, 33, 36], 27) := by decide +kernel
theorem d_A_xOf_56 : decode b_A_xOf 56 = .ok (.aload_n 0, 1) := by decide +kernel
theorem d_A_xOf_57 : decode b_A_xOf 57 = .ok (.iload_n 3, 1) := by decide +kernel
theorem d_A_xOf_58 : decode b_A_xOf 58 = .ok (.invokevirtual 56, 3) := by decide +kernel
theorem d_A_xOf_61 : decode b_A_xOf 61 = .ok (.ireturn, 1) := by decide +kernel
theorem d_A_xOf_62 : decode b_A_xOf 62 = .ok (.iload_n 3, 1) := by decide +kernel
theorem d_A_xOf_63 : decode b_A_xOf 63 = .ok (.ineg, 1) := by decide +kernel
theorem d_A_xOf_64 : decode b_A_xOf 64 = .ok (.ireturn, 1) := by decide +kernel
theorem d_A_xOf_65 : decode b_A_xOf 65 = .ok (.aload_n 0, 1) := by decide +kernel
theorem d_A_xOf_66 : decode b_A_xOf 66 = .ok (.iload_n 3, 1) := by decide +kernel
theorem d_A_xOf_67 : decode b_A_xOf 67 = .ok (.invokevirtual 56, 3) := by decide +kernel
theorem d_A_xOf_70 : decode b_A_xOf 70 = .ok (.ineg, 1) := by decide +kernel
theorem d_A_xOf_71 : decode b_A_xOf 71 = .ok (.ireturn, 1) := by decide +kernel
theorem d_A_xOf_72 : decode b_A_xOf 72 = .ok (.iload_n 3, 1) := by decide +kernel
theorem d_A_xOf_73 : decode b_A_xOf 73 = .ok (.ireturn, 1) := by decide +kernel
theorem d_A_numberOf_0 : decode b_A_numberOf 0 = .ok (.iload_n 1, 1) := by decide +kernel
theorem d_A_numberOf_1 : decode b_A_numberOf 1 = .ok (.istore_n 3, 1) := by decide +kernel
theorem d_A_numberOf_2 : decode b_A_numberOf 2 = .ok (.iload_n 2, 1) := by decide +kernel
theorem d_A_numberOf_3 : decode b_A_numberOf 3 = .ok (.istore 4, 2) := by decide +kernel
theorem d_A_numberOf_5 : decode b_A_numberOf 5 = .ok (.iconst 0, 1) := by decide +kernel
theorem d_A_numberOf_6 : decode b_A_numberOf 6 = .ok (.istore 5, 2) := by decide +kernel
theorem d_A_numberOf_8 : decode b_A_numberOf 8 = .ok (.iload 5, 2) := by decide +kernel
theorem d_A_numberOf_10 : decode b_A_numberOf 10 = .ok (.iconst 4, 1) := by decide +kernel
theorem d_A_numberOf_11 : decode b_A_numberOf 11 = .ok (.if_icmp .ge 82, 3) := by decide +kernel
theorem d_A_numberOf_14 : decode b_A_numberOf 14 = .ok (.iload 4, 2) := by decide +kernel
theorem d_A_numberOf_16 : decode b_A_numberOf 16 = .ok (.aload_n 0, 1) := by decide +kernel
theorem d_A_numberOf_17 : decode b_A_numberOf 17 = .ok (.getfield 22, 3) := by decide +kernel
theorem d_A_numberOf_20 : decode b_A_numberOf 20 = .ok (.ineg, 1) := by decide +kernel
theorem d_A_numberOf_21 : decode b_A_numberOf 21 = .ok (.if_icmp .lt 21, 3) := by decide +kernel
theorem d_A_numberOf_24 : decode b_A_numberOf 24 = .ok (.iload 4, 2) := by decide +kernel
theorem d_A_numberOf_26 : decode b_A_numberOf 26 = .ok (.aload_n 0, 1) := by decide +kernel
theorem d_A_numberOf_27 : decode b_A_numberOf 27 = .ok (.getfield 25, 3) := by decide +kernel
theorem d_A_numberOf_30 : decode b_A_numberOf 30 = .ok (.aload_n 0, 1) := by decide +kernel
theorem d_A_numberOf_31 : decode b_A_numberOf 31 = .ok (.getfield 22, 3) := by decide +kernel
theorem d_A_numberOf_34 : decode b_A_numberOf 34 = .ok (.isub, 1) := by decide +kernel
theorem d_A_numberOf_35 : decode b_A_numberOf 35 = .ok (.if_icmp .ge 7, 3) := by decide +kernel
theorem d_A_numberOf_38 : decode b_A_numberOf 38 = .ok (.iconst 1, 1) := by decide +kernel
theorem d_A_numberOf_39 : decode b_A_numberOf 39 = .ok (.goto 4, 3) := by decide +kernel
theorem d_A_numberOf_42 : decode b_A_numberOf 42 = .ok (.iconst 0, 1) := by decide +kernel
theorem d_A_numberOf_43 : decode b_A_numberOf 43 = .ok (.istore 6, 2) := by decide +kernel
theorem d_A_numberOf_45 : decode b_A_numberOf 45 = .ok (.iload 6, 2) := by decide +kernel
theorem d_A_numberOf_47 : decode b_A_numberOf 47 = .ok (.ifCond .eq 29, 3) := by decide +kernel
theorem d_A_numberOf_50 : decode b_A_numberOf 50 = .ok (.iload_n 3, 1) := by decide +kernel
theorem d_A_numberOf_51 : decode b_A_numberOf 51 = .ok (.aload_n 0, 1) := by decide +kernel
theorem d_A_numberOf_52 : decode b_A_numberOf 52 = .ok (.iload 4, 2) := by decide +kernel
theorem d_A_numberOf_54 : decode b_A_numberOf 54 = .ok (.invokevirtual 56, 3) := by decide +kernel
theorem d_A_numberOf_57 : decode b_A_numberOf 57 = .ok (.if_icmp .ne 19, 3) := by decide +kernel
theorem d_A_numberOf_60 : decode b_A_numberOf 60 = .ok (.iload 5, 2) := by decide +kernel
theorem d_A_numberOf_62 : decode b_A_numberOf 62 = .ok (.aload_n 0, 1) := by decide +kernel
theorem d_A_numberOf_63 : decode b_A_numberOf 63 = .ok (.getfield 25, 3) := by decide +kernel
theorem d_A_numberOf_66 : decode b_A_numberOf 66 = .ok (.imul, 1) := by decide +kernel
theorem d_A_numberOf_67 : decode b_A_numberOf 67 = .ok (.iload 4, 2) := by decide +kernel
theorem d_A_numberOf_69 : decode b_A_numberOf 69 = .ok (.iadd, 1) := by decide +kernel
theorem d_A_numberOf_70 : decode b_A_numberOf 70 = .ok (.aload_n 0, 1) := by decide +kernel
theorem d_A_numberOf_71 : decode b_A_numberOf 71 = .ok (.getfield 22, 3) := by decide +kernel
theorem d_A_numberOf_74 : decode b_A_numberOf 74 = .ok (.iadd, 1) := by decide +kernel
theorem d_A_numberOf_75 : decode b_A_numberOf 75 = .ok (.ireturn, 1) := by decide +kernel
theorem d_A_numberOf_76 : decode b_A_numberOf 76 = .ok (.iload_n 3, 1) := by decide +kernel
theorem d_A_numberOf_77 : decode b_A_numberOf 77 = .ok (.ineg, 1) := by decide +kernel
theorem d_A_numberOf_78 : decode b_A_numberOf 78 = .ok (.istore 7, 2) := by decide +kernel
theorem d_A_numberOf_80 : decode b_A_numberOf 80 = .ok (.iload 4, 2) := by decide +kernel
theorem d_A_numberOf_82 : decode b_A_numberOf 82 = .ok (.istore_n 3, 1) := by decide +kernel
theorem d_A_numberOf_83 : decode b_A_numberOf 83 = .ok (.iload 7, 2) := by decide +kernel
theorem d_A_numberOf_85 : decode b_A_numberOf 85 = .ok (.istore 4, 2) := by decide +kernel
theorem d_A_numberOf_87 : decode b_A_numberOf 87 = .ok (.iinc 5 1, 3) := by decide +kernel
theorem d_A_numberOf_90 : decode b_A_numberOf 90 = .ok (.goto (-82), 3) := by decide +kernel
theorem d_A_numberOf_93 : decode b_A_numberOf 93 = .ok (.iconst 0, 1) := by decide +kernel
theorem d_A_numberOf_94 : decode b_A_numberOf 94 = .ok (.ireturn, 1) := by decide +kernel
theorem d_A_reachAt_0 : decode b_A_reachAt 0 = .ok (.iload_n 1, 1) := by decide +kernel
theorem d_A_reachAt_1 : decode b_A_reachAt 1 = .ok (.ifCond .ge 8, 3) := by decide +kernel
theorem d_A_reachAt_4 : decode b_A_reachAt 4 = .ok (.iload_n 1, 1) := by decide +kernel
theorem d_A_reachAt_5 : decode b_A_reachAt 5 = .ok (.ineg, 1) := by decide +kernel
theorem d_A_reachAt_6 : decode b_A_reachAt 6 = .ok (.goto 4, 3) := by decide +kernel
theorem d_A_reachAt_9 : decode b_A_reachAt 9 = .ok (.iload_n 1, 1) := by decide +kernel
theorem d_A_reachAt_10 : decode b_A_reachAt 10 = .ok (.istore_n 2, 1) := by decide +kernel
theorem d_A_reachAt_11 : decode b_A_reachAt 11 = .ok (.iload_n 2, 1) := by decide +kernel
theorem d_A_reachAt_12 : decode b_A_reachAt 12 = .ok (.ifCond .lt 21, 3) := by decide +kernel
theorem d_A_reachAt_15 : decode b_A_reachAt 15 = .ok (.iload_n 2, 1) := by decide +kernel
theorem d_A_reachAt_16 : decode b_A_reachAt 16 = .ok (.aload_n 0, 1) := by decide +kernel
theorem d_A_reachAt_17 : decode b_A_reachAt 17 = .ok (.getfield 9, 3) := by decide +kernel
theorem d_A_reachAt_20 : decode b_A_reachAt 20 = .ok (.arraylength, 1) := by decide +kernel
theorem d_A_reachAt_21 : decode b_A_reachAt 21 = .ok (.if_icmp .ge 12, 3) := by decide +kernel
theorem d_A_reachAt_24 : decode b_A_reachAt 24 = .ok (.aload_n 0, 1) := by decide +kernel
theorem d_A_reachAt_25 : decode b_A_reachAt 25 = .ok (.getfield 9, 3) := by decide +kernel
theorem d_A_reachAt_28 : decode b_A_reachAt 28 = .ok (.iload_n 2, 1) := by decide +kernel
theorem d_A_reachAt_29 : decode b_A_reachAt 29 = .ok (.iaload, 1) := by decide +kernel
theorem d_A_reachAt_30 : decode b_A_reachAt 30 = .ok (.goto 4, 3) := by decide +kernel
theorem d_A_reachAt_33 : decode b_A_reachAt 33 = .ok (.iconst 0, 1) := by decide +kernel
theorem d_A_reachAt_34 : decode b_A_reachAt 34 = .ok (.ireturn, 1) := by decide +kernel
def wq_A_reachAt_10 (Q : Int32 → Prop) (ar : Nat → Int32) (s0 : Int32) : Prop := ((s0 < 0 → (Q (0 : Int32))) ∧ (¬ s0 < 0 → (((202 : Int32) ≤ s0 → (Q (0 : Int32))) ∧ (¬ (202 : Int32) ≤ s0 → (vp_in s0 202 ∧ (Q (ar s0.toNatClampNeg)))))))
def wp_A_reachAt (x1 : Int32) (ar : Nat → Int32) (Q : Int32 → Prop) : Prop := ((0 ≤ x1 → (wq_A_reachAt_10 Q ar x1)) ∧ (¬ 0 ≤ x1 → (wq_A_reachAt_10 Q ar (-x1))))
abbrev rm_A_reachAt : Room := { frames := 0, cells := 0, slots := 0, locals := 0 }
set_option maxRecDepth 100000 in
set_option maxHeartbeats 4000000 in
theorem c_A_reachAt (l : Launch) {D : va_G} {X : xT} {a : Nat → Nat} {K : Nat → ClassId} {tl : va_W} {e0 e1 e2 e3 e4 e5 e6 e7 : Nat × va_E} {x1 r_centreX r_centreY r_diagonal r_side r_first r_turn r_size : Int32} {ar : Nat → Int32} {Q : Int32 → Prop} : MI l y_A_reachAt b_A_reachAt 3 rm_A_reachAt D cls (tys K) X [.ref (a 8), .int x1] (e0 :: e1 :: e2 :: e3 :: e4 :: e5 :: e6 :: e7 :: (o_A a r_centreX r_centreY r_diagonal r_side r_first r_turn r_size) :: (o_ar a K ar) :: tl) (fun _ : Unit => e0 :: e1 :: e2 :: e3 :: e4 :: e5 :: e6 :: e7 :: (o_A a r_centreX r_centreY r_diagonal r_side r_first r_turn r_size) :: (o_ar a K ar) :: tl) (wp_A_reachAt x1 ar Q) (fun r _ => Q r) := by
  refine my_of_I (by decide +kernel) (Nat.le_of_ble_eq_true rfl) (fun p e s m args below meth c A QQ H locs ls hx hb hts hown hml hK hX hA hP hD hS hl hw hret => ?_)
  replace hl : lv_has ls 3 [(0, .ref (a 8)), (1, .int x1)] := hl
  have J10 : ∀ (H : Heap) (locs : List Loc) (ls : Array Slot) (s0 : Int32), va_P D cls (e0 :: e1 :: e2 :: e3 :: e4 :: e5 :: e6 :: e7 :: (o_A a r_centreX r_centreY r_diagonal r_side r_first r_turn r_size) :: (o_ar a K ar) :: tl) H → va_D A (e0 :: e1 :: e2 :: e3 :: e4 :: e5 :: e6 :: e7 :: (o_A a r_centreX r_centreY r_diagonal r_side r_first r_turn r_size) :: (o_ar a K ar) :: tl) → va_S A s.heap H locs → lv_has ls 3 [(0, .ref (a 8))] → wq_A_reachAt_10 Q ar s0 → W p l e rm_A_reachAt s m args below meth c H locs 0 0 QQ (F0 m 10 ls [.int s0]) := by
    intro H locs ls s0 hP hD hS hl hw
    unfold wq_A_reachAt_10 at hw
    refine lv_istore_n (lv' := [(2, .int s0), (0, .ref (a 8))]) hx hb d_A_reachAt_10 rfl hl (Nat.le_of_ble_eq_true rfl) rfl (fun ls hl => ?_)
    refine lv_iload_n hx hb d_A_reachAt_11 rfl (lv_at hl 0 rfl) ?_
    refine lv_if_lt (tgt := 33) hx hb d_A_reachAt_12 (by decide) (fun hc => ?_) (fun hc => ?_)
    · replace hw := hw.1 hc
      refine lv_iconst (v := (0 : Int32)) hx hb d_A_reachAt_33 (by decide) ?_
      exact hret H locs ls 34 ((0 : Int32)) (()) d_A_reachAt_34 hP hD hS hw
    · replace hw := hw.2 hc
      refine lv_iload_n hx hb d_A_reachAt_15 rfl (lv_at hl 0 rfl) ?_
      refine lv_aload_n hx hb d_A_reachAt_16 rfl (lv_at hl 1 rfl) ?_
      refine g_A_reach hx hb hts hown hK hP 8 rfl rfl d_A_reachAt_17 ?_
      refine va_alen (v := (202 : Int32)) hx hb hK hP 9 4 rfl rfl (by rfl) d_A_reachAt_20 ?_
      refine lv_icmp_ge (tgt := 33) hx hb d_A_reachAt_21 (by decide) (fun hc => ?_) (fun hc => ?_)
      · replace hw := hw.1 hc
        refine lv_iconst (v := (0 : Int32)) hx hb d_A_reachAt_33 (by decide) ?_
        exact hret H locs ls 34 ((0 : Int32)) (()) d_A_reachAt_34 hP hD hS hw
      · replace hw := hw.2 hc
        refine lv_aload_n hx hb d_A_reachAt_24 rfl (lv_at hl 1 rfl) ?_
        refine g_A_reach hx hb hts hown hK hP 8 rfl rfl d_A_reachAt_25 ?_
        refine lv_iload_n hx hb d_A_reachAt_28 rfl (lv_at hl 0 rfl) ?_
        refine va_iald hx hb hK hP 9 4 rfl rfl hw.1 d_A_reachAt_29 ?_
        replace hw := hw.2
        refine lv_goto (tgt := 34) hx hb d_A_reachAt_30 (by decide) ?_
        exact hret H locs ls 34 (ar s0.toNatClampNeg) (()) d_A_reachAt_34 hP hD hS hw
  unfold wp_A_reachAt at hw
  refine lv_iload_n hx hb d_A_reachAt_0 rfl (lv_at hl 1 rfl) ?_
  refine lv_if_ge (tgt := 9) hx hb d_A_reachAt_1 (by decide) (fun hc => ?_) (fun hc => ?_)
  · replace hw := hw.1 hc
    refine lv_iload_n hx hb d_A_reachAt_9 rfl (lv_at hl 1 rfl) ?_
    exact J10 H locs ls x1 hP hD hS (lv_sub hl [0] rfl) hw
  · replace hw := hw.2 hc
    refine lv_iload_n hx hb d_A_reachAt_4 rfl (lv_at hl 1 rfl) ?_
    refine lv_ineg hx hb d_A_reachAt_5 ?_
    refine lv_goto (tgt := 10) hx hb d_A_reachAt_6 (by decide) ?_
    exact J10 H locs ls (-x1) hP hD hS (lv_sub hl [0] rfl) hw
def wp_A_xOf (x1 r_diagonal r_side : Int32) (ar : Nat → Int32) (Q : Int32 → Prop) : Prop := (wp_Jm_floorMod x1 ((4 : Int32) * r_side) (fun r7 => (¬ r_side = 0 ∧ (¬ r_side = 0 ∧ (((r7 / r_side) = (0 : Int32) → (wp_A_reachAt ((r7 - r7 / r_side * r_side) - r_diagonal) ar (fun r58 => (Q r58)))) ∧ (¬ (r7 / r_side) = (0 : Int32) → (((r7 / r_side) = (1 : Int32) → (Q (-((r7 - r7 / r_side * r_side) - r_diagonal)))) ∧ (¬ (r7 / r_side) = (1 : Int32) → (((r7 / r_side) = (2 : Int32) → (wp_A_reachAt ((r7 - r7 / r_side * r_side) - r_diagonal) ar (fun r67 => (Q (-r67))))) ∧ (¬ (r7 / r_side) = (2 : Int32) → (Q ((r7 - r7 / r_side * r_side) - r_diagonal))))))))))))
abbrev rm_A_xOf : Room := { frames := 1, cells := 0, slots := 0, locals := 22 }
set_option maxRecDepth 100000 in
set_option maxHeartbeats 4000000 in
theorem c_A_xOf (l : Launch) {D : va_G} {X : xT} {a : Nat → Nat} {K : Nat → ClassId} {tl : va_W} {e0 e1 e2 e3 e4 e5 e6 e7 : Nat × va_E} {x1 r_centreX r_centreY r_diagonal r_side r_first r_turn r_size : Int32} {ar : Nat → Int32} {Q : Int32 → Prop} : MI l y_A_xOf b_A_xOf 4 rm_A_xOf D cls (tys K) X [.ref (a 8), .int x1] (e0 :: e1 :: e2 :: e3 :: e4 :: e5 :: e6 :: e7 :: (o_A a r_centreX r_centreY r_diagonal r_side r_first r_turn r_size) :: (o_ar a K ar) :: tl) (fun _ : Unit => e0 :: e1 :: e2 :: e3 :: e4 :: e5 :: e6 :: e7 :: (o_A a r_centreX r_centreY r_diagonal r_side r_first r_turn r_size) :: (o_ar a K ar) :: tl) (wp_A_xOf x1 r_diagonal r_side ar Q) (fun r _ => Q r) := by
  refine my_of_I (by decide +kernel) (Nat.le_of_ble_eq_true rfl) (fun p e s m args below meth c A QQ H locs ls hx hb hts hown hml hK hX hA hP hD hS hl hw hret => ?_)
  replace hl : lv_has ls 4 [(0, .ref (a 8)), (1, .int x1)] := hl
  unfold wp_A_xOf at hw
  refine lv_iload_n hx hb d_A_xOf_0 rfl (lv_at hl 1 rfl) ?_
  refine lv_iconst (v := (4 : Int32)) hx hb d_A_xOf_1 (by decide) ?_
  refine lv_aload_n hx hb d_A_xOf_2 rfl (lv_at hl 0 rfl) ?_
  refine g_A_side hx hb hts hown hK hP 8 rfl rfl d_A_xOf_3 ?_
  refine lv_imul hx hb d_A_xOf_6 ?_
  refine my_calli (va_runS (As := [.int x1, .int ((4 : Int32) * r_side)]) (rest := []) ⟨hx, hb, hml, hown, hts⟩ (c_Jm_floorMod l H.size) (cw_A_50 hts ⟨Nat.le_of_ble_eq_true rfl, Nat.le_of_ble_eq_true rfl⟩) (my_preS hK hP hX hD hS hA hw) rfl rfl hl.1 rfl (lv_room (Nat.le_of_ble_eq_true rfl)) d_A_xOf_7 ⟨Nat.le_refl _, Nat.le_refl _⟩) hD hS hA (fun r7 _ H locs hw hP hD hS => ?_)
  have hP : va_P D cls (e0 :: e1 :: e2 :: e3 :: e4 :: e5 :: e6 :: e7 :: (o_A a r_centreX r_centreY r_diagonal r_side r_first r_turn r_size) :: (o_ar a K ar) :: tl) H := hP
  have hD : va_D A (e0 :: e1 :: e2 :: e3 :: e4 :: e5 :: e6 :: e7 :: (o_A a r_centreX r_centreY r_diagonal r_side r_first r_turn r_size) :: (o_ar a K ar) :: tl) := hD
  refine lv_istore_n (lv' := [(2, .int r7), (0, .ref (a 8)), (1, .int x1)]) hx hb d_A_xOf_10 rfl hl (Nat.le_of_ble_eq_true rfl) rfl (fun ls hl => ?_)
  refine lv_iload_n hx hb d_A_xOf_11 rfl (lv_at hl 0 rfl) ?_
  refine lv_aload_n hx hb d_A_xOf_12 rfl (lv_at hl 1 rfl) ?_
  refine g_A_side hx hb hts hown hK hP 8 rfl rfl d_A_xOf_13 ?_
  refine lv_irem hx hb d_A_xOf_16 hw.1 ?_
  replace hw := hw.2
  refine lv_aload_n hx hb d_A_xOf_17 rfl (lv_at hl 1 rfl) ?_
  refine g_A_diagonal hx hb hts hown hK hP 8 rfl rfl d_A_xOf_18 ?_
  refine lv_isub hx hb d_A_xOf_21 ?_
  refine lv_istore_n (lv' := [(3, .int ((r7 - r7 / r_side * r_side) - r_diagonal)), (2, .int r7), (0, .ref (a 8)), (1, .int x1)]) hx hb d_A_xOf_22 rfl hl (Nat.le_of_ble_eq_true rfl) rfl (fun ls hl => ?_)
  refine lv_iload_n hx hb d_A_xOf_23 rfl (lv_at hl 1 rfl) ?_
  refine lv_aload_n hx hb d_A_xOf_24 rfl (lv_at hl 2 rfl) ?_
  refine g_A_side hx hb hts hown hK hP 8 rfl rfl d_A_xOf_25 ?_
  refine lv_idiv hx hb d_A_xOf_28 hw.1 ?_
  replace hw := hw.2
  by_cases hc0 : r7 / r_side = (0 : Int32)
  · replace hw := hw.1 hc0
    refine lv_tableIn (off := 27) (tgt := 56) hx hb d_A_xOf_29 (by rw [hc0]; decide) (by rw [hc0]; decide) (by rw [hc0]; rfl) (by decide) ?_
    refine lv_aload_n hx hb d_A_xOf_56 rfl (lv_at hl 2 rfl) ?_
    refine lv_iload_n hx hb d_A_xOf_57 rfl (lv_at hl 0 rfl) ?_
    refine my_calli (va_runV (As := [.int ((r7 - r7 / r_side * r_side) - r_diagonal)]) (rest := []) ⟨hx, hb, hml, hown, hts⟩ (c_A_reachAt l H.size) (cw_A_56 hts ⟨Nat.le_of_ble_eq_true rfl, Nat.le_of_ble_eq_true rfl⟩) (my_preV hK hP hX hD hS hA 8 rfl rfl hw) rfl rfl hl.1 rfl (lv_room (Nat.le_of_ble_eq_true rfl)) d_A_xOf_58 ⟨Nat.le_refl _, Nat.le_refl _⟩) hD hS hA (fun r58 _ H locs hw hP hD hS => ?_)
    have hP : va_P D cls (e0 :: e1 :: e2 :: e3 :: e4 :: e5 :: e6 :: e7 :: (o_A a r_centreX r_centreY r_diagonal r_side r_first r_turn r_size) :: (o_ar a K ar) :: tl) H := hP
    have hD : va_D A (e0 :: e1 :: e2 :: e3 :: e4 :: e5 :: e6 :: e7 :: (o_A a r_centreX r_centreY r_diagonal r_side r_first r_turn r_size) :: (o_ar a K ar) :: tl) := hD
    exact hret H locs ls 61 (r58) (()) d_A_xOf_61 hP hD hS hw
  · replace hw := hw.2 hc0
    by_cases hc1 : r7 / r_side = (1 : Int32)
    · replace hw := hw.1 hc1
      refine lv_tableIn (off := 33) (tgt := 62) hx hb d_A_xOf_29 (by rw [hc1]; decide) (by rw [hc1]; decide) (by rw [hc1]; rfl) (by decide) ?_
      refine lv_iload_n hx hb d_A_xOf_62 rfl (lv_at hl 0 rfl) ?_
      refine lv_ineg hx hb d_A_xOf_63 ?_
      exact hret H locs ls 64 (-((r7 - r7 / r_side * r_side) - r_diagonal)) (()) d_A_xOf_64 hP hD hS hw
    · replace hw := hw.2 hc1
      by_cases hc2 : r7 / r_side = (2 : Int32)
      · replace hw := hw.1 hc2
        refine lv_tableIn (off := 36) (tgt := 65) hx hb d_A_xOf_29 (by rw [hc2]; decide) (by rw [hc2]; decide) (by rw [hc2]; rfl) (by decide) ?_
        refine lv_aload_n hx hb d_A_xOf_65 rfl (lv_at hl 2 rfl) ?_
        refine lv_iload_n hx hb d_A_xOf_66 rfl (lv_at hl 0 rfl) ?_
        refine my_calli (va_runV (As := [.int ((r7 - r7 / r_side * r_side) - r_diagonal)]) (rest := []) ⟨hx, hb, hml, hown, hts⟩ (c_A_reachAt l H.size) (cw_A_56 hts ⟨Nat.le_of_ble_eq_true rfl, Nat.le_of_ble_eq_true rfl⟩) (my_preV hK hP hX hD hS hA 8 rfl rfl hw) rfl rfl hl.1 rfl (lv_room (Nat.le_of_ble_eq_true rfl)) d_A_xOf_67 ⟨Nat.le_refl _, Nat.le_refl _⟩) hD hS hA (fun r67 _ H locs hw hP hD hS => ?_)
        have hP : va_P D cls (e0 :: e1 :: e2 :: e3 :: e4 :: e5 :: e6 :: e7 :: (o_A a r_centreX r_centreY r_diagonal r_side r_first r_turn r_size) :: (o_ar a K ar) :: tl) H := hP
        have hD : va_D A (e0 :: e1 :: e2 :: e3 :: e4 :: e5 :: e6 :: e7 :: (o_A a r_centreX r_centreY r_diagonal r_side r_first r_turn r_size) :: (o_ar a K ar) :: tl) := hD
        refine lv_ineg hx hb d_A_xOf_70 ?_
        exact hret H locs ls 71 (-r67) (()) d_A_xOf_71 hP hD hS hw
      · replace hw := hw.2 hc2
        refine lv_tableOut (tgt := 72) hx hb d_A_xOf_29 (by
                have h0 := lv_neT (a := 0) hc0 (by decide)
                have h1 := lv_neT (a := 1) hc1 (by decide)
                have h2 := lv_neT (a := 2) hc2 (by decide)
                omega) (by decide) ?_
        refine lv_iload_n hx hb d_A_xOf_72 rfl (lv_at hl 0 rfl) ?_
        exact hret H locs ls 73 ((r7 - r7 / r_side * r_side) - r_diagonal) (()) d_A_xOf_73 hP hD hS hw
def wq_A_numberOf_76 (Q : Int32 → Prop) (K8 : Int32 → Int32 → Int32 → Prop) (r_diagonal r_side : Int32) (ar : Nat → Int32) (x3 x4 x5 : Int32) : Prop := (K8 x4 (-x3) (x5 + (1 : Int32)))
def wq_A_numberOf_43 (Q : Int32 → Prop) (K8 : Int32 → Int32 → Int32 → Prop) (r_diagonal r_side : Int32) (ar : Nat → Int32) (x3 x4 x5 s0 : Int32) : Prop := ((s0 = 0 → (wq_A_numberOf_76 Q K8 r_diagonal r_side ar x3 x4 x5)) ∧ (¬ s0 = 0 → (wp_A_reachAt x4 ar (fun r54 => ((¬ x3 = r54 → (wq_A_numberOf_76 Q K8 r_diagonal r_side ar x3 x4 x5)) ∧ (x3 = r54 → (Q (((x5 * r_side) + x4) + r_diagonal))))))))
def wq_A_numberOf_42 (Q : Int32 → Prop) (K8 : Int32 → Int32 → Int32 → Prop) (r_diagonal r_side : Int32) (ar : Nat → Int32) (x3 x4 x5 : Int32) : Prop := (wq_A_numberOf_43 Q K8 r_diagonal r_side ar x3 x4 x5 (0 : Int32))
def wq_A_numberOf_8 (Q : Int32 → Prop) (r_diagonal r_side : Int32) (ar : Nat → Int32) : Nat → Int32 → Int32 → Int32 → Prop
  | 0, _, _, _ => False
  | n8 + 1, x3, x4, x5 => (((4 : Int32) ≤ x5 → (Q (0 : Int32))) ∧ (¬ (4 : Int32) ≤ x5 → ((x4 < (-r_diagonal) → (wq_A_numberOf_42 Q (fun x3 x4 x5 => wq_A_numberOf_8 Q r_diagonal r_side ar n8 x3 x4 x5) r_diagonal r_side ar x3 x4 x5)) ∧ (¬ x4 < (-r_diagonal) → (((r_side - r_diagonal) ≤ x4 → (wq_A_numberOf_42 Q (fun x3 x4 x5 => wq_A_numberOf_8 Q r_diagonal r_side ar n8 x3 x4 x5) r_diagonal r_side ar x3 x4 x5)) ∧ (¬ (r_side - r_diagonal) ≤ x4 → (wq_A_numberOf_43 Q (fun x3 x4 x5 => wq_A_numberOf_8 Q r_diagonal r_side ar n8 x3 x4 x5) r_diagonal r_side ar x3 x4 x5 (1 : Int32))))))))
def wp_A_numberOf (x1 x2 r_diagonal r_side : Int32) (ar : Nat → Int32) (Q : Int32 → Prop) : Prop := (∃ n8 : Nat, wq_A_numberOf_8 Q r_diagonal r_side ar n8 x1 x2 (0 : Int32))
abbrev rm_A_numberOf : Room := { frames := 1, cells := 0, slots := 0, locals := 22 }
set_option maxRecDepth 100000 in
set_option maxHeartbeats 4000000 in
theorem c_A_numberOf (l : Launch) {D : va_G} {X : xT} {a : Nat → Nat} {K : Nat → ClassId} {tl : va_W} {e0 e1 e2 e3 e4 e5 e6 e7 : Nat × va_E} {x1 x2 r_centreX r_centreY r_diagonal r_side r_first r_turn r_size : Int32} {ar : Nat → Int32} {Q : Int32 → Prop} : MI l y_A_numberOf b_A_numberOf 8 rm_A_numberOf D cls (tys K) X [.ref (a 8), .int x1, .int x2] (e0 :: e1 :: e2 :: e3 :: e4 :: e5 :: e6 :: e7 :: (o_A a r_centreX r_centreY r_diagonal r_side r_first r_turn r_size) :: (o_ar a K ar) :: tl) (fun _ : Unit => e0 :: e1 :: e2 :: e3 :: e4 :: e5 :: e6 :: e7 :: (o_A a r_centreX r_centreY r_diagonal r_side r_first r_turn r_size) :: (o_ar a K ar) :: tl) (wp_A_numberOf x1 x2 r_diagonal r_side ar Q) (fun r _ => Q r) := by
  refine my_of_I (by decide +kernel) (Nat.le_of_ble_eq_true rfl) (fun p e s m args below meth c A QQ H locs ls hx hb hts hown hml hK hX hA hP hD hS hl hw hret => ?_)
  replace hl : lv_has ls 8 [(0, .ref (a 8)), (1, .int x1), (2, .int x2)] := hl
  have J76 : ∀ (K8 : Int32 → Int32 → Int32 → Prop) (hK8 : ∀ (H : Heap) (locs : List Loc) (ls : Array Slot) (x3 x4 x5 : Int32), va_P D cls (e0 :: e1 :: e2 :: e3 :: e4 :: e5 :: e6 :: e7 :: (o_A a r_centreX r_centreY r_diagonal r_side r_first r_turn r_size) :: (o_ar a K ar) :: tl) H → va_D A (e0 :: e1 :: e2 :: e3 :: e4 :: e5 :: e6 :: e7 :: (o_A a r_centreX r_centreY r_diagonal r_side r_first r_turn r_size) :: (o_ar a K ar) :: tl) → va_S A s.heap H locs → lv_has ls 8 [(0, .ref (a 8)), (3, .int x3), (4, .int x4), (5, .int x5)] → K8 x3 x4 x5 → W p l e rm_A_numberOf s m args below meth c H locs 0 0 QQ (F0 m 8 ls [])) (H : Heap) (locs : List Loc) (ls : Array Slot) (x3 x4 x5 : Int32), va_P D cls (e0 :: e1 :: e2 :: e3 :: e4 :: e5 :: e6 :: e7 :: (o_A a r_centreX r_centreY r_diagonal r_side r_first r_turn r_size) :: (o_ar a K ar) :: tl) H → va_D A (e0 :: e1 :: e2 :: e3 :: e4 :: e5 :: e6 :: e7 :: (o_A a r_centreX r_centreY r_diagonal r_side r_first r_turn r_size) :: (o_ar a K ar) :: tl) → va_S A s.heap H locs → lv_has ls 8 [(0, .ref (a 8)), (3, .int x3), (4, .int x4), (5, .int x5)] → wq_A_numberOf_76 Q K8 r_diagonal r_side ar x3 x4 x5 → W p l e rm_A_numberOf s m args below meth c H locs 0 0 QQ (F0 m 76 ls []) := by
    intro K8 hK8 H locs ls x3 x4 x5 hP hD hS hl hw
    unfold wq_A_numberOf_76 at hw
    refine lv_iload_n hx hb d_A_numberOf_76 rfl (lv_at hl 1 rfl) ?_
    refine lv_ineg hx hb d_A_numberOf_77 ?_
    refine lv_istore (lv' := [(7, .int (-x3)), (0, .ref (a 8)), (3, .int x3), (4, .int x4), (5, .int x5)]) hx hb d_A_numberOf_78 hl (Nat.le_of_ble_eq_true rfl) rfl (fun ls hl => ?_)
    refine lv_iload hx hb d_A_numberOf_80 (lv_at hl 3 rfl) ?_
    refine lv_istore_n (lv' := [(3, .int x4), (7, .int (-x3)), (0, .ref (a 8)), (4, .int x4), (5, .int x5)]) hx hb d_A_numberOf_82 rfl hl (Nat.le_of_ble_eq_true rfl) rfl (fun ls hl => ?_)
    refine lv_iload hx hb d_A_numberOf_83 (lv_at hl 1 rfl) ?_
    refine lv_istore (lv' := [(4, .int (-x3)), (3, .int x4), (7, .int (-x3)), (0, .ref (a 8)), (5, .int x5)]) hx hb d_A_numberOf_85 hl (Nat.le_of_ble_eq_true rfl) rfl (fun ls hl => ?_)
    refine lv_iinc (k := 4) (v := x5 + (1 : Int32)) (lv' := [(5, .int (x5 + (1 : Int32))), (4, .int (-x3)), (3, .int x4), (7, .int (-x3)), (0, .ref (a 8))]) hx hb d_A_numberOf_87 hl rfl (iinc_1 _) (Nat.le_of_ble_eq_true rfl) rfl (fun ls hl => ?_)
    refine lv_goto (tgt := 8) hx hb d_A_numberOf_90 (by decide) ?_
    exact hK8 H locs ls x4 (-x3) (x5 + (1 : Int32)) hP hD hS (lv_sub hl [4, 2, 1, 0] rfl) hw
  have J43 : ∀ (K8 : Int32 → Int32 → Int32 → Prop) (hK8 : ∀ (H : Heap) (locs : List Loc) (ls : Array Slot) (x3 x4 x5 : Int32), va_P D cls (e0 :: e1 :: e2 :: e3 :: e4 :: e5 :: e6 :: e7 :: (o_A a r_centreX r_centreY r_diagonal r_side r_first r_turn r_size) :: (o_ar a K ar) :: tl) H → va_D A (e0 :: e1 :: e2 :: e3 :: e4 :: e5 :: e6 :: e7 :: (o_A a r_centreX r_centreY r_diagonal r_side r_first r_turn r_size) :: (o_ar a K ar) :: tl) → va_S A s.heap H locs → lv_has ls 8 [(0, .ref (a 8)), (3, .int x3), (4, .int x4), (5, .int x5)] → K8 x3 x4 x5 → W p l e rm_A_numberOf s m args below meth c H locs 0 0 QQ (F0 m 8 ls [])) (H : Heap) (locs : List Loc) (ls : Array Slot) (x3 x4 x5 s0 : Int32), va_P D cls (e0 :: e1 :: e2 :: e3 :: e4 :: e5 :: e6 :: e7 :: (o_A a r_centreX r_centreY r_diagonal r_side r_first r_turn r_size) :: (o_ar a K ar) :: tl) H → va_D A (e0 :: e1 :: e2 :: e3 :: e4 :: e5 :: e6 :: e7 :: (o_A a r_centreX r_centreY r_diagonal r_side r_first r_turn r_size) :: (o_ar a K ar) :: tl) → va_S A s.heap H locs → lv_has ls 8 [(0, .ref (a 8)), (3, .int x3), (4, .int x4), (5, .int x5)] → wq_A_numberOf_43 Q K8 r_diagonal r_side ar x3 x4 x5 s0 → W p l e rm_A_numberOf s m args below meth c H locs 0 0 QQ (F0 m 43 ls [.int s0]) := by
    intro K8 hK8 H locs ls x3 x4 x5 s0 hP hD hS hl hw
    unfold wq_A_numberOf_43 at hw
    refine lv_istore (lv' := [(6, .int s0), (0, .ref (a 8)), (3, .int x3), (4, .int x4), (5, .int x5)]) hx hb d_A_numberOf_43 hl (Nat.le_of_ble_eq_true rfl) rfl (fun ls hl => ?_)
    refine lv_iload hx hb d_A_numberOf_45 (lv_at hl 0 rfl) ?_
    refine lv_if_eq (tgt := 76) hx hb d_A_numberOf_47 (by decide) (fun hc => ?_) (fun hc => ?_)
    · replace hw := hw.1 hc
      exact J76 K8 hK8 H locs ls x3 x4 x5 hP hD hS (lv_sub hl [1, 2, 3, 4] rfl) hw
    · replace hw := hw.2 hc
      refine lv_iload_n hx hb d_A_numberOf_50 rfl (lv_at hl 2 rfl) ?_
      refine lv_aload_n hx hb d_A_numberOf_51 rfl (lv_at hl 1 rfl) ?_
      refine lv_iload hx hb d_A_numberOf_52 (lv_at hl 3 rfl) ?_
      refine my_calli (va_runV (As := [.int x4]) (rest := [.int x3]) ⟨hx, hb, hml, hown, hts⟩ (c_A_reachAt l H.size) (cw_A_56 hts ⟨Nat.le_of_ble_eq_true rfl, Nat.le_of_ble_eq_true rfl⟩) (my_preV hK hP hX hD hS hA 8 rfl rfl hw) rfl rfl hl.1 rfl (lv_room (Nat.le_of_ble_eq_true rfl)) d_A_numberOf_54 ⟨Nat.le_refl _, Nat.le_refl _⟩) hD hS hA (fun r54 _ H locs hw hP hD hS => ?_)
      have hP : va_P D cls (e0 :: e1 :: e2 :: e3 :: e4 :: e5 :: e6 :: e7 :: (o_A a r_centreX r_centreY r_diagonal r_side r_first r_turn r_size) :: (o_ar a K ar) :: tl) H := hP
      have hD : va_D A (e0 :: e1 :: e2 :: e3 :: e4 :: e5 :: e6 :: e7 :: (o_A a r_centreX r_centreY r_diagonal r_side r_first r_turn r_size) :: (o_ar a K ar) :: tl) := hD
      refine lv_icmp_ne (tgt := 76) hx hb d_A_numberOf_57 (by decide) (fun hc => ?_) (fun hc => ?_)
      · replace hw := hw.1 hc
        exact J76 K8 hK8 H locs ls x3 x4 x5 hP hD hS (lv_sub hl [1, 2, 3, 4] rfl) hw
      · replace hw := hw.2 hc
        refine lv_iload hx hb d_A_numberOf_60 (lv_at hl 4 rfl) ?_
        refine lv_aload_n hx hb d_A_numberOf_62 rfl (lv_at hl 1 rfl) ?_
        refine g_A_side hx hb hts hown hK hP 8 rfl rfl d_A_numberOf_63 ?_
        refine lv_imul hx hb d_A_numberOf_66 ?_
        refine lv_iload hx hb d_A_numberOf_67 (lv_at hl 3 rfl) ?_
        refine lv_iadd hx hb d_A_numberOf_69 ?_
        refine lv_aload_n hx hb d_A_numberOf_70 rfl (lv_at hl 1 rfl) ?_
        refine g_A_diagonal hx hb hts hown hK hP 8 rfl rfl d_A_numberOf_71 ?_
        refine lv_iadd hx hb d_A_numberOf_74 ?_
        exact hret H locs ls 75 (((x5 * r_side) + x4) + r_diagonal) (()) d_A_numberOf_75 hP hD hS hw
  have J42 : ∀ (K8 : Int32 → Int32 → Int32 → Prop) (hK8 : ∀ (H : Heap) (locs : List Loc) (ls : Array Slot) (x3 x4 x5 : Int32), va_P D cls (e0 :: e1 :: e2 :: e3 :: e4 :: e5 :: e6 :: e7 :: (o_A a r_centreX r_centreY r_diagonal r_side r_first r_turn r_size) :: (o_ar a K ar) :: tl) H → va_D A (e0 :: e1 :: e2 :: e3 :: e4 :: e5 :: e6 :: e7 :: (o_A a r_centreX r_centreY r_diagonal r_side r_first r_turn r_size) :: (o_ar a K ar) :: tl) → va_S A s.heap H locs → lv_has ls 8 [(0, .ref (a 8)), (3, .int x3), (4, .int x4), (5, .int x5)] → K8 x3 x4 x5 → W p l e rm_A_numberOf s m args below meth c H locs 0 0 QQ (F0 m 8 ls [])) (H : Heap) (locs : List Loc) (ls : Array Slot) (x3 x4 x5 : Int32), va_P D cls (e0 :: e1 :: e2 :: e3 :: e4 :: e5 :: e6 :: e7 :: (o_A a r_centreX r_centreY r_diagonal r_side r_first r_turn r_size) :: (o_ar a K ar) :: tl) H → va_D A (e0 :: e1 :: e2 :: e3 :: e4 :: e5 :: e6 :: e7 :: (o_A a r_centreX r_centreY r_diagonal r_side r_first r_turn r_size) :: (o_ar a K ar) :: tl) → va_S A s.heap H locs → lv_has ls 8 [(0, .ref (a 8)), (3, .int x3), (4, .int x4), (5, .int x5)] → wq_A_numberOf_42 Q K8 r_diagonal r_side ar x3 x4 x5 → W p l e rm_A_numberOf s m args below meth c H locs 0 0 QQ (F0 m 42 ls []) := by
    intro K8 hK8 H locs ls x3 x4 x5 hP hD hS hl hw
    unfold wq_A_numberOf_42 at hw
    refine lv_iconst (v := (0 : Int32)) hx hb d_A_numberOf_42 (by decide) ?_
    exact J43 K8 hK8 H locs ls x3 x4 x5 (0 : Int32) hP hD hS (lv_sub hl [0, 1, 2, 3] rfl) hw
  have J8 : ∀ (n8 : Nat) (H : Heap) (locs : List Loc) (ls : Array Slot) (x3 x4 x5 : Int32), va_P D cls (e0 :: e1 :: e2 :: e3 :: e4 :: e5 :: e6 :: e7 :: (o_A a r_centreX r_centreY r_diagonal r_side r_first r_turn r_size) :: (o_ar a K ar) :: tl) H → va_D A (e0 :: e1 :: e2 :: e3 :: e4 :: e5 :: e6 :: e7 :: (o_A a r_centreX r_centreY r_diagonal r_side r_first r_turn r_size) :: (o_ar a K ar) :: tl) → va_S A s.heap H locs → lv_has ls 8 [(0, .ref (a 8)), (3, .int x3), (4, .int x4), (5, .int x5)] → wq_A_numberOf_8 Q r_diagonal r_side ar n8 x3 x4 x5 → W p l e rm_A_numberOf s m args below meth c H locs 0 0 QQ (F0 m 8 ls []) := by
    intro n8
    induction n8 with
    | zero => intro H locs ls x3 x4 x5 hP hD hS hl hw; exact False.elim hw
    | succ n8 ih =>
      intro H locs ls x3 x4 x5 hP hD hS hl hw
      unfold wq_A_numberOf_8 at hw
      refine lv_iload hx hb d_A_numberOf_8 (lv_at hl 3 rfl) ?_
      refine lv_iconst (v := (4 : Int32)) hx hb d_A_numberOf_10 (by decide) ?_
      refine lv_icmp_ge (tgt := 93) hx hb d_A_numberOf_11 (by decide) (fun hc => ?_) (fun hc => ?_)
      · replace hw := hw.1 hc
        refine lv_iconst (v := (0 : Int32)) hx hb d_A_numberOf_93 (by decide) ?_
        exact hret H locs ls 94 ((0 : Int32)) (()) d_A_numberOf_94 hP hD hS hw
      · replace hw := hw.2 hc
        refine lv_iload hx hb d_A_numberOf_14 (lv_at hl 2 rfl) ?_
        refine lv_aload_n hx hb d_A_numberOf_16 rfl (lv_at hl 0 rfl) ?_
        refine g_A_diagonal hx hb hts hown hK hP 8 rfl rfl d_A_numberOf_17 ?_
        refine lv_ineg hx hb d_A_numberOf_20 ?_
        refine lv_icmp_lt (tgt := 42) hx hb d_A_numberOf_21 (by decide) (fun hc => ?_) (fun hc => ?_)
        · replace hw := hw.1 hc
          exact J42 (fun x3 x4 x5 => wq_A_numberOf_8 Q r_diagonal r_side ar n8 x3 x4 x5) ih H locs ls x3 x4 x5 hP hD hS (lv_sub hl [0, 1, 2, 3] rfl) hw
        · replace hw := hw.2 hc
          refine lv_iload hx hb d_A_numberOf_24 (lv_at hl 2 rfl) ?_
          refine lv_aload_n hx hb d_A_numberOf_26 rfl (lv_at hl 0 rfl) ?_
          refine g_A_side hx hb hts hown hK hP 8 rfl rfl d_A_numberOf_27 ?_
          refine lv_aload_n hx hb d_A_numberOf_30 rfl (lv_at hl 0 rfl) ?_
          refine g_A_diagonal hx hb hts hown hK hP 8 rfl rfl d_A_numberOf_31 ?_
          refine lv_isub hx hb d_A_numberOf_34 ?_
          refine lv_icmp_ge (tgt := 42) hx hb d_A_numberOf_35 (by decide) (fun hc => ?_) (fun hc => ?_)
          · replace hw := hw.1 hc
            exact J42 (fun x3 x4 x5 => wq_A_numberOf_8 Q r_diagonal r_side ar n8 x3 x4 x5) ih H locs ls x3 x4 x5 hP hD hS (lv_sub hl [0, 1, 2, 3] rfl) hw
          · replace hw := hw.2 hc
            refine lv_iconst (v := (1 : Int32)) hx hb d_A_numberOf_38 (by decide) ?_
            refine lv_goto (tgt := 43) hx hb d_A_numberOf_39 (by decide) ?_
            exact J43 (fun x3 x4 x5 => wq_A_numberOf_8 Q r_diagonal r_side ar n8 x3 x4 x5) ih H locs ls x3 x4 x5 (1 : Int32) hP hD hS (lv_sub hl [0, 1, 2, 3] rfl) hw
  unfold wp_A_numberOf at hw
  refine lv_iload_n hx hb d_A_numberOf_0 rfl (lv_at hl 1 rfl) ?_
  refine lv_istore_n (lv' := [(3, .int x1), (0, .ref (a 8)), (1, .int x1), (2, .int x2)]) hx hb d_A_numberOf_1 rfl hl (Nat.le_of_ble_eq_true rfl) rfl (fun ls hl => ?_)
  refine lv_iload_n hx hb d_A_numberOf_2 rfl (lv_at hl 3 rfl) ?_
  refine lv_istore (lv' := [(4, .int x2), (3, .int x1), (0, .ref (a 8)), (1, .int x1), (2, .int x2)]) hx hb d_A_numberOf_3 hl (Nat.le_of_ble_eq_true rfl) rfl (fun ls hl => ?_)
  refine lv_iconst (v := (0 : Int32)) hx hb d_A_numberOf_5 (by decide) ?_
  refine lv_istore (lv' := [(5, .int (0 : Int32)), (4, .int x2), (3, .int x1), (0, .ref (a 8)), (1, .int x1), (2, .int x2)]) hx hb d_A_numberOf_6 hl (Nat.le_of_ble_eq_true rfl) rfl (fun ls hl => ?_)
  obtain ⟨n8, hw⟩ := hw
  exact J8 n8 H locs ls x1 x2 (0 : Int32) hP hD hS (lv_sub hl [3, 2, 1, 0] rfl) hw
def wp_A_size (r_size : Int32) (Q : Int32 → Prop) : Prop := (Q r_size)
abbrev rm_A_size : Room := { frames := 0, cells := 0, slots := 0, locals := 0 }
set_option maxRecDepth 100000 in
set_option maxHeartbeats 4000000 in
theorem c_A_size (l : Launch) {D : va_G} {X : xT} {a : Nat → Nat} {K : Nat → ClassId} {tl : va_W} {e0 e1 e2 e3 e4 e5 e6 e7 : Nat × va_E} {r_centreX r_centreY r_diagonal r_side r_first r_turn r_size : Int32} {Q : Int32 → Prop} : MI l y_A_size b_A_size 1 rm_A_size D cls (tys K) X [.ref (a 8)] (e0 :: e1 :: e2 :: e3 :: e4 :: e5 :: e6 :: e7 :: (o_A a r_centreX r_centreY r_diagonal r_side r_first r_turn r_size) :: tl) (fun _ : Unit => e0 :: e1 :: e2 :: e3 :: e4 :: e5 :: e6 :: e7 :: (o_A a r_centreX r_centreY r_diagonal r_side r_first r_turn r_size) :: tl) (wp_A_size r_size Q) (fun r _ => Q r) := by
  refine my_of_I (by decide +kernel) (Nat.le_of_ble_eq_true rfl) (fun p e s m args below meth c A QQ H locs ls hx hb hts hown hml hK hX hA hP hD hS hl hw hret => ?_)
  replace hl : lv_has ls 1 [(0, .ref (a 8))] := hl
  unfold wp_A_size at hw
  refine lv_aload_n hx hb d_A_size_0 rfl (lv_at hl 0 rfl) ?_
  refine g_A_size hx hb hts hown hK hP 8 rfl rfl d_A_size_1 ?_
  exact hret H locs ls 4 (r_size) (()) d_A_size_4 hP hD hS hw
def wp_A_xAfter (x1 r_centreX r_diagonal r_side r_first r_turn : Int32) (ar : Nat → Int32) (Q : Int32 → Prop) : Prop := (wp_A_xOf (r_first + (r_turn * x1)) r_diagonal r_side ar (fun r16 => (Q (r_centreX + r16))))
abbrev rm_A_xAfter : Room := { frames := 2, cells := 0, slots := 0, locals := 45 }
set_option maxRecDepth 100000 in
set_option maxHeartbeats 4000000 in
theorem c_A_xAfter (l : Launch) {D : va_G} {X : xT} {a : Nat → Nat} {K : Nat → ClassId} {tl : va_W} {e0 e1 e2 e3 e4 e5 e6 e7 : Nat × va_E} {x1 r_centreX r_centreY r_diagonal r_side r_first r_turn r_size : Int32} {ar : Nat → Int32} {Q : Int32 → Prop} : MI l y_A_xAfter b_A_xAfter 2 rm_A_xAfter D cls (tys K) X [.ref (a 8), .int x1] (e0 :: e1 :: e2 :: e3 :: e4 :: e5 :: e6 :: e7 :: (o_A a r_centreX r_centreY r_diagonal r_side r_first r_turn r_size) :: (o_ar a K ar) :: tl) (fun _ : Unit => e0 :: e1 :: e2 :: e3 :: e4 :: e5 :: e6 :: e7 :: (o_A a r_centreX r_centreY r_diagonal r_side r_first r_turn r_size) :: (o_ar a K ar) :: tl) (wp_A_xAfter x1 r_centreX r_diagonal r_side r_first r_turn ar Q) (fun r _ => Q r) := by
  refine my_of_I (by decide +kernel) (Nat.le_of_ble_eq_true rfl) (fun p e s m args below meth c A QQ H locs ls hx hb hts hown hml hK hX hA hP hD hS hl hw hret => ?_)
  replace hl : lv_has ls 2 [(0, .ref (a 8)), (1, .int x1)] := hl
  unfold wp_A_xAfter at hw
  refine lv_aload_n hx hb d_A_xAfter_0 rfl (lv_at hl 0 rfl) ?_
  refine g_A_centreX hx hb hts hown hK hP 8 rfl rfl d_A_xAfter_1 ?_
  refine lv_aload_n hx hb d_A_xAfter_4 rfl (lv_at hl 0 rfl) ?_
  refine lv_aload_n hx hb d_A_xAfter_5 rfl (lv_at hl 0 rfl) ?_
  refine g_A_first hx hb hts hown hK hP 8 rfl rfl d_A_xAfter_6 ?_
  refine lv_aload_n hx hb d_A_xAfter_9 rfl (lv_at hl 0 rfl) ?_
  refine g_A_turn hx hb hts hown hK hP 8 rfl rfl d_A_xAfter_10 ?_
  refine lv_iload_n hx hb d_A_xAfter_13 rfl (lv_at hl 1 rfl) ?_
  refine lv_imul hx hb d_A_xAfter_14 ?_
  refine lv_iadd hx hb d_A_xAfter_15 ?_
  refine my_calli (va_runV (As := [.int (r_first + (r_turn * x1))]) (rest := [.int r_centreX]) ⟨hx, hb, hml, hown, hts⟩ (c_A_xOf l H.size) (cw_A_53 hts ⟨Nat.le_of_ble_eq_true rfl, Nat.le_of_ble_eq_true rfl⟩) (my_preV hK hP hX hD hS hA 8 rfl rfl hw) rfl rfl hl.1 rfl (lv_room (Nat.le_of_ble_eq_true rfl)) d_A_xAfter_16 ⟨Nat.le_refl _, Nat.le_refl _⟩) hD hS hA (fun r16 _ H locs hw hP hD hS => ?_)
  have hP : va_P D cls (e0 :: e1 :: e2 :: e3 :: e4 :: e5 :: e6 :: e7 :: (o_A a r_centreX r_centreY r_diagonal r_side r_first r_turn r_size) :: (o_ar a K ar) :: tl) H := hP
  have hD : va_D A (e0 :: e1 :: e2 :: e3 :: e4 :: e5 :: e6 :: e7 :: (o_A a r_centreX r_centreY r_diagonal r_side r_first r_turn r_size) :: (o_ar a K ar) :: tl) := hD
  refine lv_iadd hx hb d_A_xAfter_19 ?_
  exact hret H locs ls 20 (r_centreX + r16) (()) d_A_xAfter_20 hP hD hS hw
def wp_A_yAfter (x1 r_centreY r_diagonal r_side r_first r_turn : Int32) (ar : Nat → Int32) (Q : Int32 → Prop) : Prop := (wp_A_xOf ((r_first + (r_turn * x1)) - r_side) r_diagonal r_side ar (fun r21 => (Q (r_centreY + r21))))
abbrev rm_A_yAfter : Room := { frames := 2, cells := 0, slots := 0, locals := 45 }
set_option maxRecDepth 100000 in
set_option maxHeartbeats 4000000 in
theorem c_A_yAfter (l : Launch) {D : va_G} {X : xT} {a : Nat → Nat} {K : Nat → ClassId} {tl : va_W} {e0 e1 e2 e3 e4 e5 e6 e7 : Nat × va_E} {x1 r_centreX r_centreY r_diagonal r_side r_first r_turn r_size : Int32} {ar : Nat → Int32} {Q : Int32 → Prop} : MI l y_A_yAfter b_A_yAfter 2 rm_A_yAfter D cls (tys K) X [.ref (a 8), .int x1] (e0 :: e1 :: e2 :: e3 :: e4 :: e5 :: e6 :: e7 :: (o_A a r_centreX r_centreY r_diagonal r_side r_first r_turn r_size) :: (o_ar a K ar) :: tl) (fun _ : Unit => e0 :: e1 :: e2 :: e3 :: e4 :: e5 :: e6 :: e7 :: (o_A a r_centreX r_centreY r_diagonal r_side r_first r_turn r_size) :: (o_ar a K ar) :: tl) (wp_A_yAfter x1 r_centreY r_diagonal r_side r_first r_turn ar Q) (fun r _ => Q r) := by
  refine my_of_I (by decide +kernel) (Nat.le_of_ble_eq_true rfl) (fun p e s m args below meth c A QQ H locs ls hx hb hts hown hml hK hX hA hP hD hS hl hw hret => ?_)
  replace hl : lv_has ls 2 [(0, .ref (a 8)), (1, .int x1)] := hl
  unfold wp_A_yAfter at hw
  refine lv_aload_n hx hb d_A_yAfter_0 rfl (lv_at hl 0 rfl) ?_
  refine g_A_centreY hx hb hts hown hK hP 8 rfl rfl d_A_yAfter_1 ?_
  refine lv_aload_n hx hb d_A_yAfter_4 rfl (lv_at hl 0 rfl) ?_
  refine lv_aload_n hx hb d_A_yAfter_5 rfl (lv_at hl 0 rfl) ?_
  refine g_A_first hx hb hts hown hK hP 8 rfl rfl d_A_yAfter_6 ?_
  refine lv_aload_n hx hb d_A_yAfter_9 rfl (lv_at hl 0 rfl) ?_
  refine g_A_turn hx hb hts hown hK hP 8 rfl rfl d_A_yAfter_10 ?_
  refine lv_iload_n hx hb d_A_yAfter_13 rfl (lv_at hl 1 rfl) ?_
  refine lv_imul hx hb d_A_yAfter_14 ?_
  refine lv_iadd hx hb d_A_yAfter_15 ?_
  refine lv_aload_n hx hb d_A_yAfter_16 rfl (lv_at hl 0 rfl) ?_
  refine g_A_side hx hb hts hown hK hP 8 rfl rfl d_A_yAfter_17 ?_
  refine lv_isub hx hb d_A_yAfter_20 ?_
  refine my_calli (va_runV (As := [.int ((r_first + (r_turn * x1)) - r_side)]) (rest := [.int r_centreY]) ⟨hx, hb, hml, hown, hts⟩ (c_A_xOf l H.size) (cw_A_53 hts ⟨Nat.le_of_ble_eq_true rfl, Nat.le_of_ble_eq_true rfl⟩) (my_preV hK hP hX hD hS hA 8 rfl rfl hw) rfl rfl hl.1 rfl (lv_room (Nat.le_of_ble_eq_true rfl)) d_A_yAfter_21 ⟨Nat.le_refl _, Nat.le_refl _⟩) hD hS hA (fun r21 _ H locs hw hP hD hS => ?_)
  have hP : va_P D cls (e0 :: e1 :: e2 :: e3 :: e4 :: e5 :: e6 :: e7 :: (o_A a r_centreX r_centreY r_diagonal r_side r_first r_turn r_size) :: (o_ar a K ar) :: tl) H := hP
  have hD : va_D A (e0 :: e1 :: e2 :: e3 :: e4 :: e5 :: e6 :: e7 :: (o_A a r_centreX r_centreY r_diagonal r_side r_first r_turn r_size) :: (o_ar a K ar) :: tl) := hD
  refine lv_iadd hx hb d_A_yAfter_24 ?_
  exact hret H locs ls 25 (r_centreY + r21) (()) d_A_yAfter_25 hP hD hS hw
def wq_A_radius_2 (Q : Int32 → Prop)  : Nat → Int32 → Int32 → Prop
  | 0, _, _ => False
  | n2 + 1, x0, x1 => (((200 : Int32) < x1 → (Q x1)) ∧ (¬ (200 : Int32) < x1 → ((((4 : Int32) * x0) < ((((2 : Int32) * x1) + (1 : Int32)) * (((2 : Int32) * x1) + (1 : Int32))) → (Q x1)) ∧ (¬ ((4 : Int32) * x0) < ((((2 : Int32) * x1) + (1 : Int32)) * (((2 : Int32) * x1) + (1 : Int32))) → (wq_A_radius_2 Q n2 x0 (x1 + (1 : Int32)))))))
def wp_A_radius (x0 : Int32) (Q : Int32 → Prop) : Prop := (∃ n2 : Nat, wq_A_radius_2 Q n2 x0 (0 : Int32))
abbrev rm_A_radius : Room := { frames := 0, cells := 0, slots := 0, locals := 0 }
set_option maxRecDepth 100000 in
set_option maxHeartbeats 4000000 in
theorem c_A_radius (l : Launch) {D : va_G} {X : xT} {K : Nat → ClassId} {tl : va_W} {x0 : Int32} {Q : Int32 → Prop} : MI l y_A_radius b_A_radius 2 rm_A_radius D cls (tys K) X [.int x0] (tl) (fun _ : Unit => tl) (wp_A_radius x0 Q) (fun r _ => Q r) := by
  refine my_of_I (by decide +kernel) (Nat.le_of_ble_eq_true rfl) (fun p e s m args below meth c A QQ H locs ls hx hb hts hown hml hK hX hA hP hD hS hl hw hret => ?_)
  replace hl : lv_has ls 2 [(0, .int x0)] := hl
  have J2 : ∀ (n2 : Nat) (H : Heap) (locs : List Loc) (ls : Array Slot) (x0 x1 : Int32), va_P D cls (tl) H → va_D A (tl) → va_S A s.heap H locs → lv_has ls 2 [(0, .int x0), (1, .int x1)] → wq_A_radius_2 Q n2 x0 x1 → W p l e rm_A_radius s m args below meth c H locs 0 0 QQ (F0 m 2 ls []) := by
    intro n2
    induction n2 with
    | zero => intro H locs ls x0 x1 hP hD hS hl hw; exact False.elim hw
    | succ n2 ih =>
      intro H locs ls x0 x1 hP hD hS hl hw
      unfold wq_A_radius_2 at hw
      refine lv_iload_n hx hb d_A_radius_2 rfl (lv_at hl 1 rfl) ?_
      refine lv_sipush (v := (200 : Int32)) hx hb d_A_radius_3 (by decide) ?_
      refine lv_icmp_gt (tgt := 32) hx hb d_A_radius_6 (by decide) (fun hc => ?_) (fun hc => ?_)
      · replace hw := hw.1 hc
        refine lv_iload_n hx hb d_A_radius_32 rfl (lv_at hl 1 rfl) ?_
        exact hret H locs ls 33 (x1) (()) d_A_radius_33 hP hD hS hw
      · replace hw := hw.2 hc
        refine lv_iconst (v := (2 : Int32)) hx hb d_A_radius_9 (by decide) ?_
        refine lv_iload_n hx hb d_A_radius_10 rfl (lv_at hl 1 rfl) ?_
        refine lv_imul hx hb d_A_radius_11 ?_
        refine lv_iconst (v := (1 : Int32)) hx hb d_A_radius_12 (by decide) ?_
        refine lv_iadd hx hb d_A_radius_13 ?_
        refine lv_iconst (v := (2 : Int32)) hx hb d_A_radius_14 (by decide) ?_
        refine lv_iload_n hx hb d_A_radius_15 rfl (lv_at hl 1 rfl) ?_
        refine lv_imul hx hb d_A_radius_16 ?_
        refine lv_iconst (v := (1 : Int32)) hx hb d_A_radius_17 (by decide) ?_
        refine lv_iadd hx hb d_A_radius_18 ?_
        refine lv_imul hx hb d_A_radius_19 ?_
        refine lv_iconst (v := (4 : Int32)) hx hb d_A_radius_20 (by decide) ?_
        refine lv_iload_n hx hb d_A_radius_21 rfl (lv_at hl 0 rfl) ?_
        refine lv_imul hx hb d_A_radius_22 ?_
        refine lv_icmp_gt (tgt := 32) hx hb d_A_radius_23 (by decide) (fun hc => ?_) (fun hc => ?_)
        · replace hw := hw.1 hc
          refine lv_iload_n hx hb d_A_radius_32 rfl (lv_at hl 1 rfl) ?_
          exact hret H locs ls 33 (x1) (()) d_A_radius_33 hP hD hS hw
        · replace hw := hw.2 hc
          refine lv_iinc (k := 1) (v := x1 + (1 : Int32)) (lv' := [(1, .int (x1 + (1 : Int32))), (0, .int x0)]) hx hb d_A_radius_26 hl rfl (iinc_1 _) (Nat.le_of_ble_eq_true rfl) rfl (fun ls hl => ?_)
          refine lv_goto (tgt := 2) hx hb d_A_radius_29 (by decide) ?_
          exact ih H locs ls x0 (x1 + (1 : Int32)) hP hD hS (lv_sub hl [1, 0] rfl) hw
  unfold wp_A_radius at hw
  refine lv_iconst (v := (0 : Int32)) hx hb d_A_radius_0 (by decide) ?_
  refine lv_istore_n (lv' := [(1, .int (0 : Int32)), (0, .int x0)]) hx hb d_A_radius_1 rfl hl (Nat.le_of_ble_eq_true rfl) rfl (fun ls hl => ?_)
  obtain ⟨n2, hw⟩ := hw
  exact J2 n2 H locs ls x0 (0 : Int32) hP hD hS (lv_sub hl [1, 0] rfl) hw
def wq_A_lay_100 (Q : Int32 → Int32 → Int32 → Int32 → (Nat → Int32) → Prop) (r_centreX r_centreY r_diagonal r_side : Int32) (ar : Nat → Int32) : Prop := (vp_in r_diagonal 202 ∧ (wp_Jm_max (1 : Int32) (r_diagonal + (ar r_diagonal.toNatClampNeg)) (fun r116 => (vp_in (r_diagonal + (1 : Int32)) 202 ∧ (Q r_centreX r_centreY r_diagonal r116 (upd ar (r_diagonal + (1 : Int32)).toNatClampNeg (r_diagonal + (1 : Int32))))))))
def wq_A_lay_79 (Q : Int32 → Int32 → Int32 → Int32 → (Nat → Int32) → Prop) (K24 : Int32 → Int32 → Int32 → Int32 → Int32 → Int32 → Int32 → (Nat → Int32) → Prop) (x3 x4 x5 r_centreX r_centreY r_diagonal r_side : Int32) (ar : Nat → Int32) : Prop := (vp_in x5 202 ∧ (K24 x3 x4 (x5 + (1 : Int32)) r_centreX r_centreY x5 r_side (upd ar x5.toNatClampNeg x4)))
def wq_A_lay_43 (Q : Int32 → Int32 → Int32 → Int32 → (Nat → Int32) → Prop) (K24 : Int32 → Int32 → Int32 → Int32 → Int32 → Int32 → Int32 → (Nat → Int32) → Prop)  : Nat → Int32 → Int32 → Int32 → Int32 → Int32 → Int32 → Int32 → (Nat → Int32) → Prop
  | 0, _, _, _, _, _, _, _, _ => False
  | n43 + 1, x3, x4, x5, r_centreX, r_centreY, r_diagonal, r_side, ar => ((x4 ≤ 0 → (wq_A_lay_79 Q K24 x3 x4 x5 r_centreX r_centreY r_diagonal r_side ar)) ∧ (¬ x4 ≤ 0 → ((((((2 : Int32) * x4) - (1 : Int32)) * (((2 : Int32) * x4) - (1 : Int32))) ≤ ((4 : Int32) * (x3 - (x5 * x5))) → (wq_A_lay_79 Q K24 x3 x4 x5 r_centreX r_centreY r_diagonal r_side ar)) ∧ (¬ ((((2 : Int32) * x4) - (1 : Int32)) * (((2 : Int32) * x4) - (1 : Int32))) ≤ ((4 : Int32) * (x3 - (x5 * x5))) → (wq_A_lay_43 Q K24 n43 x3 (x4 + (-1 : Int32)) x5 r_centreX r_centreY r_diagonal r_side ar)))))
def wq_A_lay_24 (Q : Int32 → Int32 → Int32 → Int32 → (Nat → Int32) → Prop)  : Nat → Int32 → Int32 → Int32 → Int32 → Int32 → Int32 → Int32 → (Nat → Int32) → Prop
  | 0, _, _, _, _, _, _, _, _ => False
  | n24 + 1, x3, x4, x5, r_centreX, r_centreY, r_diagonal, r_side, ar => (((200 : Int32) < x5 → (wq_A_lay_100 Q r_centreX r_centreY r_diagonal r_side ar)) ∧ (¬ (200 : Int32) < x5 → ((x3 < (((2 : Int32) * x5) * x5) → (wq_A_lay_100 Q r_centreX r_centreY r_diagonal r_side ar)) ∧ (¬ x3 < (((2 : Int32) * x5) * x5) → (∃ n43 : Nat, wq_A_lay_43 Q (fun x3 x4 x5 r_centreX r_centreY r_diagonal r_side ar => wq_A_lay_24 Q n24 x3 x4 x5 r_centreX r_centreY r_diagonal r_side ar) n43 x3 x4 x5 r_centreX r_centreY r_diagonal r_side ar)))))
def wp_A_lay (x1 x2 x3 r_centreX r_centreY r_diagonal r_side : Int32) (ar : Nat → Int32) (Q : Int32 → Int32 → Int32 → Int32 → (Nat → Int32) → Prop) : Prop := (wp_A_radius x3 (fun r16 => (∃ n24 : Nat, wq_A_lay_24 Q n24 x3 r16 (0 : Int32) x1 x2 (0 : Int32) r_side ar)))
abbrev rm_A_lay : Room := { frames := 1, cells := 0, slots := 0, locals := 21 }
set_option maxRecDepth 100000 in
set_option maxHeartbeats 4000000 in
theorem c_A_lay (l : Launch) {D : va_G} {X : xT} {a : Nat → Nat} {K : Nat → ClassId} {tl : va_W} {e0 e1 e2 e3 e4 e5 e6 e7 : Nat × va_E} {x1 x2 x3 r_centreX r_centreY r_diagonal r_side r_first r_turn r_size : Int32} {ar : Nat → Int32} {Q : Int32 → Int32 → Int32 → Int32 → (Nat → Int32) → Prop} : MV l y_A_lay b_A_lay 6 rm_A_lay D cls (tys K) X [.ref (a 8), .int x1, .int x2, .int x3] (e0 :: e1 :: e2 :: e3 :: e4 :: e5 :: e6 :: e7 :: (o_A a r_centreX r_centreY r_diagonal r_side r_first r_turn r_size) :: (o_ar a K ar) :: tl) (fun u : Int32 × Int32 × Int32 × Int32 × (Nat → Int32) => e0 :: e1 :: e2 :: e3 :: e4 :: e5 :: e6 :: e7 :: (o_A a u.1 u.2.1 u.2.2.1 u.2.2.2.1 r_first r_turn r_size) :: (o_ar a K u.2.2.2.2) :: tl) (wp_A_lay x1 x2 x3 r_centreX r_centreY r_diagonal r_side ar Q) (fun u => Q u.1 u.2.1 u.2.2.1 u.2.2.2.1 u.2.2.2.2) := by
  refine my_of_V (by decide +kernel) (Nat.le_of_ble_eq_true rfl) (fun p e s m args below meth c A QQ H locs ls hx hb hts hown hml hK hX hA hP hD hS hl hw hret => ?_)
  replace hl : lv_has ls 6 [(0, .ref (a 8)), (1, .int x1), (2, .int x2), (3, .int x3)] := hl
  have J100 : ∀ (H : Heap) (locs : List Loc) (ls : Array Slot) (r_centreX r_centreY r_diagonal r_side : Int32) (ar : Nat → Int32), va_P D cls (e0 :: e1 :: e2 :: e3 :: e4 :: e5 :: e6 :: e7 :: (o_A a r_centreX r_centreY r_diagonal r_side r_first r_turn r_size) :: (o_ar a K ar) :: tl) H → va_D A (e0 :: e1 :: e2 :: e3 :: e4 :: e5 :: e6 :: e7 :: (o_A a r_centreX r_centreY r_diagonal r_side r_first r_turn r_size) :: (o_ar a K ar) :: tl) → va_S A s.heap H locs → lv_has ls 6 [(0, .ref (a 8))] → wq_A_lay_100 Q r_centreX r_centreY r_diagonal r_side ar → W p l e rm_A_lay s m args below meth c H locs 0 0 QQ (F0 m 100 ls []) := by
    intro H locs ls r_centreX r_centreY r_diagonal r_side ar hP hD hS hl hw
    unfold wq_A_lay_100 at hw
    refine lv_aload_n hx hb d_A_lay_100 rfl (lv_at hl 0 rfl) ?_
    refine lv_iconst (v := (1 : Int32)) hx hb d_A_lay_101 (by decide) ?_
    refine lv_aload_n hx hb d_A_lay_102 rfl (lv_at hl 0 rfl) ?_
    refine g_A_diagonal hx hb hts hown hK hP 8 rfl rfl d_A_lay_103 ?_
    refine lv_aload_n hx hb d_A_lay_106 rfl (lv_at hl 0 rfl) ?_
    refine g_A_reach hx hb hts hown hK hP 8 rfl rfl d_A_lay_107 ?_
    refine lv_aload_n hx hb d_A_lay_110 rfl (lv_at hl 0 rfl) ?_
    refine g_A_diagonal hx hb hts hown hK hP 8 rfl rfl d_A_lay_111 ?_
    refine va_iald hx hb hK hP 9 4 rfl rfl hw.1 d_A_lay_114 ?_
    replace hw := hw.2
    refine lv_iadd hx hb d_A_lay_115 ?_
    refine my_calli (va_runS (As := [.int (1 : Int32), .int (r_diagonal + (ar r_diagonal.toNatClampNeg))]) (rest := [.ref (a 8)]) ⟨hx, hb, hml, hown, hts⟩ (c_Jm_max l H.size) (cw_A_41 hts ⟨Nat.le_of_ble_eq_true rfl, Nat.le_of_ble_eq_true rfl⟩) (my_preS hK hP hX hD hS hA hw) rfl rfl hl.1 rfl (lv_room (Nat.le_of_ble_eq_true rfl)) d_A_lay_116 ⟨Nat.le_refl _, Nat.le_refl _⟩) hD hS hA (fun r116 _ H locs hw hP hD hS => ?_)
    have hP : va_P D cls (e0 :: e1 :: e2 :: e3 :: e4 :: e5 :: e6 :: e7 :: (o_A a r_centreX r_centreY r_diagonal r_side r_first r_turn r_size) :: (o_ar a K ar) :: tl) H := hP
    have hD : va_D A (e0 :: e1 :: e2 :: e3 :: e4 :: e5 :: e6 :: e7 :: (o_A a r_centreX r_centreY r_diagonal r_side r_first r_turn r_size) :: (o_ar a K ar) :: tl) := hD
    refine u_A_side hx hb hts hown hK hP hD hS 8 rfl rfl d_A_lay_119 (fun H locs hP hD hS => ?_)
    have hP : va_P D cls (e0 :: e1 :: e2 :: e3 :: e4 :: e5 :: e6 :: e7 :: (o_A a r_centreX r_centreY r_diagonal r116 r_first r_turn r_size) :: (o_ar a K ar) :: tl) H := hP
    have hD : va_D A (e0 :: e1 :: e2 :: e3 :: e4 :: e5 :: e6 :: e7 :: (o_A a r_centreX r_centreY r_diagonal r116 r_first r_turn r_size) :: (o_ar a K ar) :: tl) := hD
    refine lv_aload_n hx hb d_A_lay_122 rfl (lv_at hl 0 rfl) ?_
    refine g_A_reach hx hb hts hown hK hP 8 rfl rfl d_A_lay_123 ?_
    refine lv_aload_n hx hb d_A_lay_126 rfl (lv_at hl 0 rfl) ?_
    refine g_A_diagonal hx hb hts hown hK hP 8 rfl rfl d_A_lay_127 ?_
    refine lv_iconst (v := (1 : Int32)) hx hb d_A_lay_130 (by decide) ?_
    refine lv_iadd hx hb d_A_lay_131 ?_
    refine lv_aload_n hx hb d_A_lay_132 rfl (lv_at hl 0 rfl) ?_
    refine g_A_diagonal hx hb hts hown hK hP 8 rfl rfl d_A_lay_133 ?_
    refine lv_iconst (v := (1 : Int32)) hx hb d_A_lay_136 (by decide) ?_
    refine lv_iadd hx hb d_A_lay_137 ?_
    refine va_iast hx hb hK hP hD hS 9 4 rfl rfl hw.1 d_A_lay_138 (fun H locs hP hD hS => ?_)
    replace hw := hw.2
    have hP : va_P D cls (e0 :: e1 :: e2 :: e3 :: e4 :: e5 :: e6 :: e7 :: (o_A a r_centreX r_centreY r_diagonal r116 r_first r_turn r_size) :: (o_ar a K (upd ar (r_diagonal + (1 : Int32)).toNatClampNeg (r_diagonal + (1 : Int32)))) :: tl) H := hP
    have hD : va_D A (e0 :: e1 :: e2 :: e3 :: e4 :: e5 :: e6 :: e7 :: (o_A a r_centreX r_centreY r_diagonal r116 r_first r_turn r_size) :: (o_ar a K (upd ar (r_diagonal + (1 : Int32)).toNatClampNeg (r_diagonal + (1 : Int32)))) :: tl) := hD
    exact hret H locs ls 139 ((r_centreX, r_centreY, r_diagonal, r116, upd ar (r_diagonal + (1 : Int32)).toNatClampNeg (r_diagonal + (1 : Int32)))) d_A_lay_139 hP hD hS hw
  have J79 : ∀ (K24 : Int32 → Int32 → Int32 → Int32 → Int32 → Int32 → Int32 → (Nat → Int32) → Prop) (hK24 : ∀ (H : Heap) (locs : List Loc) (ls : Array Slot) (x3 x4 x5 r_centreX r_centreY r_diagonal r_side : Int32) (ar : Nat → Int32), va_P D cls (e0 :: e1 :: e2 :: e3 :: e4 :: e5 :: e6 :: e7 :: (o_A a r_centreX r_centreY r_diagonal r_side r_first r_turn r_size) :: (o_ar a K ar) :: tl) H → va_D A (e0 :: e1 :: e2 :: e3 :: e4 :: e5 :: e6 :: e7 :: (o_A a r_centreX r_centreY r_diagonal r_side r_first r_turn r_size) :: (o_ar a K ar) :: tl) → va_S A s.heap H locs → lv_has ls 6 [(0, .ref (a 8)), (3, .int x3), (4, .int x4), (5, .int x5)] → K24 x3 x4 x5 r_centreX r_centreY r_diagonal r_side ar → W p l e rm_A_lay s m args below meth c H locs 0 0 QQ (F0 m 24 ls [])) (H : Heap) (locs : List Loc) (ls : Array Slot) (x3 x4 x5 r_centreX r_centreY r_diagonal r_side : Int32) (ar : Nat → Int32), va_P D cls (e0 :: e1 :: e2 :: e3 :: e4 :: e5 :: e6 :: e7 :: (o_A a r_centreX r_centreY r_diagonal r_side r_first r_turn r_size) :: (o_ar a K ar) :: tl) H → va_D A (e0 :: e1 :: e2 :: e3 :: e4 :: e5 :: e6 :: e7 :: (o_A a r_centreX r_centreY r_diagonal r_side r_first r_turn r_size) :: (o_ar a K ar) :: tl) → va_S A s.heap H locs → lv_has ls 6 [(0, .ref (a 8)), (3, .int x3), (4, .int x4), (5, .int x5)] → wq_A_lay_79 Q K24 x3 x4 x5 r_centreX r_centreY r_diagonal r_side ar → W p l e rm_A_lay s m args below meth c H locs 0 0 QQ (F0 m 79 ls []) := by
    intro K24 hK24 H locs ls x3 x4 x5 r_centreX r_centreY r_diagonal r_side ar hP hD hS hl hw
    unfold wq_A_lay_79 at hw
    refine lv_aload_n hx hb d_A_lay_79 rfl (lv_at hl 0 rfl) ?_
    refine g_A_reach hx hb hts hown hK hP 8 rfl rfl d_A_lay_80 ?_
    refine lv_iload hx hb d_A_lay_83 (lv_at hl 3 rfl) ?_
    refine lv_iload hx hb d_A_lay_85 (lv_at hl 2 rfl) ?_
    refine va_iast hx hb hK hP hD hS 9 4 rfl rfl hw.1 d_A_lay_87 (fun H locs hP hD hS => ?_)
    replace hw := hw.2
    have hP : va_P D cls (e0 :: e1 :: e2 :: e3 :: e4 :: e5 :: e6 :: e7 :: (o_A a r_centreX r_centreY r_diagonal r_side r_first r_turn r_size) :: (o_ar a K (upd ar x5.toNatClampNeg x4)) :: tl) H := hP
    have hD : va_D A (e0 :: e1 :: e2 :: e3 :: e4 :: e5 :: e6 :: e7 :: (o_A a r_centreX r_centreY r_diagonal r_side r_first r_turn r_size) :: (o_ar a K (upd ar x5.toNatClampNeg x4)) :: tl) := hD
    refine lv_aload_n hx hb d_A_lay_88 rfl (lv_at hl 0 rfl) ?_
    refine lv_iload hx hb d_A_lay_89 (lv_at hl 3 rfl) ?_
    refine u_A_diagonal hx hb hts hown hK hP hD hS 8 rfl rfl d_A_lay_91 (fun H locs hP hD hS => ?_)
    have hP : va_P D cls (e0 :: e1 :: e2 :: e3 :: e4 :: e5 :: e6 :: e7 :: (o_A a r_centreX r_centreY x5 r_side r_first r_turn r_size) :: (o_ar a K (upd ar x5.toNatClampNeg x4)) :: tl) H := hP
    have hD : va_D A (e0 :: e1 :: e2 :: e3 :: e4 :: e5 :: e6 :: e7 :: (o_A a r_centreX r_centreY x5 r_side r_first r_turn r_size) :: (o_ar a K (upd ar x5.toNatClampNeg x4)) :: tl) := hD
    refine lv_iinc (k := 3) (v := x5 + (1 : Int32)) (lv' := [(5, .int (x5 + (1 : Int32))), (0, .ref (a 8)), (3, .int x3), (4, .int x4)]) hx hb d_A_lay_94 hl rfl (iinc_1 _) (Nat.le_of_ble_eq_true rfl) rfl (fun ls hl => ?_)
    refine lv_goto (tgt := 24) hx hb d_A_lay_97 (by decide) ?_
    exact hK24 H locs ls x3 x4 (x5 + (1 : Int32)) r_centreX r_centreY x5 r_side (upd ar x5.toNatClampNeg x4) hP hD hS (lv_sub hl [1, 2, 3, 0] rfl) hw
  have J43 : ∀ (K24 : Int32 → Int32 → Int32 → Int32 → Int32 → Int32 → Int32 → (Nat → Int32) → Prop) (hK24 : ∀ (H : Heap) (locs : List Loc) (ls : Array Slot) (x3 x4 x5 r_centreX r_centreY r_diagonal r_side : Int32) (ar : Nat → Int32), va_P D cls (e0 :: e1 :: e2 :: e3 :: e4 :: e5 :: e6 :: e7 :: (o_A a r_centreX r_centreY r_diagonal r_side r_first r_turn r_size) :: (o_ar a K ar) :: tl) H → va_D A (e0 :: e1 :: e2 :: e3 :: e4 :: e5 :: e6 :: e7 :: (o_A a r_centreX r_centreY r_diagonal r_side r_first r_turn r_size) :: (o_ar a K ar) :: tl) → va_S A s.heap H locs → lv_has ls 6 [(0, .ref (a 8)), (3, .int x3), (4, .int x4), (5, .int x5)] → K24 x3 x4 x5 r_centreX r_centreY r_diagonal r_side ar → W p l e rm_A_lay s m args below meth c H locs 0 0 QQ (F0 m 24 ls [])) (n43 : Nat) (H : Heap) (locs : List Loc) (ls : Array Slot) (x3 x4 x5 r_centreX r_centreY r_diagonal r_side : Int32) (ar : Nat → Int32), va_P D cls (e0 :: e1 :: e2 :: e3 :: e4 :: e5 :: e6 :: e7 :: (o_A a r_centreX r_centreY r_diagonal r_side r_first r_turn r_size) :: (o_ar a K ar) :: tl) H → va_D A (e0 :: e1 :: e2 :: e3 :: e4 :: e5 :: e6 :: e7 :: (o_A a r_centreX r_centreY r_diagonal r_side r_first r_turn r_size) :: (o_ar a K ar) :: tl) → va_S A s.heap H locs → lv_has ls 6 [(0, .ref (a 8)), (3, .int x3), (4, .int x4), (5, .int x5)] → wq_A_lay_43 Q K24 n43 x3 x4 x5 r_centreX r_centreY r_diagonal r_side ar → W p l e rm_A_lay s m args below meth c H locs 0 0 QQ (F0 m 43 ls []) := by
    intro K24 hK24 n43
    induction n43 with
    | zero => intro H locs ls x3 x4 x5 r_centreX r_centreY r_diagonal r_side ar hP hD hS hl hw; exact False.elim hw
    | succ n43 ih =>
      intro H locs ls x3 x4 x5 r_centreX r_centreY r_diagonal r_side ar hP hD hS hl hw
      unfold wq_A_lay_43 at hw
      refine lv_iload hx hb d_A_lay_43 (lv_at hl 2 rfl) ?_
      refine lv_if_le (tgt := 79) hx hb d_A_lay_45 (by decide) (fun hc => ?_) (fun hc => ?_)
      · replace hw := hw.1 hc
        exact J79 K24 hK24 H locs ls x3 x4 x5 r_centreX r_centreY r_diagonal r_side ar hP hD hS (lv_sub hl [0, 1, 2, 3] rfl) hw
      · replace hw := hw.2 hc
        refine lv_iconst (v := (2 : Int32)) hx hb d_A_lay_48 (by decide) ?_
        refine lv_iload hx hb d_A_lay_49 (lv_at hl 2 rfl) ?_
        refine lv_imul hx hb d_A_lay_51 ?_
        refine lv_iconst (v := (1 : Int32)) hx hb d_A_lay_52 (by decide) ?_
        refine lv_isub hx hb d_A_lay_53 ?_
        refine lv_iconst (v := (2 : Int32)) hx hb d_A_lay_54 (by decide) ?_
        refine lv_iload hx hb d_A_lay_55 (lv_at hl 2 rfl) ?_
        refine lv_imul hx hb d_A_lay_57 ?_
        refine lv_iconst (v := (1 : Int32)) hx hb d_A_lay_58 (by decide) ?_
        refine lv_isub hx hb d_A_lay_59 ?_
        refine lv_imul hx hb d_A_lay_60 ?_
        refine lv_iconst (v := (4 : Int32)) hx hb d_A_lay_61 (by decide) ?_
        refine lv_iload_n hx hb d_A_lay_62 rfl (lv_at hl 1 rfl) ?_
        refine lv_iload hx hb d_A_lay_63 (lv_at hl 3 rfl) ?_
        refine lv_iload hx hb d_A_lay_65 (lv_at hl 3 rfl) ?_
        refine lv_imul hx hb d_A_lay_67 ?_
        refine lv_isub hx hb d_A_lay_68 ?_
        refine lv_imul hx hb d_A_lay_69 ?_
        refine lv_icmp_le (tgt := 79) hx hb d_A_lay_70 (by decide) (fun hc => ?_) (fun hc => ?_)
        · replace hw := hw.1 hc
          exact J79 K24 hK24 H locs ls x3 x4 x5 r_centreX r_centreY r_diagonal r_side ar hP hD hS (lv_sub hl [0, 1, 2, 3] rfl) hw
        · replace hw := hw.2 hc
          refine lv_iinc (k := 2) (v := x4 + (-1 : Int32)) (lv' := [(4, .int (x4 + (-1 : Int32))), (0, .ref (a 8)), (3, .int x3), (5, .int x5)]) hx hb d_A_lay_73 hl rfl (iinc_m1 _) (Nat.le_of_ble_eq_true rfl) rfl (fun ls hl => ?_)
          refine lv_goto (tgt := 43) hx hb d_A_lay_76 (by decide) ?_
          exact ih H locs ls x3 (x4 + (-1 : Int32)) x5 r_centreX r_centreY r_diagonal r_side ar hP hD hS (lv_sub hl [1, 2, 0, 3] rfl) hw
  have J24 : ∀ (n24 : Nat) (H : Heap) (locs : List Loc) (ls : Array Slot) (x3 x4 x5 r_centreX r_centreY r_diagonal r_side : Int32) (ar : Nat → Int32), va_P D cls (e0 :: e1 :: e2 :: e3 :: e4 :: e5 :: e6 :: e7 :: (o_A a r_centreX r_centreY r_diagonal r_side r_first r_turn r_size) :: (o_ar a K ar) :: tl) H → va_D A (e0 :: e1 :: e2 :: e3 :: e4 :: e5 :: e6 :: e7 :: (o_A a r_centreX r_centreY r_diagonal r_side r_first r_turn r_size) :: (o_ar a K ar) :: tl) → va_S A s.heap H locs → lv_has ls 6 [(0, .ref (a 8)), (3, .int x3), (4, .int x4), (5, .int x5)] → wq_A_lay_24 Q n24 x3 x4 x5 r_centreX r_centreY r_diagonal r_side ar → W p l e rm_A_lay s m args below meth c H locs 0 0 QQ (F0 m 24 ls []) := by
    intro n24
    induction n24 with
    | zero => intro H locs ls x3 x4 x5 r_centreX r_centreY r_diagonal r_side ar hP hD hS hl hw; exact False.elim hw
    | succ n24 ih =>
      intro H locs ls x3 x4 x5 r_centreX r_centreY r_diagonal r_side ar hP hD hS hl hw
      unfold wq_A_lay_24 at hw
      refine lv_iload hx hb d_A_lay_24 (lv_at hl 3 rfl) ?_
      refine lv_sipush (v := (200 : Int32)) hx hb d_A_lay_26 (by decide) ?_
      refine lv_icmp_gt (tgt := 100) hx hb d_A_lay_29 (by decide) (fun hc => ?_) (fun hc => ?_)
      · replace hw := hw.1 hc
        exact J100 H locs ls r_centreX r_centreY r_diagonal r_side ar hP hD hS (lv_sub hl [0] rfl) hw
      · replace hw := hw.2 hc
        refine lv_iconst (v := (2 : Int32)) hx hb d_A_lay_32 (by decide) ?_
        refine lv_iload hx hb d_A_lay_33 (lv_at hl 3 rfl) ?_
        refine lv_imul hx hb d_A_lay_35 ?_
        refine lv_iload hx hb d_A_lay_36 (lv_at hl 3 rfl) ?_
        refine lv_imul hx hb d_A_lay_38 ?_
        refine lv_iload_n hx hb d_A_lay_39 rfl (lv_at hl 1 rfl) ?_
        refine lv_icmp_gt (tgt := 100) hx hb d_A_lay_40 (by decide) (fun hc => ?_) (fun hc => ?_)
        · replace hw := hw.1 hc
          exact J100 H locs ls r_centreX r_centreY r_diagonal r_side ar hP hD hS (lv_sub hl [0] rfl) hw
        · replace hw := hw.2 hc
          obtain ⟨n43, hw⟩ := hw
          exact J43 (fun x3 x4 x5 r_centreX r_centreY r_diagonal r_side ar => wq_A_lay_24 Q n24 x3 x4 x5 r_centreX r_centreY r_diagonal r_side ar) ih n43 H locs ls x3 x4 x5 r_centreX r_centreY r_diagonal r_side ar hP hD hS (lv_sub hl [0, 1, 2, 3] rfl) hw
  unfold wp_A_lay at hw
  refine lv_aload_n hx hb d_A_lay_0 rfl (lv_at hl 0 rfl) ?_
  refine lv_iload_n hx hb d_A_lay_1 rfl (lv_at hl 1 rfl) ?_
  refine u_A_centreX hx hb hts hown hK hP hD hS 8 rfl rfl d_A_lay_2 (fun H locs hP hD hS => ?_)
  have hP : va_P D cls (e0 :: e1 :: e2 :: e3 :: e4 :: e5 :: e6 :: e7 :: (o_A a x1 r_centreY r_diagonal r_side r_first r_turn r_size) :: (o_ar a K ar) :: tl) H := hP
  have hD : va_D A (e0 :: e1 :: e2 :: e3 :: e4 :: e5 :: e6 :: e7 :: (o_A a x1 r_centreY r_diagonal r_side r_first r_turn r_size) :: (o_ar a K ar) :: tl) := hD
  refine lv_aload_n hx hb d_A_lay_5 rfl (lv_at hl 0 rfl) ?_
  refine lv_iload_n hx hb d_A_lay_6 rfl (lv_at hl 2 rfl) ?_
  refine u_A_centreY hx hb hts hown hK hP hD hS 8 rfl rfl d_A_lay_7 (fun H locs hP hD hS => ?_)
  have hP : va_P D cls (e0 :: e1 :: e2 :: e3 :: e4 :: e5 :: e6 :: e7 :: (o_A a x1 x2 r_diagonal r_side r_first r_turn r_size) :: (o_ar a K ar) :: tl) H := hP
  have hD : va_D A (e0 :: e1 :: e2 :: e3 :: e4 :: e5 :: e6 :: e7 :: (o_A a x1 x2 r_diagonal r_side r_first r_turn r_size) :: (o_ar a K ar) :: tl) := hD
  refine lv_aload_n hx hb d_A_lay_10 rfl (lv_at hl 0 rfl) ?_
  refine lv_iconst (v := (0 : Int32)) hx hb d_A_lay_11 (by decide) ?_
  refine u_A_diagonal hx hb hts hown hK hP hD hS 8 rfl rfl d_A_lay_12 (fun H locs hP hD hS => ?_)
  have hP : va_P D cls (e0 :: e1 :: e2 :: e3 :: e4 :: e5 :: e6 :: e7 :: (o_A a x1 x2 (0 : Int32) r_side r_first r_turn r_size) :: (o_ar a K ar) :: tl) H := hP
  have hD : va_D A (e0 :: e1 :: e2 :: e3 :: e4 :: e5 :: e6 :: e7 :: (o_A a x1 x2 (0 : Int32) r_side r_first r_turn r_size) :: (o_ar a K ar) :: tl) := hD
  refine lv_iload_n hx hb d_A_lay_15 rfl (lv_at hl 3 rfl) ?_
  refine my_calli (va_runS (As := [.int x3]) (rest := []) ⟨hx, hb, hml, hown, hts⟩ (c_A_radius l H.size) (cw_A_37 hts ⟨Nat.le_of_ble_eq_true rfl, Nat.le_of_ble_eq_true rfl⟩) (my_preS hK hP hX hD hS hA hw) rfl rfl hl.1 rfl (lv_room (Nat.le_of_ble_eq_true rfl)) d_A_lay_16 ⟨Nat.le_refl _, Nat.le_refl _⟩) hD hS hA (fun r16 _ H locs hw hP hD hS => ?_)
  have hP : va_P D cls (e0 :: e1 :: e2 :: e3 :: e4 :: e5 :: e6 :: e7 :: (o_A a x1 x2 (0 : Int32) r_side r_first r_turn r_size) :: (o_ar a K ar) :: tl) H := hP
  have hD : va_D A (e0 :: e1 :: e2 :: e3 :: e4 :: e5 :: e6 :: e7 :: (o_A a x1 x2 (0 : Int32) r_side r_first r_turn r_size) :: (o_ar a K ar) :: tl) := hD
  refine lv_istore (lv' := [(4, .int r16), (0, .ref (a 8)), (1, .int x1), (2, .int x2), (3, .int x3)]) hx hb d_A_lay_19 hl (Nat.le_of_ble_eq_true rfl) rfl (fun ls hl => ?_)
  refine lv_iconst (v := (0 : Int32)) hx hb d_A_lay_21 (by decide) ?_
  refine lv_istore (lv' := [(5, .int (0 : Int32)), (4, .int r16), (0, .ref (a 8)), (1, .int x1), (2, .int x2), (3, .int x3)]) hx hb d_A_lay_22 hl (Nat.le_of_ble_eq_true rfl) rfl (fun ls hl => ?_)
  obtain ⟨n24, hw⟩ := hw
  exact J24 n24 H locs ls x3 r16 (0 : Int32) x1 x2 (0 : Int32) r_side ar hP hD hS (lv_sub hl [2, 5, 1, 0] rfl) hw
def wq_A_join_69 (Q : Int32 → Int32 → Int32 → Prop) (s1 r_first r_turn r_size : Int32) : Prop := (Q r_first r_turn s1)
def wq_A_join_21 (Q : Int32 → Int32 → Int32 → Prop) (r_diagonal r_side : Int32) (ar : Nat → Int32) (x3 x4 s1 r_first r_turn r_size : Int32) : Prop := (wp_A_numberOf x3 x4 r_diagonal r_side ar (fun r40 => (wp_Jm_floorMod (s1 * (r40 - r_first)) ((4 : Int32) * r_side) (fun r51 => ((¬ r51 = 0 → (wq_A_join_69 Q r51 r_first s1 r_size)) ∧ (r51 = 0 → (wq_A_join_69 Q ((4 : Int32) * r_side) r_first s1 r_size)))))))
def wp_A_join (x1 x2 x3 x4 x5 r_diagonal r_side r_first r_turn r_size : Int32) (ar : Nat → Int32) (Q : Int32 → Int32 → Int32 → Prop) : Prop := (wp_A_numberOf x1 x2 r_diagonal r_side ar (fun r4 => ((x5 = 0 → (wq_A_join_21 Q r_diagonal r_side ar x3 x4 (-1 : Int32) r4 r_turn r_size)) ∧ (¬ x5 = 0 → (wq_A_join_21 Q r_diagonal r_side ar x3 x4 (1 : Int32) r4 r_turn r_size)))))
abbrev rm_A_join : Room := { frames := 2, cells := 0, slots := 0, locals := 49 }
set_option maxRecDepth 100000 in
set_option maxHeartbeats 4000000 in
theorem c_A_join (l : Launch) {D : va_G} {X : xT} {a : Nat → Nat} {K : Nat → ClassId} {tl : va_W} {e0 e1 e2 e3 e4 e5 e6 e7 : Nat × va_E} {x1 x2 x3 x4 x5 r_centreX r_centreY r_diagonal r_side r_first r_turn r_size : Int32} {ar : Nat → Int32} {Q : Int32 → Int32 → Int32 → Prop} : MV l y_A_join b_A_join 8 rm_A_join D cls (tys K) X [.ref (a 8), .int x1, .int x2, .int x3, .int x4, .int x5] (e0 :: e1 :: e2 :: e3 :: e4 :: e5 :: e6 :: e7 :: (o_A a r_centreX r_centreY r_diagonal r_side r_first r_turn r_size) :: (o_ar a K ar) :: tl) (fun u : Int32 × Int32 × Int32 => e0 :: e1 :: e2 :: e3 :: e4 :: e5 :: e6 :: e7 :: (o_A a r_centreX r_centreY r_diagonal r_side u.1 u.2.1 u.2.2) :: (o_ar a K ar) :: tl) (wp_A_join x1 x2 x3 x4 x5 r_diagonal r_side r_first r_turn r_size ar Q) (fun u => Q u.1 u.2.1 u.2.2) := by
  refine my_of_V (by decide +kernel) (Nat.le_of_ble_eq_true rfl) (fun p e s m args below meth c A QQ H locs ls hx hb hts hown hml hK hX hA hP hD hS hl hw hret => ?_)
  replace hl : lv_has ls 8 [(0, .ref (a 8)), (1, .int x1), (2, .int x2), (3, .int x3), (4, .int x4), (5, .int x5)] := hl
  have J69 : ∀ (H : Heap) (locs : List Loc) (ls : Array Slot) (s1 r_first r_turn r_size : Int32), va_P D cls (e0 :: e1 :: e2 :: e3 :: e4 :: e5 :: e6 :: e7 :: (o_A a r_centreX r_centreY r_diagonal r_side r_first r_turn r_size) :: (o_ar a K ar) :: tl) H → va_D A (e0 :: e1 :: e2 :: e3 :: e4 :: e5 :: e6 :: e7 :: (o_A a r_centreX r_centreY r_diagonal r_side r_first r_turn r_size) :: (o_ar a K ar) :: tl) → va_S A s.heap H locs → lv_has ls 8 [] → wq_A_join_69 Q s1 r_first r_turn r_size → W p l e rm_A_join s m args below meth c H locs 0 0 QQ (F0 m 69 ls [.int s1, .ref (a 8)]) := by
    intro H locs ls s1 r_first r_turn r_size hP hD hS hl hw
    unfold wq_A_join_69 at hw
    refine u_A_size hx hb hts hown hK hP hD hS 8 rfl rfl d_A_join_69 (fun H locs hP hD hS => ?_)
    have hP : va_P D cls (e0 :: e1 :: e2 :: e3 :: e4 :: e5 :: e6 :: e7 :: (o_A a r_centreX r_centreY r_diagonal r_side r_first r_turn s1) :: (o_ar a K ar) :: tl) H := hP
    have hD : va_D A (e0 :: e1 :: e2 :: e3 :: e4 :: e5 :: e6 :: e7 :: (o_A a r_centreX r_centreY r_diagonal r_side r_first r_turn s1) :: (o_ar a K ar) :: tl) := hD
    exact hret H locs ls 72 ((r_first, r_turn, s1)) d_A_join_72 hP hD hS hw
  have J21 : ∀ (H : Heap) (locs : List Loc) (ls : Array Slot) (x3 x4 s1 r_first r_turn r_size : Int32), va_P D cls (e0 :: e1 :: e2 :: e3 :: e4 :: e5 :: e6 :: e7 :: (o_A a r_centreX r_centreY r_diagonal r_side r_first r_turn r_size) :: (o_ar a K ar) :: tl) H → va_D A (e0 :: e1 :: e2 :: e3 :: e4 :: e5 :: e6 :: e7 :: (o_A a r_centreX r_centreY r_diagonal r_side r_first r_turn r_size) :: (o_ar a K ar) :: tl) → va_S A s.heap H locs → lv_has ls 8 [(0, .ref (a 8)), (3, .int x3), (4, .int x4)] → wq_A_join_21 Q r_diagonal r_side ar x3 x4 s1 r_first r_turn r_size → W p l e rm_A_join s m args below meth c H locs 0 0 QQ (F0 m 21 ls [.int s1, .ref (a 8)]) := by
    intro H locs ls x3 x4 s1 r_first r_turn r_size hP hD hS hl hw
    unfold wq_A_join_21 at hw
    refine u_A_turn hx hb hts hown hK hP hD hS 8 rfl rfl d_A_join_21 (fun H locs hP hD hS => ?_)
    have hP : va_P D cls (e0 :: e1 :: e2 :: e3 :: e4 :: e5 :: e6 :: e7 :: (o_A a r_centreX r_centreY r_diagonal r_side r_first s1 r_size) :: (o_ar a K ar) :: tl) H := hP
    have hD : va_D A (e0 :: e1 :: e2 :: e3 :: e4 :: e5 :: e6 :: e7 :: (o_A a r_centreX r_centreY r_diagonal r_side r_first s1 r_size) :: (o_ar a K ar) :: tl) := hD
    refine lv_iconst (v := (4 : Int32)) hx hb d_A_join_24 (by decide) ?_
    refine lv_aload_n hx hb d_A_join_25 rfl (lv_at hl 0 rfl) ?_
    refine g_A_side hx hb hts hown hK hP 8 rfl rfl d_A_join_26 ?_
    refine lv_imul hx hb d_A_join_29 ?_
    refine lv_istore (lv' := [(6, .int ((4 : Int32) * r_side)), (0, .ref (a 8)), (3, .int x3), (4, .int x4)]) hx hb d_A_join_30 hl (Nat.le_of_ble_eq_true rfl) rfl (fun ls hl => ?_)
    refine lv_aload_n hx hb d_A_join_32 rfl (lv_at hl 1 rfl) ?_
    refine g_A_turn hx hb hts hown hK hP 8 rfl rfl d_A_join_33 ?_
    refine lv_aload_n hx hb d_A_join_36 rfl (lv_at hl 1 rfl) ?_
    refine lv_iload_n hx hb d_A_join_37 rfl (lv_at hl 2 rfl) ?_
    refine lv_iload hx hb d_A_join_38 (lv_at hl 3 rfl) ?_
    refine my_calli (va_runV (As := [.int x3, .int x4]) (rest := [.int s1]) ⟨hx, hb, hml, hown, hts⟩ (c_A_numberOf l H.size) (cw_A_47 hts ⟨Nat.le_of_ble_eq_true rfl, Nat.le_of_ble_eq_true rfl⟩) (my_preV hK hP hX hD hS hA 8 rfl rfl hw) rfl rfl hl.1 rfl (lv_room (Nat.le_of_ble_eq_true rfl)) d_A_join_40 ⟨Nat.le_refl _, Nat.le_refl _⟩) hD hS hA (fun r40 _ H locs hw hP hD hS => ?_)
    have hP : va_P D cls (e0 :: e1 :: e2 :: e3 :: e4 :: e5 :: e6 :: e7 :: (o_A a r_centreX r_centreY r_diagonal r_side r_first s1 r_size) :: (o_ar a K ar) :: tl) H := hP
    have hD : va_D A (e0 :: e1 :: e2 :: e3 :: e4 :: e5 :: e6 :: e7 :: (o_A a r_centreX r_centreY r_diagonal r_side r_first s1 r_size) :: (o_ar a K ar) :: tl) := hD
    refine lv_aload_n hx hb d_A_join_43 rfl (lv_at hl 1 rfl) ?_
    refine g_A_first hx hb hts hown hK hP 8 rfl rfl d_A_join_44 ?_
    refine lv_isub hx hb d_A_join_47 ?_
    refine lv_imul hx hb d_A_join_48 ?_
    refine lv_iload hx hb d_A_join_49 (lv_at hl 0 rfl) ?_
    refine my_calli (va_runS (As := [.int (s1 * (r40 - r_first)), .int ((4 : Int32) * r_side)]) (rest := []) ⟨hx, hb, hml, hown, hts⟩ (c_Jm_floorMod l H.size) (cw_A_50 hts ⟨Nat.le_of_ble_eq_true rfl, Nat.le_of_ble_eq_true rfl⟩) (my_preS hK hP hX hD hS hA hw) rfl rfl hl.1 rfl (lv_room (Nat.le_of_ble_eq_true rfl)) d_A_join_51 ⟨Nat.le_refl _, Nat.le_refl _⟩) hD hS hA (fun r51 _ H locs hw hP hD hS => ?_)
    have hP : va_P D cls (e0 :: e1 :: e2 :: e3 :: e4 :: e5 :: e6 :: e7 :: (o_A a r_centreX r_centreY r_diagonal r_side r_first s1 r_size) :: (o_ar a K ar) :: tl) H := hP
    have hD : va_D A (e0 :: e1 :: e2 :: e3 :: e4 :: e5 :: e6 :: e7 :: (o_A a r_centreX r_centreY r_diagonal r_side r_first s1 r_size) :: (o_ar a K ar) :: tl) := hD
    refine lv_istore (lv' := [(7, .int r51), (6, .int ((4 : Int32) * r_side)), (0, .ref (a 8)), (3, .int x3), (4, .int x4)]) hx hb d_A_join_54 hl (Nat.le_of_ble_eq_true rfl) rfl (fun ls hl => ?_)
    refine lv_aload_n hx hb d_A_join_56 rfl (lv_at hl 2 rfl) ?_
    refine lv_iload hx hb d_A_join_57 (lv_at hl 0 rfl) ?_
    refine lv_if_ne (tgt := 67) hx hb d_A_join_59 (by decide) (fun hc => ?_) (fun hc => ?_)
    · replace hw := hw.1 hc
      refine lv_iload hx hb d_A_join_67 (lv_at hl 0 rfl) ?_
      exact J69 H locs ls r51 r_first s1 r_size hP hD hS (lv_sub hl [] rfl) hw
    · replace hw := hw.2 hc
      refine lv_iload hx hb d_A_join_62 (lv_at hl 1 rfl) ?_
      refine lv_goto (tgt := 69) hx hb d_A_join_64 (by decide) ?_
      exact J69 H locs ls ((4 : Int32) * r_side) r_first s1 r_size hP hD hS (lv_sub hl [] rfl) hw
  unfold wp_A_join at hw
  refine lv_aload_n hx hb d_A_join_0 rfl (lv_at hl 0 rfl) ?_
  refine lv_aload_n hx hb d_A_join_1 rfl (lv_at hl 0 rfl) ?_
  refine lv_iload_n hx hb d_A_join_2 rfl (lv_at hl 1 rfl) ?_
  refine lv_iload_n hx hb d_A_join_3 rfl (lv_at hl 2 rfl) ?_
  refine my_calli (va_runV (As := [.int x1, .int x2]) (rest := [.ref (a 8)]) ⟨hx, hb, hml, hown, hts⟩ (c_A_numberOf l H.size) (cw_A_47 hts ⟨Nat.le_of_ble_eq_true rfl, Nat.le_of_ble_eq_true rfl⟩) (my_preV hK hP hX hD hS hA 8 rfl rfl hw) rfl rfl hl.1 rfl (lv_room (Nat.le_of_ble_eq_true rfl)) d_A_join_4 ⟨Nat.le_refl _, Nat.le_refl _⟩) hD hS hA (fun r4 _ H locs hw hP hD hS => ?_)
  have hP : va_P D cls (e0 :: e1 :: e2 :: e3 :: e4 :: e5 :: e6 :: e7 :: (o_A a r_centreX r_centreY r_diagonal r_side r_first r_turn r_size) :: (o_ar a K ar) :: tl) H := hP
  have hD : va_D A (e0 :: e1 :: e2 :: e3 :: e4 :: e5 :: e6 :: e7 :: (o_A a r_centreX r_centreY r_diagonal r_side r_first r_turn r_size) :: (o_ar a K ar) :: tl) := hD
  refine u_A_first hx hb hts hown hK hP hD hS 8 rfl rfl d_A_join_7 (fun H locs hP hD hS => ?_)
  have hP : va_P D cls (e0 :: e1 :: e2 :: e3 :: e4 :: e5 :: e6 :: e7 :: (o_A a r_centreX r_centreY r_diagonal r_side r4 r_turn r_size) :: (o_ar a K ar) :: tl) H := hP
  have hD : va_D A (e0 :: e1 :: e2 :: e3 :: e4 :: e5 :: e6 :: e7 :: (o_A a r_centreX r_centreY r_diagonal r_side r4 r_turn r_size) :: (o_ar a K ar) :: tl) := hD
  refine lv_aload_n hx hb d_A_join_10 rfl (lv_at hl 0 rfl) ?_
  refine lv_iload hx hb d_A_join_11 (lv_at hl 5 rfl) ?_
  refine lv_if_eq (tgt := 20) hx hb d_A_join_13 (by decide) (fun hc => ?_) (fun hc => ?_)
  · replace hw := hw.1 hc
    refine lv_iconst (v := (-1 : Int32)) hx hb d_A_join_20 (by decide) ?_
    exact J21 H locs ls x3 x4 (-1 : Int32) r4 r_turn r_size hP hD hS (lv_sub hl [0, 3, 4] rfl) hw
  · replace hw := hw.2 hc
    refine lv_iconst (v := (1 : Int32)) hx hb d_A_join_16 (by decide) ?_
    refine lv_goto (tgt := 21) hx hb d_A_join_17 (by decide) ?_
    exact J21 H locs ls x3 x4 (1 : Int32) r4 r_turn r_size hP hD hS (lv_sub hl [0, 3, 4] rfl) hw
