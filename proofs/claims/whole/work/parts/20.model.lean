theorem d_M_init_0 : decode b_M_init 0 = .ok (.aload_n 0, 1) := by decide +kernel
theorem d_M_init_1 : decode b_M_init 1 = .ok (.invokespecial 1, 3) := by decide +kernel
theorem d_M_init_4 : decode b_M_init 4 = .ok (.aload_n 0, 1) := by decide +kernel
theorem d_M_init_5 : decode b_M_init 5 = .ok (.sipush 400, 3) := by decide +kernel
theorem d_M_init_8 : decode b_M_init 8 = .ok (.newarray .int, 2) := by decide +kernel
theorem d_M_init_10 : decode b_M_init 10 = .ok (.putfield 7, 3) := by decide +kernel
theorem d_M_init_13 : decode b_M_init 13 = .ok (.aload_n 0, 1) := by decide +kernel
theorem d_M_init_14 : decode b_M_init 14 = .ok (.sipush 2400, 3) := by decide +kernel
theorem d_M_init_17 : decode b_M_init 17 = .ok (.newarray .int, 2) := by decide +kernel
theorem d_M_init_19 : decode b_M_init 19 = .ok (.putfield 13, 3) := by decide +kernel
theorem d_M_init_22 : decode b_M_init 22 = .ok (.aload_n 0, 1) := by decide +kernel
theorem d_M_init_23 : decode b_M_init 23 = .ok (.sipush 2400, 3) := by decide +kernel
theorem d_M_init_26 : decode b_M_init 26 = .ok (.newarray .int, 2) := by decide +kernel
theorem d_M_init_28 : decode b_M_init 28 = .ok (.putfield 16, 3) := by decide +kernel
theorem d_M_init_31 : decode b_M_init 31 = .ok (.aload_n 0, 1) := by decide +kernel
theorem d_M_init_32 : decode b_M_init 32 = .ok (.iconst 4, 1) := by decide +kernel
theorem d_M_init_33 : decode b_M_init 33 = .ok (.newarray .int, 2) := by decide +kernel
theorem d_M_init_35 : decode b_M_init 35 = .ok (.putfield 19, 3) := by decide +kernel
theorem d_M_init_38 : decode b_M_init 38 = .ok (.aload_n 0, 1) := by decide +kernel
theorem d_M_init_39 : decode b_M_init 39 = .ok (.invokevirtual 22, 3) := by decide +kernel
theorem d_M_init_42 : decode b_M_init 42 = .ok (.return_, 1) := by decide +kernel
theorem d_M_feed_0 : decode b_M_feed 0 = .ok (.iconst 0, 1) := by decide +kernel
theorem d_M_feed_1 : decode b_M_feed 1 = .ok (.istore_n 2, 1) := by decide +kernel
theorem d_M_feed_2 : decode b_M_feed 2 = .ok (.iconst 0, 1) := by decide +kernel
theorem d_M_feed_3 : decode b_M_feed 3 = .ok (.istore_n 3, 1) := by decide +kernel
theorem d_M_feed_4 : decode b_M_feed 4 = .ok (.iload_n 3, 1) := by decide +kernel
theorem d_M_feed_5 : decode b_M_feed 5 = .ok (.iconst 4, 1) := by decide +kernel
theorem d_M_feed_6 : decode b_M_feed 6 = .ok (.if_icmp .ge 31, 3) := by decide +kernel
theorem d_M_feed_9 : decode b_M_feed 9 = .ok (.iload_n 2, 1) := by decide +kernel
theorem d_M_feed_10 : decode b_M_feed 10 = .ok (.iload_n 3, 1) := by decide +kernel
theorem d_M_feed_11 : decode b_M_feed 11 = .ok (.if_icmp .ne 20, 3) := by decide +kernel
theorem d_M_feed_14 : decode b_M_feed 14 = .ok (.iload_n 1, 1) := by decide +kernel
theorem d_M_feed_15 : decode b_M_feed 15 = .ok (.bipush 8, 2) := by decide +kernel
theorem d_M_feed_17 : decode b_M_feed 17 = .ok (.iload_n 3, 1) := by decide +kernel
theorem d_M_feed_18 : decode b_M_feed 18 = .ok (.imul, 1) := by decide +kernel
theorem d_M_feed_19 : decode b_M_feed 19 = .ok (.ishr, 1) := by decide +kernel
theorem d_M_feed_20 : decode b_M_feed 20 = .ok (.sipush 255, 3) := by decide +kernel
theorem d_M_feed_23 : decode b_M_feed 23 = .ok (.iand, 1) := by decide +kernel
theorem d_M_feed_24 : decode b_M_feed 24 = .ok (.ifCond .eq 7, 3) := by decide +kernel
theorem d_M_feed_27 : decode b_M_feed 27 = .ok (.iload_n 2, 1) := by decide +kernel
theorem d_M_feed_28 : decode b_M_feed 28 = .ok (.iconst 1, 1) := by decide +kernel
theorem d_M_feed_29 : decode b_M_feed 29 = .ok (.iadd, 1) := by decide +kernel
theorem d_M_feed_30 : decode b_M_feed 30 = .ok (.istore_n 2, 1) := by decide +kernel
theorem d_M_feed_31 : decode b_M_feed 31 = .ok (.iinc 3 1, 3) := by decide +kernel
theorem d_M_feed_34 : decode b_M_feed 34 = .ok (.goto (-30), 3) := by decide +kernel
theorem d_M_feed_37 : decode b_M_feed 37 = .ok (.aload_n 0, 1) := by decide +kernel
theorem d_M_feed_38 : decode b_M_feed 38 = .ok (.getfield 25, 3) := by decide +kernel
theorem d_M_feed_41 : decode b_M_feed 41 = .ok (.iload_n 2, 1) := by decide +kernel
theorem d_M_feed_42 : decode b_M_feed 42 = .ok (.iadd, 1) := by decide +kernel
theorem d_M_feed_43 : decode b_M_feed 43 = .ok (.sipush 400, 3) := by decide +kernel
theorem d_M_feed_46 : decode b_M_feed 46 = .ok (.if_icmp .le 5, 3) := by decide +kernel
theorem d_M_feed_49 : decode b_M_feed 49 = .ok (.iconst (-1), 1) := by decide +kernel
theorem d_M_feed_50 : decode b_M_feed 50 = .ok (.ireturn, 1) := by decide +kernel
theorem d_M_feed_51 : decode b_M_feed 51 = .ok (.iconst 0, 1) := by decide +kernel
theorem d_M_feed_52 : decode b_M_feed 52 = .ok (.istore_n 3, 1) := by decide +kernel
theorem d_M_feed_53 : decode b_M_feed 53 = .ok (.iload_n 3, 1) := by decide +kernel
theorem d_M_feed_54 : decode b_M_feed 54 = .ok (.iload_n 2, 1) := by decide +kernel
theorem d_M_feed_55 : decode b_M_feed 55 = .ok (.if_icmp .ge 30, 3) := by decide +kernel
theorem d_M_feed_58 : decode b_M_feed 58 = .ok (.aload_n 0, 1) := by decide +kernel
theorem d_M_feed_59 : decode b_M_feed 59 = .ok (.getfield 7, 3) := by decide +kernel
theorem d_M_feed_62 : decode b_M_feed 62 = .ok (.aload_n 0, 1) := by decide +kernel
theorem d_M_feed_63 : decode b_M_feed 63 = .ok (.getfield 25, 3) := by decide +kernel
theorem d_M_feed_66 : decode b_M_feed 66 = .ok (.iload_n 3, 1) := by decide +kernel
theorem d_M_feed_67 : decode b_M_feed 67 = .ok (.iadd, 1) := by decide +kernel
theorem d_M_feed_68 : decode b_M_feed 68 = .ok (.iload_n 1, 1) := by decide +kernel
theorem d_M_feed_69 : decode b_M_feed 69 = .ok (.bipush 8, 2) := by decide +kernel
theorem d_M_feed_71 : decode b_M_feed 71 = .ok (.iload_n 3, 1) := by decide +kernel
theorem d_M_feed_72 : decode b_M_feed 72 = .ok (.imul, 1) := by decide +kernel
theorem d_M_feed_73 : decode b_M_feed 73 = .ok (.ishr, 1) := by decide +kernel
theorem d_M_feed_74 : decode b_M_feed 74 = .ok (.sipush 255, 3) := by decide +kernel
theorem d_M_feed_77 : decode b_M_feed 77 = .ok (.iand, 1) := by decide +kernel
theorem d_M_feed_78 : decode b_M_feed 78 = .ok (.iastore, 1) := by decide +kernel
theorem d_M_feed_79 : decode b_M_feed 79 = .ok (.iinc 3 1, 3) := by decide +kernel
theorem d_M_feed_82 : decode b_M_feed 82 = .ok (.goto (-29), 3) := by decide +kernel
theorem d_M_feed_85 : decode b_M_feed 85 = .ok (.aload_n 0, 1) := by decide +kernel
theorem d_M_feed_86 : decode b_M_feed 86 = .ok (.aload_n 0, 1) := by decide +kernel
theorem d_M_feed_87 : decode b_M_feed 87 = .ok (.getfield 25, 3) := by decide +kernel
theorem d_M_feed_90 : decode b_M_feed 90 = .ok (.iload_n 2, 1) := by decide +kernel
theorem d_M_feed_91 : decode b_M_feed 91 = .ok (.iadd, 1) := by decide +kernel
theorem d_M_feed_92 : decode b_M_feed 92 = .ok (.putfield 25, 3) := by decide +kernel
theorem d_M_feed_95 : decode b_M_feed 95 = .ok (.aload_n 0, 1) := by decide +kernel
theorem d_M_feed_96 : decode b_M_feed 96 = .ok (.invokevirtual 22, 3) := by decide +kernel
theorem d_M_feed_99 : decode b_M_feed 99 = .ok (.iload_n 2, 1) := by decide +kernel
theorem d_M_feed_100 : decode b_M_feed 100 = .ok (.ireturn, 1) := by decide +kernel
theorem d_M_clear_0 : decode b_M_clear 0 = .ok (.aload_n 0, 1) := by decide +kernel
theorem d_M_clear_1 : decode b_M_clear 1 = .ok (.iconst 0, 1) := by decide +kernel
theorem d_M_clear_2 : decode b_M_clear 2 = .ok (.putfield 25, 3) := by decide +kernel
theorem d_M_clear_5 : decode b_M_clear 5 = .ok (.aload_n 0, 1) := by decide +kernel
theorem d_M_clear_6 : decode b_M_clear 6 = .ok (.invokevirtual 22, 3) := by decide +kernel
theorem d_M_clear_9 : decode b_M_clear 9 = .ok (.return_, 1) := by decide +kernel
theorem d_M_begin_0 : decode b_M_begin 0 = .ok (.aload_n 0, 1) := by decide +kernel
theorem d_M_begin_1 : decode b_M_begin 1 = .ok (.iconst 0, 1) := by decide +kernel
theorem d_M_begin_2 : decode b_M_begin 2 = .ok (.putfield 29, 3) := by decide +kernel
theorem d_M_begin_5 : decode b_M_begin 5 = .ok (.aload_n 0, 1) := by decide +kernel
theorem d_M_begin_6 : decode b_M_begin 6 = .ok (.iconst 0, 1) := by decide +kernel
theorem d_M_begin_7 : decode b_M_begin 7 = .ok (.putfield 32, 3) := by decide +kernel
theorem d_M_begin_10 : decode b_M_begin 10 = .ok (.aload_n 0, 1) := by decide +kernel
theorem d_M_begin_11 : decode b_M_begin 11 = .ok (.iconst 0, 1) := by decide +kernel
theorem d_M_begin_12 : decode b_M_begin 12 = .ok (.putfield 35, 3) := by decide +kernel
theorem d_M_begin_15 : decode b_M_begin 15 = .ok (.aload_n 0, 1) := by decide +kernel
theorem d_M_begin_16 : decode b_M_begin 16 = .ok (.iconst 0, 1) := by decide +kernel
theorem d_M_begin_17 : decode b_M_begin 17 = .ok (.putfield 38, 3) := by decide +kernel
theorem d_M_begin_20 : decode b_M_begin 20 = .ok (.aload_n 0, 1) := by decide +kernel
theorem d_M_begin_21 : decode b_M_begin 21 = .ok (.iconst 0, 1) := by decide +kernel
theorem d_M_begin_22 : decode b_M_begin 22 = .ok (.putfield 41, 3) := by decide +kernel
theorem d_M_begin_25 : decode b_M_begin 25 = .ok (.aload_n 0, 1) := by decide +kernel
theorem d_M_begin_26 : decode b_M_begin 26 = .ok (.iconst 0, 1) := by decide +kernel
theorem d_M_begin_27 : decode b_M_begin 27 = .ok (.putfield 44, 3) := by decide +kernel
theorem d_M_begin_30 : decode b_M_begin 30 = .ok (.aload_n 0, 1) := by decide +kernel
theorem d_M_begin_31 : decode b_M_begin 31 = .ok (.iconst 0, 1) := by decide +kernel
theorem d_M_begin_32 : decode b_M_begin 32 = .ok (.putfield 47, 3) := by decide +kernel
theorem d_M_begin_35 : decode b_M_begin 35 = .ok (.aload_n 0, 1) := by decide +kernel
theorem d_M_begin_36 : decode b_M_begin 36 = .ok (.iconst 0, 1) := by decide +kernel
theorem d_M_begin_37 : decode b_M_begin 37 = .ok (.putfield 50, 3) := by decide +kernel
theorem d_M_begin_40 : decode b_M_begin 40 = .ok (.aload_n 0, 1) := by decide +kernel
theorem d_M_begin_41 : decode b_M_begin 41 = .ok (.iconst 4, 1) := by decide +kernel
theorem d_M_begin_42 : decode b_M_begin 42 = .ok (.putfield 53, 3) := by decide +kernel
theorem d_M_begin_45 : decode b_M_begin 45 = .ok (.aload_n 0, 1) := by decide +kernel
theorem d_M_begin_46 : decode b_M_begin 46 = .ok (.iconst 0, 1) := by decide +kernel
theorem d_M_begin_47 : decode b_M_begin 47 = .ok (.putfield 56, 3) := by decide +kernel
theorem d_M_begin_50 : decode b_M_begin 50 = .ok (.aload_n 0, 1) := by decide +kernel
theorem d_M_begin_51 : decode b_M_begin 51 = .ok (.iconst 0, 1) := by decide +kernel
theorem d_M_begin_52 : decode b_M_begin 52 = .ok (.putfield 59, 3) := by decide +kernel
theorem d_M_begin_55 : decode b_M_begin 55 = .ok (.aload_n 0, 1) := by decide +kernel
theorem d_M_begin_56 : decode b_M_begin 56 = .ok (.iconst 0, 1) := by decide +kernel
theorem d_M_begin_57 : decode b_M_begin 57 = .ok (.putfield 63, 3) := by decide +kernel
theorem d_M_begin_60 : decode b_M_begin 60 = .ok (.aload_n 0, 1) := by decide +kernel
theorem d_M_begin_61 : decode b_M_begin 61 = .ok (.lconst 0, 1) := by decide +kernel
theorem d_M_begin_62 : decode b_M_begin 62 = .ok (.putfield 66, 3) := by decide +kernel
theorem d_M_begin_65 : decode b_M_begin 65 = .ok (.aload_n 0, 1) := by decide +kernel
theorem d_M_begin_66 : decode b_M_begin 66 = .ok (.iconst 0, 1) := by decide +kernel
theorem d_M_begin_67 : decode b_M_begin 67 = .ok (.putfield 70, 3) := by decide +kernel
theorem d_M_begin_70 : decode b_M_begin 70 = .ok (.aload_n 0, 1) := by decide +kernel
theorem d_M_begin_71 : decode b_M_begin 71 = .ok (.iconst 0, 1) := by decide +kernel
theorem d_M_begin_72 : decode b_M_begin 72 = .ok (.putfield 73, 3) := by decide +kernel
theorem d_M_begin_75 : decode b_M_begin 75 = .ok (.return_, 1) := by decide +kernel
theorem d_M_skip_0 : decode b_M_skip 0 = .ok (.iload_n 1, 1) := by decide +kernel
theorem d_M_skip_1 : decode b_M_skip 1 = .ok (.istore_n 3, 1) := by decide +kernel
theorem d_M_skip_2 : decode b_M_skip 2 = .ok (.iload_n 3, 1) := by decide +kernel
theorem d_M_skip_3 : decode b_M_skip 3 = .ok (.iload_n 2, 1) := by decide +kernel
theorem d_M_skip_4 : decode b_M_skip 4 = .ok (.if_icmp .ge 21, 3) := by decide +kernel
theorem d_M_skip_7 : decode b_M_skip 7 = .ok (.aload_n 0, 1) := by decide +kernel
theorem d_M_skip_8 : decode b_M_skip 8 = .ok (.getfield 7, 3) := by decide +kernel
theorem d_M_skip_11 : decode b_M_skip 11 = .ok (.iload_n 3, 1) := by decide +kernel
theorem d_M_skip_12 : decode b_M_skip 12 = .ok (.iaload, 1) := by decide +kernel
theorem d_M_skip_13 : decode b_M_skip 13 = .ok (.bipush 32, 2) := by decide +kernel
theorem d_M_skip_15 : decode b_M_skip 15 = .ok (.if_icmp .ne 10, 3) := by decide +kernel
theorem d_M_skip_18 : decode b_M_skip 18 = .ok (.iload_n 3, 1) := by decide +kernel
theorem d_M_skip_19 : decode b_M_skip 19 = .ok (.iconst 1, 1) := by decide +kernel
theorem d_M_skip_20 : decode b_M_skip 20 = .ok (.iadd, 1) := by decide +kernel
theorem d_M_skip_21 : decode b_M_skip 21 = .ok (.istore_n 3, 1) := by decide +kernel
theorem d_M_skip_22 : decode b_M_skip 22 = .ok (.goto (-20), 3) := by decide +kernel
theorem d_M_skip_25 : decode b_M_skip 25 = .ok (.iload_n 3, 1) := by decide +kernel
theorem d_M_skip_26 : decode b_M_skip 26 = .ok (.ireturn, 1) := by decide +kernel
theorem d_M_digit_0 : decode b_M_digit 0 = .ok (.iload_n 0, 1) := by decide +kernel
theorem d_M_digit_1 : decode b_M_digit 1 = .ok (.bipush 48, 2) := by decide +kernel
theorem d_M_digit_3 : decode b_M_digit 3 = .ok (.if_icmp .lt 13, 3) := by decide +kernel
theorem d_M_digit_6 : decode b_M_digit 6 = .ok (.iload_n 0, 1) := by decide +kernel
theorem d_M_digit_7 : decode b_M_digit 7 = .ok (.bipush 57, 2) := by decide +kernel
theorem d_M_digit_9 : decode b_M_digit 9 = .ok (.if_icmp .gt 7, 3) := by decide +kernel
theorem d_M_digit_12 : decode b_M_digit 12 = .ok (.iconst 1, 1) := by decide +kernel
theorem d_M_digit_13 : decode b_M_digit 13 = .ok (.goto 4, 3) := by decide +kernel
theorem d_M_digit_16 : decode b_M_digit 16 = .ok (.iconst 0, 1) := by decide +kernel
theorem d_M_digit_17 : decode b_M_digit 17 = .ok (.ireturn, 1) := by decide +kernel
theorem d_M_letter_0 : decode b_M_letter 0 = .ok (.iload_n 0, 1) := by decide +kernel
theorem d_M_letter_1 : decode b_M_letter 1 = .ok (.bipush 88, 2) := by decide +kernel
theorem d_M_letter_3 : decode b_M_letter 3 = .ok (.if_icmp .eq 9, 3) := by decide +kernel
theorem d_M_letter_6 : decode b_M_letter 6 = .ok (.iload_n 0, 1) := by decide +kernel
theorem d_M_letter_7 : decode b_M_letter 7 = .ok (.bipush 89, 2) := by decide +kernel
theorem d_M_letter_9 : decode b_M_letter 9 = .ok (.if_icmp .ne 8, 3) := by decide +kernel
theorem d_M_letter_12 : decode b_M_letter 12 = .ok (.iload_n 0, 1) := by decide +kernel
theorem d_M_letter_13 : decode b_M_letter 13 = .ok (.bipush 88, 2) := by decide +kernel
theorem d_M_letter_15 : decode b_M_letter 15 = .ok (.isub, 1) := by decide +kernel
theorem d_M_letter_16 : decode b_M_letter 16 = .ok (.ireturn, 1) := by decide +kernel
theorem d_M_letter_17 : decode b_M_letter 17 = .ok (.iload_n 0, 1) := by decide +kernel
theorem d_M_letter_18 : decode b_M_letter 18 = .ok (.bipush 73, 2) := by decide +kernel
theorem d_M_letter_20 : decode b_M_letter 20 = .ok (.if_icmp .eq 9, 3) := by decide +kernel
theorem d_M_letter_23 : decode b_M_letter 23 = .ok (.iload_n 0, 1) := by decide +kernel
theorem d_M_letter_24 : decode b_M_letter 24 = .ok (.bipush 74, 2) := by decide +kernel
theorem d_M_letter_26 : decode b_M_letter 26 = .ok (.if_icmp .ne 10, 3) := by decide +kernel
theorem d_M_letter_29 : decode b_M_letter 29 = .ok (.iload_n 0, 1) := by decide +kernel
theorem d_M_letter_30 : decode b_M_letter 30 = .ok (.bipush 73, 2) := by decide +kernel
theorem d_M_letter_32 : decode b_M_letter 32 = .ok (.isub, 1) := by decide +kernel
theorem d_M_letter_33 : decode b_M_letter 33 = .ok (.iconst 2, 1) := by decide +kernel
theorem d_M_letter_34 : decode b_M_letter 34 = .ok (.iadd, 1) := by decide +kernel
theorem d_M_letter_35 : decode b_M_letter 35 = .ok (.ireturn, 1) := by decide +kernel
theorem d_M_letter_36 : decode b_M_letter 36 = .ok (.iload_n 0, 1) := by decide +kernel
theorem d_M_letter_37 : decode b_M_letter 37 = .ok (.bipush 70, 2) := by decide +kernel
theorem d_M_letter_39 : decode b_M_letter 39 = .ok (.if_icmp .ne 7, 3) := by decide +kernel
theorem d_M_letter_42 : decode b_M_letter 42 = .ok (.iconst 4, 1) := by decide +kernel
theorem d_M_letter_43 : decode b_M_letter 43 = .ok (.goto 25, 3) := by decide +kernel
theorem d_M_letter_46 : decode b_M_letter 46 = .ok (.iload_n 0, 1) := by decide +kernel
theorem d_M_letter_47 : decode b_M_letter 47 = .ok (.bipush 71, 2) := by decide +kernel
theorem d_M_letter_49 : decode b_M_letter 49 = .ok (.if_icmp .ne 7, 3) := by decide +kernel
theorem d_M_letter_52 : decode b_M_letter 52 = .ok (.iconst 5, 1) := by decide +kernel
theorem d_M_letter_53 : decode b_M_letter 53 = .ok (.goto 15, 3) := by decide +kernel
theorem d_M_letter_56 : decode b_M_letter 56 = .ok (.iload_n 0, 1) := by decide +kernel
theorem d_M_letter_57 : decode b_M_letter 57 = .ok (.bipush 77, 2) := by decide +kernel
theorem d_M_letter_59 : decode b_M_letter 59 = .ok (.if_icmp .ne 8, 3) := by decide +kernel
theorem d_M_letter_62 : decode b_M_letter 62 = .ok (.bipush 6, 2) := by decide +kernel
theorem d_M_letter_64 : decode b_M_letter 64 = .ok (.goto 4, 3) := by decide +kernel
theorem d_M_letter_67 : decode b_M_letter 67 = .ok (.iconst (-1), 1) := by decide +kernel
theorem d_M_letter_68 : decode b_M_letter 68 = .ok (.ireturn, 1) := by decide +kernel
theorem d_M_read_0 : decode b_M_read 0 = .ok (.aload_n 0, 1) := by decide +kernel
theorem d_M_read_1 : decode b_M_read 1 = .ok (.iconst 0, 1) := by decide +kernel
theorem d_M_read_2 : decode b_M_read 2 = .ok (.putfield 76, 3) := by decide +kernel
theorem d_M_read_5 : decode b_M_read 5 = .ok (.aload_n 0, 1) := by decide +kernel
theorem d_M_read_6 : decode b_M_read 6 = .ok (.iconst (-1), 1) := by decide +kernel
theorem d_M_read_7 : decode b_M_read 7 = .ok (.putfield 79, 3) := by decide +kernel
theorem d_M_read_10 : decode b_M_read 10 = .ok (.aload_n 0, 1) := by decide +kernel
theorem d_M_read_11 : decode b_M_read 11 = .ok (.iconst (-1), 1) := by decide +kernel
theorem d_M_read_12 : decode b_M_read 12 = .ok (.putfield 82, 3) := by decide +kernel
theorem d_M_read_15 : decode b_M_read 15 = .ok (.aload_n 0, 1) := by decide +kernel
theorem d_M_read_16 : decode b_M_read 16 = .ok (.iconst (-1), 1) := by decide +kernel
theorem d_M_read_17 : decode b_M_read 17 = .ok (.putfield 85, 3) := by decide +kernel
theorem d_M_read_20 : decode b_M_read 20 = .ok (.aload_n 0, 1) := by decide +kernel
theorem d_M_read_21 : decode b_M_read 21 = .ok (.iconst (-1), 1) := by decide +kernel
theorem d_M_read_22 : decode b_M_read 22 = .ok (.putfield 88, 3) := by decide +kernel
theorem d_M_read_25 : decode b_M_read 25 = .ok (.aload_n 0, 1) := by decide +kernel
theorem d_M_read_26 : decode b_M_read 26 = .ok (.iload_n 1, 1) := by decide +kernel
theorem d_M_read_27 : decode b_M_read 27 = .ok (.iload_n 2, 1) := by decide +kernel
theorem d_M_read_28 : decode b_M_read 28 = .ok (.invokevirtual 91, 3) := by decide +kernel
theorem d_M_read_31 : decode b_M_read 31 = .ok (.istore_n 3, 1) := by decide +kernel
theorem d_M_read_32 : decode b_M_read 32 = .ok (.iconst 0, 1) := by decide +kernel
theorem d_M_read_33 : decode b_M_read 33 = .ok (.istore 4, 2) := by decide +kernel
theorem d_M_read_35 : decode b_M_read 35 = .ok (.iload 4, 2) := by decide +kernel
theorem d_M_read_37 : decode b_M_read 37 = .ok (.sipush 400, 3) := by decide +kernel
theorem d_M_read_40 : decode b_M_read 40 = .ok (.if_icmp .ge 252, 3) := by decide +kernel
theorem d_M_read_43 : decode b_M_read 43 = .ok (.iload_n 3, 1) := by decide +kernel
theorem d_M_read_44 : decode b_M_read 44 = .ok (.iload_n 2, 1) := by decide +kernel
theorem d_M_read_45 : decode b_M_read 45 = .ok (.if_icmp .ge 247, 3) := by decide +kernel
theorem d_M_read_48 : decode b_M_read 48 = .ok (.aload_n 0, 1) := by decide +kernel
theorem d_M_read_49 : decode b_M_read 49 = .ok (.getfield 7, 3) := by decide +kernel
theorem d_M_read_52 : decode b_M_read 52 = .ok (.iload_n 3, 1) := by decide +kernel
theorem d_M_read_53 : decode b_M_read 53 = .ok (.iaload, 1) := by decide +kernel
theorem d_M_read_54 : decode b_M_read 54 = .ok (.invokestatic 95, 3) := by decide +kernel
theorem d_M_read_57 : decode b_M_read 57 = .ok (.istore 5, 2) := by decide +kernel
theorem d_M_read_59 : decode b_M_read 59 = .ok (.iload 5, 2) := by decide +kernel
theorem d_M_read_61 : decode b_M_read 61 = .ok (.ifCond .ge 6, 3) := by decide +kernel
theorem d_M_read_64 : decode b_M_read 64 = .ok (.bipush 101, 2) := by decide +kernel
theorem d_M_read_66 : decode b_M_read 66 = .ok (.ireturn, 1) := by decide +kernel
theorem d_M_read_67 : decode b_M_read 67 = .ok (.aload_n 0, 1) := by decide +kernel
theorem d_M_read_68 : decode b_M_read 68 = .ok (.iload_n 3, 1) := by decide +kernel
theorem d_M_read_69 : decode b_M_read 69 = .ok (.iconst 1, 1) := by decide +kernel
theorem d_M_read_70 : decode b_M_read 70 = .ok (.iadd, 1) := by decide +kernel
theorem d_M_read_71 : decode b_M_read 71 = .ok (.iload_n 2, 1) := by decide +kernel
theorem d_M_read_72 : decode b_M_read 72 = .ok (.invokevirtual 91, 3) := by decide +kernel
theorem d_M_read_75 : decode b_M_read 75 = .ok (.istore_n 3, 1) := by decide +kernel
theorem d_M_read_76 : decode b_M_read 76 = .ok (.iload_n 3, 1) := by decide +kernel
theorem d_M_read_77 : decode b_M_read 77 = .ok (.iload_n 2, 1) := by decide +kernel
theorem d_M_read_78 : decode b_M_read 78 = .ok (.if_icmp .ge 24, 3) := by decide +kernel
theorem d_M_read_81 : decode b_M_read 81 = .ok (.aload_n 0, 1) := by decide +kernel
theorem d_M_read_82 : decode b_M_read 82 = .ok (.getfield 7, 3) := by decide +kernel
theorem d_M_read_85 : decode b_M_read 85 = .ok (.iload_n 3, 1) := by decide +kernel
theorem d_M_read_86 : decode b_M_read 86 = .ok (.iaload, 1) := by decide +kernel
theorem d_M_read_87 : decode b_M_read 87 = .ok (.bipush 45, 2) := by decide +kernel
theorem d_M_read_89 : decode b_M_read 89 = .ok (.if_icmp .ne 13, 3) := by decide +kernel
theorem d_M_read_92 : decode b_M_read 92 = .ok (.iload 5, 2) := by decide +kernel
theorem d_M_read_94 : decode b_M_read 94 = .ok (.iconst 4, 1) := by decide +kernel
theorem d_M_read_95 : decode b_M_read 95 = .ok (.if_icmp .ge 7, 3) := by decide +kernel
theorem d_M_read_98 : decode b_M_read 98 = .ok (.iconst 1, 1) := by decide +kernel
theorem d_M_read_99 : decode b_M_read 99 = .ok (.goto 4, 3) := by decide +kernel
theorem d_M_read_102 : decode b_M_read 102 = .ok (.iconst 0, 1) := by decide +kernel
theorem d_M_read_103 : decode b_M_read 103 = .ok (.istore 6, 2) := by decide +kernel
theorem d_M_read_105 : decode b_M_read 105 = .ok (.iload_n 3, 1) := by decide +kernel
theorem d_M_read_106 : decode b_M_read 106 = .ok (.iload_n 2, 1) := by decide +kernel
theorem d_M_read_107 : decode b_M_read 107 = .ok (.if_icmp .ge 24, 3) := by decide +kernel
theorem d_M_read_110 : decode b_M_read 110 = .ok (.aload_n 0, 1) := by decide +kernel
theorem d_M_read_111 : decode b_M_read 111 = .ok (.getfield 7, 3) := by decide +kernel
theorem d_M_read_114 : decode b_M_read 114 = .ok (.iload_n 3, 1) := by decide +kernel
theorem d_M_read_115 : decode b_M_read 115 = .ok (.iaload, 1) := by decide +kernel
theorem d_M_read_116 : decode b_M_read 116 = .ok (.bipush 43, 2) := by decide +kernel
theorem d_M_read_118 : decode b_M_read 118 = .ok (.if_icmp .ne 13, 3) := by decide +kernel
theorem d_M_read_121 : decode b_M_read 121 = .ok (.iload 5, 2) := by decide +kernel
theorem d_M_read_123 : decode b_M_read 123 = .ok (.iconst 4, 1) := by decide +kernel
theorem d_M_read_124 : decode b_M_read 124 = .ok (.if_icmp .ge 7, 3) := by decide +kernel
theorem d_M_read_127 : decode b_M_read 127 = .ok (.iconst 1, 1) := by decide +kernel
theorem d_M_read_128 : decode b_M_read 128 = .ok (.goto 4, 3) := by decide +kernel
theorem d_M_read_131 : decode b_M_read 131 = .ok (.iconst 0, 1) := by decide +kernel
theorem d_M_read_132 : decode b_M_read 132 = .ok (.istore 7, 2) := by decide +kernel
theorem d_M_read_134 : decode b_M_read 134 = .ok (.iload 6, 2) := by decide +kernel
theorem d_M_read_136 : decode b_M_read 136 = .ok (.ifCond .ne 8, 3) := by decide +kernel
theorem d_M_read_139 : decode b_M_read 139 = .ok (.iload 7, 2) := by decide +kernel
theorem d_M_read_141 : decode b_M_read 141 = .ok (.ifCond .eq 12, 3) := by decide +kernel
theorem d_M_read_144 : decode b_M_read 144 = .ok (.aload_n 0, 1) := by decide +kernel
theorem d_M_read_145 : decode b_M_read 145 = .ok (.iload_n 3, 1) := by decide +kernel
theorem d_M_read_146 : decode b_M_read 146 = .ok (.iconst 1, 1) := by decide +kernel
theorem d_M_read_147 : decode b_M_read 147 = .ok (.iadd, 1) := by decide +kernel
theorem d_M_read_148 : decode b_M_read 148 = .ok (.iload_n 2, 1) := by decide +kernel
theorem d_M_read_149 : decode b_M_read 149 = .ok (.invokevirtual 91, 3) := by decide +kernel
theorem d_M_read_152 : decode b_M_read 152 = .ok (.istore_n 3, 1) := by decide +kernel
theorem d_M_read_153 : decode b_M_read 153 = .ok (.iconst 0, 1) := by decide +kernel
theorem d_M_read_154 : decode b_M_read 154 = .ok (.istore 8, 2) := by decide +kernel
theorem d_M_read_156 : decode b_M_read 156 = .ok (.iconst 0, 1) := by decide +kernel
theorem d_M_read_157 : decode b_M_read 157 = .ok (.istore 9, 2) := by decide +kernel
theorem d_M_read_159 : decode b_M_read 159 = .ok (.iload_n 3, 1) := by decide +kernel
theorem d_M_read_160 : decode b_M_read 160 = .ok (.iload_n 2, 1) := by decide +kernel
theorem d_M_read_161 : decode b_M_read 161 = .ok (.if_icmp .ge 57, 3) := by decide +kernel
theorem d_M_read_164 : decode b_M_read 164 = .ok (.aload_n 0, 1) := by decide +kernel
theorem d_M_read_165 : decode b_M_read 165 = .ok (.getfield 7, 3) := by decide +kernel
theorem d_M_read_168 : decode b_M_read 168 = .ok (.iload_n 3, 1) := by decide +kernel
theorem d_M_read_169 : decode b_M_read 169 = .ok (.iaload, 1) := by decide +kernel
theorem d_M_read_170 : decode b_M_read 170 = .ok (.invokestatic 99, 3) := by decide +kernel
theorem d_M_read_173 : decode b_M_read 173 = .ok (.ifCond .eq 45, 3) := by decide +kernel
theorem d_M_read_176 : decode b_M_read 176 = .ok (.iload 9, 2) := by decide +kernel
theorem d_M_read_178 : decode b_M_read 178 = .ok (.bipush 6, 2) := by decide +kernel
theorem d_M_read_180 : decode b_M_read 180 = .ok (.if_icmp .ge 20, 3) := by decide +kernel
theorem d_M_read_183 : decode b_M_read 183 = .ok (.bipush 10, 2) := by decide +kernel
theorem d_M_read_185 : decode b_M_read 185 = .ok (.iload 8, 2) := by decide +kernel
theorem d_M_read_187 : decode b_M_read 187 = .ok (.imul, 1) := by decide +kernel
theorem d_M_read_188 : decode b_M_read 188 = .ok (.aload_n 0, 1) := by decide +kernel
theorem d_M_read_189 : decode b_M_read 189 = .ok (.getfield 7, 3) := by decide +kernel
theorem d_M_read_192 : decode b_M_read 192 = .ok (.iload_n 3, 1) := by decide +kernel
theorem d_M_read_193 : decode b_M_read 193 = .ok (.iaload, 1) := by decide +kernel
theorem d_M_read_194 : decode b_M_read 194 = .ok (.iadd, 1) := by decide +kernel
theorem d_M_read_195 : decode b_M_read 195 = .ok (.bipush 48, 2) := by decide +kernel
theorem d_M_read_197 : decode b_M_read 197 = .ok (.isub, 1) := by decide +kernel
theorem d_M_read_198 : decode b_M_read 198 = .ok (.istore 8, 2) := by decide +kernel
theorem d_M_read_200 : decode b_M_read 200 = .ok (.iload 9, 2) := by decide +kernel
theorem d_M_read_202 : decode b_M_read 202 = .ok (.iconst 1, 1) := by decide +kernel
theorem d_M_read_203 : decode b_M_read 203 = .ok (.iadd, 1) := by decide +kernel
theorem d_M_read_204 : decode b_M_read 204 = .ok (.istore 9, 2) := by decide +kernel
theorem d_M_read_206 : decode b_M_read 206 = .ok (.aload_n 0, 1) := by decide +kernel
theorem d_M_read_207 : decode b_M_read 207 = .ok (.iload_n 3, 1) := by decide +kernel
theorem d_M_read_208 : decode b_M_read 208 = .ok (.iconst 1, 1) := by decide +kernel
theorem d_M_read_209 : decode b_M_read 209 = .ok (.iadd, 1) := by decide +kernel
theorem d_M_read_210 : decode b_M_read 210 = .ok (.iload_n 2, 1) := by decide +kernel
theorem d_M_read_211 : decode b_M_read 211 = .ok (.invokevirtual 91, 3) := by decide +kernel
theorem d_M_read_214 : decode b_M_read 214 = .ok (.istore_n 3, 1) := by decide +kernel
theorem d_M_read_215 : decode b_M_read 215 = .ok (.goto (-56), 3) := by decide +kernel
theorem d_M_read_218 : decode b_M_read 218 = .ok (.iload 5, 2) := by decide +kernel
theorem d_M_read_220 : decode b_M_read 220 = .ok (.iconst 4, 1) := by decide +kernel
theorem d_M_read_221 : decode b_M_read 221 = .ok (.if_icmp .ge 7, 3) := by decide +kernel
theorem d_M_read_224 : decode b_M_read 224 = .ok (.iconst 4, 1) := by decide +kernel
theorem d_M_read_225 : decode b_M_read 225 = .ok (.goto 14, 3) := by decide +kernel
theorem d_M_read_228 : decode b_M_read 228 = .ok (.iload 5, 2) := by decide +kernel
theorem d_M_read_230 : decode b_M_read 230 = .ok (.iconst 4, 1) := by decide +kernel
theorem d_M_read_231 : decode b_M_read 231 = .ok (.if_icmp .ne 7, 3) := by decide +kernel
theorem d_M_read_234 : decode b_M_read 234 = .ok (.iconst 5, 1) := by decide +kernel
theorem d_M_read_235 : decode b_M_read 235 = .ok (.goto 4, 3) := by decide +kernel
theorem d_M_read_238 : decode b_M_read 238 = .ok (.iconst 2, 1) := by decide +kernel
theorem d_M_read_239 : decode b_M_read 239 = .ok (.istore 10, 2) := by decide +kernel
theorem d_M_read_241 : decode b_M_read 241 = .ok (.iload 9, 2) := by decide +kernel
theorem d_M_read_243 : decode b_M_read 243 = .ok (.iconst 1, 1) := by decide +kernel
theorem d_M_read_244 : decode b_M_read 244 = .ok (.if_icmp .lt 10, 3) := by decide +kernel
theorem d_M_read_247 : decode b_M_read 247 = .ok (.iload 9, 2) := by decide +kernel
theorem d_M_read_249 : decode b_M_read 249 = .ok (.iload 10, 2) := by decide +kernel
theorem d_M_read_251 : decode b_M_read 251 = .ok (.if_icmp .le 6, 3) := by decide +kernel
theorem d_M_read_254 : decode b_M_read 254 = .ok (.bipush 101, 2) := by decide +kernel
theorem d_M_read_256 : decode b_M_read 256 = .ok (.ireturn, 1) := by decide +kernel
theorem d_M_read_257 : decode b_M_read 257 = .ok (.aload_n 0, 1) := by decide +kernel
theorem d_M_read_258 : decode b_M_read 258 = .ok (.iload 5, 2) := by decide +kernel
theorem d_M_read_260 : decode b_M_read 260 = .ok (.iload 6, 2) := by decide +kernel
theorem d_M_read_262 : decode b_M_read 262 = .ok (.ifCond .eq 9, 3) := by decide +kernel
theorem d_M_read_265 : decode b_M_read 265 = .ok (.iload 8, 2) := by decide +kernel
theorem d_M_read_267 : decode b_M_read 267 = .ok (.ineg, 1) := by decide +kernel
theorem d_M_read_268 : decode b_M_read 268 = .ok (.goto 5, 3) := by decide +kernel
theorem d_M_read_271 : decode b_M_read 271 = .ok (.iload 8, 2) := by decide +kernel
theorem d_M_read_273 : decode b_M_read 273 = .ok (.invokevirtual 103, 3) := by decide +kernel
theorem d_M_read_276 : decode b_M_read 276 = .ok (.istore 11, 2) := by decide +kernel
theorem d_M_read_278 : decode b_M_read 278 = .ok (.iload 11, 2) := by decide +kernel
theorem d_M_read_280 : decode b_M_read 280 = .ok (.ifCond .le 6, 3) := by decide +kernel
theorem d_M_read_283 : decode b_M_read 283 = .ok (.iload 11, 2) := by decide +kernel
theorem d_M_read_285 : decode b_M_read 285 = .ok (.ireturn, 1) := by decide +kernel
theorem d_M_read_286 : decode b_M_read 286 = .ok (.iinc 4 1, 3) := by decide +kernel
theorem d_M_read_289 : decode b_M_read 289 = .ok (.goto (-254), 3) := by decide +kernel
theorem d_M_read_292 : decode b_M_read 292 = .ok (.iconst 0, 1) := by decide +kernel
theorem d_M_read_293 : decode b_M_read 293 = .ok (.ireturn, 1) := by decide +kernel
theorem d_M_keep_0 : decode b_M_keep 0 = .ok (.iload_n 1, 1) := by decide +kernel
theorem d_M_keep_1 : decode b_M_keep 1 = .ok (.iconst 5, 1) := by decide +kernel
theorem d_M_keep_2 : decode b_M_keep 2 = .ok (.if_icmp .ne 71, 3) := by decide +kernel
theorem d_M_keep_5 : decode b_M_keep 5 = .ok (.iload_n 2, 1) := by decide +kernel
theorem d_M_keep_6 : decode b_M_keep 6 = .ok (.iconst 3, 1) := by decide +kernel
theorem d_M_keep_7 : decode b_M_keep 7 = .ok (.if_icmp .le 18, 3) := by decide +kernel
theorem d_M_keep_10 : decode b_M_keep 10 = .ok (.iload_n 2, 1) := by decide +kernel
theorem d_M_keep_11 : decode b_M_keep 11 = .ok (.bipush 90, 2) := by decide +kernel
theorem d_M_keep_13 : decode b_M_keep 13 = .ok (.if_icmp .eq 12, 3) := by decide +kernel
theorem d_M_keep_16 : decode b_M_keep 16 = .ok (.iload_n 2, 1) := by decide +kernel
theorem d_M_keep_17 : decode b_M_keep 17 = .ok (.bipush 91, 2) := by decide +kernel
theorem d_M_keep_19 : decode b_M_keep 19 = .ok (.if_icmp .eq 6, 3) := by decide +kernel
theorem d_M_keep_22 : decode b_M_keep 22 = .ok (.bipush 102, 2) := by decide +kernel
theorem d_M_keep_24 : decode b_M_keep 24 = .ok (.ireturn, 1) := by decide +kernel
theorem d_M_keep_25 : decode b_M_keep 25 = .ok (.iload_n 2, 1) := by decide +kernel
theorem d_M_keep_26 : decode b_M_keep 26 = .ok (.iconst 3, 1) := by decide +kernel
theorem d_M_keep_27 : decode b_M_keep 27 = .ok (.if_icmp .le 13, 3) := by decide +kernel
theorem d_M_keep_30 : decode b_M_keep 30 = .ok (.aload_n 0, 1) := by decide +kernel
theorem d_M_keep_31 : decode b_M_keep 31 = .ok (.getfield 82, 3) := by decide +kernel
theorem d_M_keep_34 : decode b_M_keep 34 = .ok (.ifCond .lt 16, 3) := by decide +kernel
theorem d_M_keep_37 : decode b_M_keep 37 = .ok (.goto 10, 3) := by decide +kernel
theorem d_M_keep_40 : decode b_M_keep 40 = .ok (.aload_n 0, 1) := by decide +kernel
theorem d_M_keep_41 : decode b_M_keep 41 = .ok (.getfield 79, 3) := by decide +kernel
theorem d_M_keep_44 : decode b_M_keep 44 = .ok (.ifCond .lt 6, 3) := by decide +kernel
theorem d_M_keep_47 : decode b_M_keep 47 = .ok (.bipush 103, 2) := by decide +kernel
theorem d_M_keep_49 : decode b_M_keep 49 = .ok (.ireturn, 1) := by decide +kernel
theorem d_M_keep_50 : decode b_M_keep 50 = .ok (.iload_n 2, 1) := by decide +kernel
theorem d_M_keep_51 : decode b_M_keep 51 = .ok (.iconst 3, 1) := by decide +kernel
theorem d_M_keep_52 : decode b_M_keep 52 = .ok (.if_icmp .le 14, 3) := by decide +kernel
theorem d_M_keep_55 : decode b_M_keep 55 = .ok (.aload_n 0, 1) := by decide +kernel
theorem d_M_keep_56 : decode b_M_keep 56 = .ok (.iload_n 2, 1) := by decide +kernel
theorem d_M_keep_57 : decode b_M_keep 57 = .ok (.bipush 90, 2) := by decide +kernel
theorem d_M_keep_59 : decode b_M_keep 59 = .ok (.isub, 1) := by decide +kernel
theorem d_M_keep_60 : decode b_M_keep 60 = .ok (.putfield 82, 3) := by decide +kernel
theorem d_M_keep_63 : decode b_M_keep 63 = .ok (.goto 8, 3) := by decide +kernel
theorem d_M_keep_66 : decode b_M_keep 66 = .ok (.aload_n 0, 1) := by decide +kernel
theorem d_M_keep_67 : decode b_M_keep 67 = .ok (.iload_n 2, 1) := by decide +kernel
theorem d_M_keep_68 : decode b_M_keep 68 = .ok (.putfield 79, 3) := by decide +kernel
theorem d_M_keep_71 : decode b_M_keep 71 = .ok (.iconst 0, 1) := by decide +kernel
theorem d_M_keep_72 : decode b_M_keep 72 = .ok (.ireturn, 1) := by decide +kernel
theorem d_M_keep_73 : decode b_M_keep 73 = .ok (.iload_n 1, 1) := by decide +kernel
theorem d_M_keep_74 : decode b_M_keep 74 = .ok (.bipush 6, 2) := by decide +kernel
theorem d_M_keep_76 : decode b_M_keep 76 = .ok (.if_icmp .ne 28, 3) := by decide +kernel
theorem d_M_keep_79 : decode b_M_keep 79 = .ok (.iload_n 2, 1) := by decide +kernel
theorem d_M_keep_80 : decode b_M_keep 80 = .ok (.iconst 2, 1) := by decide +kernel
theorem d_M_keep_81 : decode b_M_keep 81 = .ok (.if_icmp .eq 6, 3) := by decide +kernel
theorem d_M_keep_84 : decode b_M_keep 84 = .ok (.bipush 102, 2) := by decide +kernel
theorem d_M_keep_86 : decode b_M_keep 86 = .ok (.ireturn, 1) := by decide +kernel
theorem d_M_keep_87 : decode b_M_keep 87 = .ok (.aload_n 0, 1) := by decide +kernel
theorem d_M_keep_88 : decode b_M_keep 88 = .ok (.getfield 88, 3) := by decide +kernel
theorem d_M_keep_91 : decode b_M_keep 91 = .ok (.ifCond .lt 6, 3) := by decide +kernel
theorem d_M_keep_94 : decode b_M_keep 94 = .ok (.bipush 103, 2) := by decide +kernel
theorem d_M_keep_96 : decode b_M_keep 96 = .ok (.ireturn, 1) := by decide +kernel
theorem d_M_keep_97 : decode b_M_keep 97 = .ok (.aload_n 0, 1) := by decide +kernel
theorem d_M_keep_98 : decode b_M_keep 98 = .ok (.iconst 1, 1) := by decide +kernel
theorem d_M_keep_99 : decode b_M_keep 99 = .ok (.putfield 88, 3) := by decide +kernel
theorem d_M_keep_102 : decode b_M_keep 102 = .ok (.iconst 0, 1) := by decide +kernel
theorem d_M_keep_103 : decode b_M_keep 103 = .ok (.ireturn, 1) := by decide +kernel
theorem d_M_keep_104 : decode b_M_keep 104 = .ok (.iload_n 1, 1) := by decide +kernel
theorem d_M_keep_105 : decode b_M_keep 105 = .ok (.iconst 4, 1) := by decide +kernel
theorem d_M_keep_106 : decode b_M_keep 106 = .ok (.if_icmp .ne 35, 3) := by decide +kernel
theorem d_M_keep_109 : decode b_M_keep 109 = .ok (.aload_n 0, 1) := by decide +kernel
theorem d_M_keep_110 : decode b_M_keep 110 = .ok (.getfield 85, 3) := by decide +kernel
theorem d_M_keep_113 : decode b_M_keep 113 = .ok (.ifCond .lt 6, 3) := by decide +kernel
theorem d_M_keep_116 : decode b_M_keep 116 = .ok (.bipush 103, 2) := by decide +kernel
theorem d_M_keep_118 : decode b_M_keep 118 = .ok (.ireturn, 1) := by decide +kernel
theorem d_M_keep_119 : decode b_M_keep 119 = .ok (.iload_n 2, 1) := by decide +kernel
theorem d_M_keep_120 : decode b_M_keep 120 = .ok (.iconst 1, 1) := by decide +kernel
theorem d_M_keep_121 : decode b_M_keep 121 = .ok (.if_icmp .lt 10, 3) := by decide +kernel
theorem d_M_keep_124 : decode b_M_keep 124 = .ok (.iload_n 2, 1) := by decide +kernel
theorem d_M_keep_125 : decode b_M_keep 125 = .ok (.sipush 10000, 3) := by decide +kernel
theorem d_M_keep_128 : decode b_M_keep 128 = .ok (.if_icmp .le 6, 3) := by decide +kernel
theorem d_M_keep_131 : decode b_M_keep 131 = .ok (.bipush 105, 2) := by decide +kernel
theorem d_M_keep_133 : decode b_M_keep 133 = .ok (.ireturn, 1) := by decide +kernel
theorem d_M_keep_134 : decode b_M_keep 134 = .ok (.aload_n 0, 1) := by decide +kernel
theorem d_M_keep_135 : decode b_M_keep 135 = .ok (.iload_n 2, 1) := by decide +kernel
theorem d_M_keep_136 : decode b_M_keep 136 = .ok (.putfield 85, 3) := by decide +kernel
theorem d_M_keep_139 : decode b_M_keep 139 = .ok (.iconst 0, 1) := by decide +kernel
theorem d_M_keep_140 : decode b_M_keep 140 = .ok (.ireturn, 1) := by decide +kernel
theorem d_M_keep_141 : decode b_M_keep 141 = .ok (.aload_n 0, 1) := by decide +kernel
theorem d_M_keep_142 : decode b_M_keep 142 = .ok (.getfield 76, 3) := by decide +kernel
theorem d_M_keep_145 : decode b_M_keep 145 = .ok (.iload_n 1, 1) := by decide +kernel
theorem d_M_keep_146 : decode b_M_keep 146 = .ok (.ishr, 1) := by decide +kernel
theorem d_M_keep_147 : decode b_M_keep 147 = .ok (.iconst 1, 1) := by decide +kernel
theorem d_M_keep_148 : decode b_M_keep 148 = .ok (.iand, 1) := by decide +kernel
theorem d_M_keep_149 : decode b_M_keep 149 = .ok (.iconst 1, 1) := by decide +kernel
theorem d_M_keep_150 : decode b_M_keep 150 = .ok (.if_icmp .ne 6, 3) := by decide +kernel
theorem d_M_keep_153 : decode b_M_keep 153 = .ok (.bipush 103, 2) := by decide +kernel
theorem d_M_keep_155 : decode b_M_keep 155 = .ok (.ireturn, 1) := by decide +kernel
theorem d_M_keep_156 : decode b_M_keep 156 = .ok (.aload_n 0, 1) := by decide +kernel
theorem d_M_keep_157 : decode b_M_keep 157 = .ok (.aload_n 0, 1) := by decide +kernel
theorem d_M_keep_158 : decode b_M_keep 158 = .ok (.getfield 76, 3) := by decide +kernel
theorem d_M_keep_161 : decode b_M_keep 161 = .ok (.iconst 1, 1) := by decide +kernel
theorem d_M_keep_162 : decode b_M_keep 162 = .ok (.iload_n 1, 1) := by decide +kernel
theorem d_M_keep_163 : decode b_M_keep 163 = .ok (.ishl, 1) := by decide +kernel
theorem d_M_keep_164 : decode b_M_keep 164 = .ok (.ior, 1) := by decide +kernel
theorem d_M_keep_165 : decode b_M_keep 165 = .ok (.putfield 76, 3) := by decide +kernel
theorem d_M_keep_168 : decode b_M_keep 168 = .ok (.aload_n 0, 1) := by decide +kernel
theorem d_M_keep_169 : decode b_M_keep 169 = .ok (.getfield 19, 3) := by decide +kernel
theorem d_M_keep_172 : decode b_M_keep 172 = .ok (.iload_n 1, 1) := by decide +kernel
theorem d_M_keep_173 : decode b_M_keep 173 = .ok (.iload_n 2, 1) := by decide +kernel
theorem d_M_keep_174 : decode b_M_keep 174 = .ok (.iastore, 1) := by decide +kernel
theorem d_M_keep_175 : decode b_M_keep 175 = .ok (.iconst 0, 1) := by decide +kernel
theorem d_M_keep_176 : decode b_M_keep 176 = .ok (.ireturn, 1) := by decide +kernel
theorem d_M_goal_0 : decode b_M_goal 0 = .ok (.aload_n 0, 1) := by decide +kernel
theorem d_M_goal_1 : decode b_M_goal 1 = .ok (.getfield 76, 3) := by decide +kernel
theorem d_M_goal_4 : decode b_M_goal 4 = .ok (.iload_n 1, 1) := by decide +kernel
theorem d_M_goal_5 : decode b_M_goal 5 = .ok (.ishr, 1) := by decide +kernel
theorem d_M_goal_6 : decode b_M_goal 6 = .ok (.iconst 1, 1) := by decide +kernel
theorem d_M_goal_7 : decode b_M_goal 7 = .ok (.iand, 1) := by decide +kernel
theorem d_M_goal_8 : decode b_M_goal 8 = .ok (.ifCond .ne 5, 3) := by decide +kernel
theorem d_M_goal_11 : decode b_M_goal 11 = .ok (.iload_n 2, 1) := by decide +kernel
theorem d_M_goal_12 : decode b_M_goal 12 = .ok (.ireturn, 1) := by decide +kernel
theorem d_M_goal_13 : decode b_M_goal 13 = .ok (.aload_n 0, 1) := by decide +kernel
theorem d_M_goal_14 : decode b_M_goal 14 = .ok (.getfield 59, 3) := by decide +kernel
theorem d_M_goal_17 : decode b_M_goal 17 = .ok (.ifCond .eq 14, 3) := by decide +kernel
theorem d_M_goal_20 : decode b_M_goal 20 = .ok (.iload_n 2, 1) := by decide +kernel
theorem d_M_goal_21 : decode b_M_goal 21 = .ok (.aload_n 0, 1) := by decide +kernel
theorem d_M_goal_22 : decode b_M_goal 22 = .ok (.getfield 19, 3) := by decide +kernel
theorem d_M_goal_25 : decode b_M_goal 25 = .ok (.iload_n 1, 1) := by decide +kernel
theorem d_M_goal_26 : decode b_M_goal 26 = .ok (.iaload, 1) := by decide +kernel
theorem d_M_goal_27 : decode b_M_goal 27 = .ok (.iadd, 1) := by decide +kernel
theorem d_M_goal_28 : decode b_M_goal 28 = .ok (.goto 9, 3) := by decide +kernel
theorem d_M_goal_31 : decode b_M_goal 31 = .ok (.aload_n 0, 1) := by decide +kernel
theorem d_M_goal_32 : decode b_M_goal 32 = .ok (.getfield 19, 3) := by decide +kernel
theorem d_M_goal_35 : decode b_M_goal 35 = .ok (.iload_n 1, 1) := by decide +kernel
theorem d_M_goal_36 : decode b_M_goal 36 = .ok (.iaload, 1) := by decide +kernel
theorem d_M_goal_37 : decode b_M_goal 37 = .ok (.ireturn, 1) := by decide +kernel
theorem d_M_inLimits_0 : decode b_M_inLimits 0 = .ok (.iload_n 0, 1) := by decide +kernel
theorem d_M_inLimits_1 : decode b_M_inLimits 1 = .ok (.sipush (-200), 3) := by decide +kernel
theorem d_M_inLimits_4 : decode b_M_inLimits 4 = .ok (.if_icmp .lt 14, 3) := by decide +kernel
theorem d_M_inLimits_7 : decode b_M_inLimits 7 = .ok (.iload_n 0, 1) := by decide +kernel
theorem d_M_inLimits_8 : decode b_M_inLimits 8 = .ok (.sipush 200, 3) := by decide +kernel
theorem d_M_inLimits_11 : decode b_M_inLimits 11 = .ok (.if_icmp .gt 7, 3) := by decide +kernel
theorem d_M_inLimits_14 : decode b_M_inLimits 14 = .ok (.iconst 1, 1) := by decide +kernel
theorem d_M_inLimits_15 : decode b_M_inLimits 15 = .ok (.goto 4, 3) := by decide +kernel
theorem d_M_inLimits_18 : decode b_M_inLimits 18 = .ok (.iconst 0, 1) := by decide +kernel
theorem d_M_inLimits_19 : decode b_M_inLimits 19 = .ok (.ireturn, 1) := by decide +kernel
theorem d_M_act_0 : decode b_M_act 0 = .ok (.aload_n 0, 1) := by decide +kernel
theorem d_M_act_1 : decode b_M_act 1 = .ok (.getfield 85, 3) := by decide +kernel
theorem d_M_act_4 : decode b_M_act 4 = .ok (.ifCond .le 11, 3) := by decide +kernel
theorem d_M_act_7 : decode b_M_act 7 = .ok (.aload_n 0, 1) := by decide +kernel
theorem d_M_act_8 : decode b_M_act 8 = .ok (.aload_n 0, 1) := by decide +kernel
theorem d_M_act_9 : decode b_M_act 9 = .ok (.getfield 85, 3) := by decide +kernel
theorem d_M_act_12 : decode b_M_act 12 = .ok (.putfield 44, 3) := by decide +kernel
theorem d_M_act_15 : decode b_M_act 15 = .ok (.aload_n 0, 1) := by decide +kernel
theorem d_M_act_16 : decode b_M_act 16 = .ok (.getfield 82, 3) := by decide +kernel
theorem d_M_act_19 : decode b_M_act 19 = .ok (.ifCond .lt 20, 3) := by decide +kernel
theorem d_M_act_22 : decode b_M_act 22 = .ok (.aload_n 0, 1) := by decide +kernel
theorem d_M_act_23 : decode b_M_act 23 = .ok (.aload_n 0, 1) := by decide +kernel
theorem d_M_act_24 : decode b_M_act 24 = .ok (.getfield 82, 3) := by decide +kernel
theorem d_M_act_27 : decode b_M_act 27 = .ok (.iconst 1, 1) := by decide +kernel
theorem d_M_act_28 : decode b_M_act 28 = .ok (.if_icmp .ne 7, 3) := by decide +kernel
theorem d_M_act_31 : decode b_M_act 31 = .ok (.iconst 1, 1) := by decide +kernel
theorem d_M_act_32 : decode b_M_act 32 = .ok (.goto 4, 3) := by decide +kernel
theorem d_M_act_35 : decode b_M_act 35 = .ok (.iconst 0, 1) := by decide +kernel
theorem d_M_act_36 : decode b_M_act 36 = .ok (.putfield 59, 3) := by decide +kernel
theorem d_M_act_39 : decode b_M_act 39 = .ok (.aload_n 0, 1) := by decide +kernel
theorem d_M_act_40 : decode b_M_act 40 = .ok (.getfield 79, 3) := by decide +kernel
theorem d_M_act_43 : decode b_M_act 43 = .ok (.ifCond .lt 11, 3) := by decide +kernel
theorem d_M_act_46 : decode b_M_act 46 = .ok (.aload_n 0, 1) := by decide +kernel
theorem d_M_act_47 : decode b_M_act 47 = .ok (.aload_n 0, 1) := by decide +kernel
theorem d_M_act_48 : decode b_M_act 48 = .ok (.getfield 79, 3) := by decide +kernel
theorem d_M_act_51 : decode b_M_act 51 = .ok (.putfield 41, 3) := by decide +kernel
theorem d_M_act_54 : decode b_M_act 54 = .ok (.aload_n 0, 1) := by decide +kernel
theorem d_M_act_55 : decode b_M_act 55 = .ok (.getfield 76, 3) := by decide +kernel
theorem d_M_act_58 : decode b_M_act 58 = .ok (.bipush 12, 2) := by decide +kernel
theorem d_M_act_60 : decode b_M_act 60 = .ok (.iand, 1) := by decide +kernel
theorem d_M_act_61 : decode b_M_act 61 = .ok (.ifCond .eq 7, 3) := by decide +kernel
theorem d_M_act_64 : decode b_M_act 64 = .ok (.iconst 1, 1) := by decide +kernel
theorem d_M_act_65 : decode b_M_act 65 = .ok (.goto 4, 3) := by decide +kernel
theorem d_M_act_68 : decode b_M_act 68 = .ok (.iconst 0, 1) := by decide +kernel
theorem d_M_act_69 : decode b_M_act 69 = .ok (.istore_n 1, 1) := by decide +kernel
theorem d_M_act_70 : decode b_M_act 70 = .ok (.iload_n 1, 1) := by decide +kernel
theorem d_M_act_71 : decode b_M_act 71 = .ok (.ifCond .eq 11, 3) := by decide +kernel
theorem d_M_act_74 : decode b_M_act 74 = .ok (.aload_n 0, 1) := by decide +kernel
theorem d_M_act_75 : decode b_M_act 75 = .ok (.getfield 41, 3) := by decide +kernel
theorem d_M_act_78 : decode b_M_act 78 = .ok (.iconst 2, 1) := by decide +kernel
theorem d_M_act_79 : decode b_M_act 79 = .ok (.if_icmp .lt 22, 3) := by decide +kernel
theorem d_M_act_82 : decode b_M_act 82 = .ok (.iload_n 1, 1) := by decide +kernel
theorem d_M_act_83 : decode b_M_act 83 = .ok (.ifCond .ne 21, 3) := by decide +kernel
theorem d_M_act_86 : decode b_M_act 86 = .ok (.aload_n 0, 1) := by decide +kernel
theorem d_M_act_87 : decode b_M_act 87 = .ok (.getfield 76, 3) := by decide +kernel
theorem d_M_act_90 : decode b_M_act 90 = .ok (.ifCond .eq 14, 3) := by decide +kernel
theorem d_M_act_93 : decode b_M_act 93 = .ok (.aload_n 0, 1) := by decide +kernel
theorem d_M_act_94 : decode b_M_act 94 = .ok (.getfield 41, 3) := by decide +kernel
theorem d_M_act_97 : decode b_M_act 97 = .ok (.iconst 1, 1) := by decide +kernel
theorem d_M_act_98 : decode b_M_act 98 = .ok (.if_icmp .le 6, 3) := by decide +kernel
theorem d_M_act_101 : decode b_M_act 101 = .ok (.bipush 104, 2) := by decide +kernel
theorem d_M_act_103 : decode b_M_act 103 = .ok (.ireturn, 1) := by decide +kernel
theorem d_M_act_104 : decode b_M_act 104 = .ok (.aload_n 0, 1) := by decide +kernel
theorem d_M_act_105 : decode b_M_act 105 = .ok (.getfield 76, 3) := by decide +kernel
theorem d_M_act_108 : decode b_M_act 108 = .ok (.ifCond .ne 5, 3) := by decide +kernel
theorem d_M_act_111 : decode b_M_act 111 = .ok (.iconst 0, 1) := by decide +kernel
theorem d_M_act_112 : decode b_M_act 112 = .ok (.ireturn, 1) := by decide +kernel
theorem d_M_act_113 : decode b_M_act 113 = .ok (.aload_n 0, 1) := by decide +kernel
theorem d_M_act_114 : decode b_M_act 114 = .ok (.getfield 41, 3) := by decide +kernel
theorem d_M_act_117 : decode b_M_act 117 = .ok (.ifCond .eq 13, 3) := by decide +kernel
theorem d_M_act_120 : decode b_M_act 120 = .ok (.aload_n 0, 1) := by decide +kernel
theorem d_M_act_121 : decode b_M_act 121 = .ok (.getfield 44, 3) := by decide +kernel
theorem d_M_act_124 : decode b_M_act 124 = .ok (.ifCond .ne 6, 3) := by decide +kernel
theorem d_M_act_127 : decode b_M_act 127 = .ok (.bipush 105, 2) := by decide +kernel
theorem d_M_act_129 : decode b_M_act 129 = .ok (.ireturn, 1) := by decide +kernel
theorem d_M_act_130 : decode b_M_act 130 = .ok (.aload_n 0, 1) := by decide +kernel
theorem d_M_act_131 : decode b_M_act 131 = .ok (.iconst 0, 1) := by decide +kernel
theorem d_M_act_132 : decode b_M_act 132 = .ok (.aload_n 0, 1) := by decide +kernel
theorem d_M_act_133 : decode b_M_act 133 = .ok (.getfield 35, 3) := by decide +kernel
theorem d_M_act_136 : decode b_M_act 136 = .ok (.invokevirtual 106, 3) := by decide +kernel
theorem d_M_act_139 : decode b_M_act 139 = .ok (.istore_n 2, 1) := by decide +kernel
theorem d_M_act_140 : decode b_M_act 140 = .ok (.aload_n 0, 1) := by decide +kernel
theorem d_M_act_141 : decode b_M_act 141 = .ok (.iconst 1, 1) := by decide +kernel
theorem d_M_act_142 : decode b_M_act 142 = .ok (.aload_n 0, 1) := by decide +kernel
theorem d_M_act_143 : decode b_M_act 143 = .ok (.getfield 38, 3) := by decide +kernel
theorem d_M_act_146 : decode b_M_act 146 = .ok (.invokevirtual 106, 3) := by decide +kernel
theorem d_M_act_149 : decode b_M_act 149 = .ok (.istore_n 3, 1) := by decide +kernel
theorem d_M_act_150 : decode b_M_act 150 = .ok (.aload_n 0, 1) := by decide +kernel
theorem d_M_act_151 : decode b_M_act 151 = .ok (.aload_n 0, 1) := by decide +kernel
theorem d_M_act_152 : decode b_M_act 152 = .ok (.getfield 41, 3) := by decide +kernel
theorem d_M_act_155 : decode b_M_act 155 = .ok (.ifCond .ne 9, 3) := by decide +kernel
theorem d_M_act_158 : decode b_M_act 158 = .ok (.ldc2_w 109, 3) := by decide +kernel
theorem d_M_act_161 : decode b_M_act 161 = .ok (.goto 18, 3) := by decide +kernel
theorem d_M_act_164 : decode b_M_act 164 = .ok (.ldc 111, 2) := by decide +kernel
theorem d_M_act_166 : decode b_M_act 166 = .ok (.aload_n 0, 1) := by decide +kernel
theorem d_M_act_167 : decode b_M_act 167 = .ok (.getfield 44, 3) := by decide +kernel
theorem d_M_act_170 : decode b_M_act 170 = .ok (.iadd, 1) := by decide +kernel
theorem d_M_act_171 : decode b_M_act 171 = .ok (.iconst 1, 1) := by decide +kernel
theorem d_M_act_172 : decode b_M_act 172 = .ok (.isub, 1) := by decide +kernel
theorem d_M_act_173 : decode b_M_act 173 = .ok (.aload_n 0, 1) := by decide +kernel
theorem d_M_act_174 : decode b_M_act 174 = .ok (.getfield 44, 3) := by decide +kernel
theorem d_M_act_177 : decode b_M_act 177 = .ok (.idiv, 1) := by decide +kernel
theorem d_M_act_178 : decode b_M_act 178 = .ok (.i2l, 1) := by decide +kernel
theorem d_M_act_179 : decode b_M_act 179 = .ok (.putfield 112, 3) := by decide +kernel
theorem d_M_act_182 : decode b_M_act 182 = .ok (.aload_n 0, 1) := by decide +kernel
theorem d_M_act_183 : decode b_M_act 183 = .ok (.getfield 41, 3) := by decide +kernel
theorem d_M_act_186 : decode b_M_act 186 = .ok (.iconst 2, 1) := by decide +kernel
theorem d_M_act_187 : decode b_M_act 187 = .ok (.if_icmp .ge 128, 3) := by decide +kernel
theorem d_M_act_190 : decode b_M_act 190 = .ok (.iload_n 2, 1) := by decide +kernel
theorem d_M_act_191 : decode b_M_act 191 = .ok (.invokestatic 115, 3) := by decide +kernel
theorem d_M_act_194 : decode b_M_act 194 = .ok (.ifCond .eq 10, 3) := by decide +kernel
theorem d_M_act_197 : decode b_M_act 197 = .ok (.iload_n 3, 1) := by decide +kernel
theorem d_M_act_198 : decode b_M_act 198 = .ok (.invokestatic 115, 3) := by decide +kernel
theorem d_M_act_201 : decode b_M_act 201 = .ok (.ifCond .ne 6, 3) := by decide +kernel
theorem d_M_act_204 : decode b_M_act 204 = .ok (.bipush 107, 2) := by decide +kernel
theorem d_M_act_206 : decode b_M_act 206 = .ok (.ireturn, 1) := by decide +kernel
theorem d_M_act_207 : decode b_M_act 207 = .ok (.aload_n 0, 1) := by decide +kernel
theorem d_M_act_208 : decode b_M_act 208 = .ok (.iconst 0, 1) := by decide +kernel
theorem d_M_act_209 : decode b_M_act 209 = .ok (.putfield 118, 3) := by decide +kernel
theorem d_M_act_212 : decode b_M_act 212 = .ok (.aload_n 0, 1) := by decide +kernel
theorem d_M_act_213 : decode b_M_act 213 = .ok (.aload_n 0, 1) := by decide +kernel
theorem d_M_act_214 : decode b_M_act 214 = .ok (.getfield 35, 3) := by decide +kernel
theorem d_M_act_217 : decode b_M_act 217 = .ok (.putfield 121, 3) := by decide +kernel
theorem d_M_act_220 : decode b_M_act 220 = .ok (.aload_n 0, 1) := by decide +kernel
theorem d_M_act_221 : decode b_M_act 221 = .ok (.aload_n 0, 1) := by decide +kernel
theorem d_M_act_222 : decode b_M_act 222 = .ok (.getfield 38, 3) := by decide +kernel
theorem d_M_act_225 : decode b_M_act 225 = .ok (.putfield 124, 3) := by decide +kernel
theorem d_M_act_228 : decode b_M_act 228 = .ok (.aload_n 0, 1) := by decide +kernel
theorem d_M_act_229 : decode b_M_act 229 = .ok (.iload_n 2, 1) := by decide +kernel
theorem d_M_act_230 : decode b_M_act 230 = .ok (.aload_n 0, 1) := by decide +kernel
theorem d_M_act_231 : decode b_M_act 231 = .ok (.getfield 35, 3) := by decide +kernel
theorem d_M_act_234 : decode b_M_act 234 = .ok (.isub, 1) := by decide +kernel
theorem d_M_act_235 : decode b_M_act 235 = .ok (.putfield 127, 3) := by decide +kernel
theorem d_M_act_238 : decode b_M_act 238 = .ok (.aload_n 0, 1) := by decide +kernel
theorem d_M_act_239 : decode b_M_act 239 = .ok (.iload_n 3, 1) := by decide +kernel
theorem d_M_act_240 : decode b_M_act 240 = .ok (.aload_n 0, 1) := by decide +kernel
theorem d_M_act_241 : decode b_M_act 241 = .ok (.getfield 38, 3) := by decide +kernel
theorem d_M_act_244 : decode b_M_act 244 = .ok (.isub, 1) := by decide +kernel
theorem d_M_act_245 : decode b_M_act 245 = .ok (.putfield 130, 3) := by decide +kernel
theorem d_M_act_248 : decode b_M_act 248 = .ok (.aload_n 0, 1) := by decide +kernel
theorem d_M_act_249 : decode b_M_act 249 = .ok (.getfield 127, 3) := by decide +kernel
theorem d_M_act_252 : decode b_M_act 252 = .ok (.ifCond .ge 11, 3) := by decide +kernel
theorem d_M_act_255 : decode b_M_act 255 = .ok (.aload_n 0, 1) := by decide +kernel
theorem d_M_act_256 : decode b_M_act 256 = .ok (.getfield 127, 3) := by decide +kernel
theorem d_M_act_259 : decode b_M_act 259 = .ok (.ineg, 1) := by decide +kernel
theorem d_M_act_260 : decode b_M_act 260 = .ok (.goto 7, 3) := by decide +kernel
theorem d_M_act_263 : decode b_M_act 263 = .ok (.aload_n 0, 1) := by decide +kernel
theorem d_M_act_264 : decode b_M_act 264 = .ok (.getfield 127, 3) := by decide +kernel
theorem d_M_act_267 : decode b_M_act 267 = .ok (.istore 4, 2) := by decide +kernel
theorem d_M_act_269 : decode b_M_act 269 = .ok (.aload_n 0, 1) := by decide +kernel
theorem d_M_act_270 : decode b_M_act 270 = .ok (.getfield 130, 3) := by decide +kernel
theorem d_M_act_273 : decode b_M_act 273 = .ok (.ifCond .ge 11, 3) := by decide +kernel
theorem d_M_act_276 : decode b_M_act 276 = .ok (.aload_n 0, 1) := by decide +kernel
theorem d_M_act_277 : decode b_M_act 277 = .ok (.getfield 130, 3) := by decide +kernel
theorem d_M_act_280 : decode b_M_act 280 = .ok (.ineg, 1) := by decide +kernel
theorem d_M_act_281 : decode b_M_act 281 = .ok (.goto 7, 3) := by decide +kernel
theorem d_M_act_284 : decode b_M_act 284 = .ok (.aload_n 0, 1) := by decide +kernel
theorem d_M_act_285 : decode b_M_act 285 = .ok (.getfield 130, 3) := by decide +kernel
theorem d_M_act_288 : decode b_M_act 288 = .ok (.istore 5, 2) := by decide +kernel
theorem d_M_act_290 : decode b_M_act 290 = .ok (.aload_n 0, 1) := by decide +kernel
theorem d_M_act_291 : decode b_M_act 291 = .ok (.iload 4, 2) := by decide +kernel
theorem d_M_act_293 : decode b_M_act 293 = .ok (.iload 5, 2) := by decide +kernel
theorem d_M_act_295 : decode b_M_act 295 = .ok (.if_icmp .le 8, 3) := by decide +kernel
theorem d_M_act_298 : decode b_M_act 298 = .ok (.iload 4, 2) := by decide +kernel
theorem d_M_act_300 : decode b_M_act 300 = .ok (.goto 5, 3) := by decide +kernel
theorem d_M_act_303 : decode b_M_act 303 = .ok (.iload 5, 2) := by decide +kernel
theorem d_M_act_305 : decode b_M_act 305 = .ok (.putfield 73, 3) := by decide +kernel
theorem d_M_act_308 : decode b_M_act 308 = .ok (.aload_n 0, 1) := by decide +kernel
theorem d_M_act_309 : decode b_M_act 309 = .ok (.iconst 0, 1) := by decide +kernel
theorem d_M_act_310 : decode b_M_act 310 = .ok (.putfield 70, 3) := by decide +kernel
theorem d_M_act_313 : decode b_M_act 313 = .ok (.iconst 0, 1) := by decide +kernel
theorem d_M_act_314 : decode b_M_act 314 = .ok (.ireturn, 1) := by decide +kernel
theorem d_M_act_315 : decode b_M_act 315 = .ok (.aload_n 0, 1) := by decide +kernel
theorem d_M_act_316 : decode b_M_act 316 = .ok (.getfield 76, 3) := by decide +kernel
theorem d_M_act_319 : decode b_M_act 319 = .ok (.iconst 4, 1) := by decide +kernel
theorem d_M_act_320 : decode b_M_act 320 = .ok (.iand, 1) := by decide +kernel
theorem d_M_act_321 : decode b_M_act 321 = .ok (.ifCond .eq 12, 3) := by decide +kernel
theorem d_M_act_324 : decode b_M_act 324 = .ok (.aload_n 0, 1) := by decide +kernel
theorem d_M_act_325 : decode b_M_act 325 = .ok (.getfield 19, 3) := by decide +kernel
theorem d_M_act_328 : decode b_M_act 328 = .ok (.iconst 2, 1) := by decide +kernel
theorem d_M_act_329 : decode b_M_act 329 = .ok (.iaload, 1) := by decide +kernel
theorem d_M_act_330 : decode b_M_act 330 = .ok (.goto 4, 3) := by decide +kernel
theorem d_M_act_333 : decode b_M_act 333 = .ok (.iconst 0, 1) := by decide +kernel
theorem d_M_act_334 : decode b_M_act 334 = .ok (.istore 4, 2) := by decide +kernel
theorem d_M_act_336 : decode b_M_act 336 = .ok (.aload_n 0, 1) := by decide +kernel
theorem d_M_act_337 : decode b_M_act 337 = .ok (.getfield 76, 3) := by decide +kernel
theorem d_M_act_340 : decode b_M_act 340 = .ok (.bipush 8, 2) := by decide +kernel
theorem d_M_act_342 : decode b_M_act 342 = .ok (.iand, 1) := by decide +kernel
theorem d_M_act_343 : decode b_M_act 343 = .ok (.ifCond .eq 12, 3) := by decide +kernel
theorem d_M_act_346 : decode b_M_act 346 = .ok (.aload_n 0, 1) := by decide +kernel
theorem d_M_act_347 : decode b_M_act 347 = .ok (.getfield 19, 3) := by decide +kernel
theorem d_M_act_350 : decode b_M_act 350 = .ok (.iconst 3, 1) := by decide +kernel
theorem d_M_act_351 : decode b_M_act 351 = .ok (.iaload, 1) := by decide +kernel
theorem d_M_act_352 : decode b_M_act 352 = .ok (.goto 4, 3) := by decide +kernel
theorem d_M_act_355 : decode b_M_act 355 = .ok (.iconst 0, 1) := by decide +kernel
theorem d_M_act_356 : decode b_M_act 356 = .ok (.istore 5, 2) := by decide +kernel
theorem d_M_act_358 : decode b_M_act 358 = .ok (.aload_n 0, 1) := by decide +kernel
theorem d_M_act_359 : decode b_M_act 359 = .ok (.iload 4, 2) := by decide +kernel
theorem d_M_act_361 : decode b_M_act 361 = .ok (.iload 5, 2) := by decide +kernel
theorem d_M_act_363 : decode b_M_act 363 = .ok (.iload_n 2, 1) := by decide +kernel
theorem d_M_act_364 : decode b_M_act 364 = .ok (.iload_n 3, 1) := by decide +kernel
theorem d_M_act_365 : decode b_M_act 365 = .ok (.invokevirtual 133, 3) := by decide +kernel
theorem d_M_act_368 : decode b_M_act 368 = .ok (.ireturn, 1) := by decide +kernel
theorem d_M_arc_0 : decode b_M_arc 0 = .ok (.aload_n 0, 1) := by decide +kernel
theorem d_M_arc_1 : decode b_M_arc 1 = .ok (.aload_n 0, 1) := by decide +kernel
theorem d_M_arc_2 : decode b_M_arc 2 = .ok (.getfield 35, 3) := by decide +kernel
theorem d_M_arc_5 : decode b_M_arc 5 = .ok (.iload_n 1, 1) := by decide +kernel
theorem d_M_arc_6 : decode b_M_arc 6 = .ok (.iadd, 1) := by decide +kernel
theorem d_M_arc_7 : decode b_M_arc 7 = .ok (.putfield 137, 3) := by decide +kernel
theorem d_M_arc_10 : decode b_M_arc 10 = .ok (.aload_n 0, 1) := by decide +kernel
theorem d_M_arc_11 : decode b_M_arc 11 = .ok (.aload_n 0, 1) := by decide +kernel
theorem d_M_arc_12 : decode b_M_arc 12 = .ok (.getfield 38, 3) := by decide +kernel
theorem d_M_arc_15 : decode b_M_arc 15 = .ok (.iload_n 2, 1) := by decide +kernel
theorem d_M_arc_16 : decode b_M_arc 16 = .ok (.iadd, 1) := by decide +kernel
theorem d_M_arc_17 : decode b_M_arc 17 = .ok (.putfield 140, 3) := by decide +kernel
theorem d_M_arc_20 : decode b_M_arc 20 = .ok (.iload_n 1, 1) := by decide +kernel
theorem d_M_arc_21 : decode b_M_arc 21 = .ok (.iload_n 1, 1) := by decide +kernel
theorem d_M_arc_22 : decode b_M_arc 22 = .ok (.imul, 1) := by decide +kernel
theorem d_M_arc_23 : decode b_M_arc 23 = .ok (.iload_n 2, 1) := by decide +kernel
theorem d_M_arc_24 : decode b_M_arc 24 = .ok (.iload_n 2, 1) := by decide +kernel
theorem d_M_arc_25 : decode b_M_arc 25 = .ok (.imul, 1) := by decide +kernel
theorem d_M_arc_26 : decode b_M_arc 26 = .ok (.iadd, 1) := by decide +kernel
theorem d_M_arc_27 : decode b_M_arc 27 = .ok (.istore 5, 2) := by decide +kernel
theorem d_M_arc_29 : decode b_M_arc 29 = .ok (.iload_n 3, 1) := by decide +kernel
theorem d_M_arc_30 : decode b_M_arc 30 = .ok (.aload_n 0, 1) := by decide +kernel
theorem d_M_arc_31 : decode b_M_arc 31 = .ok (.getfield 137, 3) := by decide +kernel
theorem d_M_arc_34 : decode b_M_arc 34 = .ok (.isub, 1) := by decide +kernel
theorem d_M_arc_35 : decode b_M_arc 35 = .ok (.istore 6, 2) := by decide +kernel
theorem d_M_arc_37 : decode b_M_arc 37 = .ok (.iload 4, 2) := by decide +kernel
theorem d_M_arc_39 : decode b_M_arc 39 = .ok (.aload_n 0, 1) := by decide +kernel
theorem d_M_arc_40 : decode b_M_arc 40 = .ok (.getfield 140, 3) := by decide +kernel
theorem d_M_arc_43 : decode b_M_arc 43 = .ok (.isub, 1) := by decide +kernel
theorem d_M_arc_44 : decode b_M_arc 44 = .ok (.istore 7, 2) := by decide +kernel
theorem d_M_arc_46 : decode b_M_arc 46 = .ok (.iload 5, 2) := by decide +kernel
theorem d_M_arc_48 : decode b_M_arc 48 = .ok (.ifCond .eq 19, 3) := by decide +kernel
theorem d_M_arc_51 : decode b_M_arc 51 = .ok (.iload 6, 2) := by decide +kernel
theorem d_M_arc_53 : decode b_M_arc 53 = .ok (.iload 6, 2) := by decide +kernel
theorem d_M_arc_55 : decode b_M_arc 55 = .ok (.imul, 1) := by decide +kernel
theorem d_M_arc_56 : decode b_M_arc 56 = .ok (.iload 7, 2) := by decide +kernel
theorem d_M_arc_58 : decode b_M_arc 58 = .ok (.iload 7, 2) := by decide +kernel
theorem d_M_arc_60 : decode b_M_arc 60 = .ok (.imul, 1) := by decide +kernel
theorem d_M_arc_61 : decode b_M_arc 61 = .ok (.iadd, 1) := by decide +kernel
theorem d_M_arc_62 : decode b_M_arc 62 = .ok (.iload 5, 2) := by decide +kernel
theorem d_M_arc_64 : decode b_M_arc 64 = .ok (.if_icmp .eq 6, 3) := by decide +kernel
theorem d_M_arc_67 : decode b_M_arc 67 = .ok (.bipush 106, 2) := by decide +kernel
theorem d_M_arc_69 : decode b_M_arc 69 = .ok (.ireturn, 1) := by decide +kernel
theorem d_M_arc_70 : decode b_M_arc 70 = .ok (.iload 5, 2) := by decide +kernel
theorem d_M_arc_72 : decode b_M_arc 72 = .ok (.ldc 143, 2) := by decide +kernel
theorem d_M_arc_74 : decode b_M_arc 74 = .ok (.if_icmp .le 6, 3) := by decide +kernel
theorem d_M_arc_77 : decode b_M_arc 77 = .ok (.bipush 107, 2) := by decide +kernel
theorem d_M_arc_79 : decode b_M_arc 79 = .ok (.ireturn, 1) := by decide +kernel
theorem d_M_arc_80 : decode b_M_arc 80 = .ok (.aload_n 0, 1) := by decide +kernel
theorem d_M_arc_81 : decode b_M_arc 81 = .ok (.iload 5, 2) := by decide +kernel
theorem d_M_arc_83 : decode b_M_arc 83 = .ok (.invokevirtual 144, 3) := by decide +kernel
theorem d_M_arc_86 : decode b_M_arc 86 = .ok (.iconst 0, 1) := by decide +kernel
theorem d_M_arc_87 : decode b_M_arc 87 = .ok (.istore 8, 2) := by decide +kernel
theorem d_M_arc_89 : decode b_M_arc 89 = .ok (.iload 8, 2) := by decide +kernel
theorem d_M_arc_91 : decode b_M_arc 91 = .ok (.aload_n 0, 1) := by decide +kernel
theorem d_M_arc_92 : decode b_M_arc 92 = .ok (.getfield 148, 3) := by decide +kernel
theorem d_M_arc_95 : decode b_M_arc 95 = .ok (.if_icmp .ge 48, 3) := by decide +kernel
theorem d_M_arc_98 : decode b_M_arc 98 = .ok (.aload_n 0, 1) := by decide +kernel
theorem d_M_arc_99 : decode b_M_arc 99 = .ok (.getfield 137, 3) := by decide +kernel
theorem d_M_arc_102 : decode b_M_arc 102 = .ok (.aload_n 0, 1) := by decide +kernel
theorem d_M_arc_103 : decode b_M_arc 103 = .ok (.getfield 13, 3) := by decide +kernel
theorem d_M_arc_106 : decode b_M_arc 106 = .ok (.iload 8, 2) := by decide +kernel
theorem d_M_arc_108 : decode b_M_arc 108 = .ok (.iaload, 1) := by decide +kernel
theorem d_M_arc_109 : decode b_M_arc 109 = .ok (.iadd, 1) := by decide +kernel
theorem d_M_arc_110 : decode b_M_arc 110 = .ok (.invokestatic 115, 3) := by decide +kernel
theorem d_M_arc_113 : decode b_M_arc 113 = .ok (.ifCond .eq 21, 3) := by decide +kernel
theorem d_M_arc_116 : decode b_M_arc 116 = .ok (.aload_n 0, 1) := by decide +kernel
theorem d_M_arc_117 : decode b_M_arc 117 = .ok (.getfield 140, 3) := by decide +kernel
theorem d_M_arc_120 : decode b_M_arc 120 = .ok (.aload_n 0, 1) := by decide +kernel
theorem d_M_arc_121 : decode b_M_arc 121 = .ok (.getfield 16, 3) := by decide +kernel
theorem d_M_arc_124 : decode b_M_arc 124 = .ok (.iload 8, 2) := by decide +kernel
theorem d_M_arc_126 : decode b_M_arc 126 = .ok (.iaload, 1) := by decide +kernel
theorem d_M_arc_127 : decode b_M_arc 127 = .ok (.iadd, 1) := by decide +kernel
theorem d_M_arc_128 : decode b_M_arc 128 = .ok (.invokestatic 115, 3) := by decide +kernel
theorem d_M_arc_131 : decode b_M_arc 131 = .ok (.ifCond .ne 6, 3) := by decide +kernel
theorem d_M_arc_134 : decode b_M_arc 134 = .ok (.bipush 107, 2) := by decide +kernel
theorem d_M_arc_136 : decode b_M_arc 136 = .ok (.ireturn, 1) := by decide +kernel
theorem d_M_arc_137 : decode b_M_arc 137 = .ok (.iinc 8 1, 3) := by decide +kernel
theorem d_M_arc_140 : decode b_M_arc 140 = .ok (.goto (-51), 3) := by decide +kernel
theorem d_M_arc_143 : decode b_M_arc 143 = .ok (.aload_n 0, 1) := by decide +kernel
theorem d_M_arc_144 : decode b_M_arc 144 = .ok (.aload_n 0, 1) := by decide +kernel
theorem d_M_arc_145 : decode b_M_arc 145 = .ok (.getfield 41, 3) := by decide +kernel
theorem d_M_arc_148 : decode b_M_arc 148 = .ok (.iconst 2, 1) := by decide +kernel
theorem d_M_arc_149 : decode b_M_arc 149 = .ok (.if_icmp .ne 7, 3) := by decide +kernel
theorem d_M_arc_152 : decode b_M_arc 152 = .ok (.iconst (-1), 1) := by decide +kernel
theorem d_M_arc_153 : decode b_M_arc 153 = .ok (.goto 4, 3) := by decide +kernel
theorem d_M_arc_156 : decode b_M_arc 156 = .ok (.iconst 1, 1) := by decide +kernel
theorem d_M_arc_157 : decode b_M_arc 157 = .ok (.putfield 118, 3) := by decide +kernel
theorem d_M_arc_160 : decode b_M_arc 160 = .ok (.aload_n 0, 1) := by decide +kernel
theorem d_M_arc_161 : decode b_M_arc 161 = .ok (.iconst 0, 1) := by decide +kernel
theorem d_M_arc_162 : decode b_M_arc 162 = .ok (.putfield 70, 3) := by decide +kernel
theorem d_M_arc_165 : decode b_M_arc 165 = .ok (.aload_n 0, 1) := by decide +kernel
theorem d_M_arc_166 : decode b_M_arc 166 = .ok (.iconst 0, 1) := by decide +kernel
theorem d_M_arc_167 : decode b_M_arc 167 = .ok (.putfield 73, 3) := by decide +kernel
theorem d_M_arc_170 : decode b_M_arc 170 = .ok (.iconst 0, 1) := by decide +kernel
theorem d_M_arc_171 : decode b_M_arc 171 = .ok (.istore 8, 2) := by decide +kernel
theorem d_M_arc_173 : decode b_M_arc 173 = .ok (.iload 8, 2) := by decide +kernel
theorem d_M_arc_175 : decode b_M_arc 175 = .ok (.aload_n 0, 1) := by decide +kernel
theorem d_M_arc_176 : decode b_M_arc 176 = .ok (.getfield 148, 3) := by decide +kernel
theorem d_M_arc_179 : decode b_M_arc 179 = .ok (.if_icmp .ge 98, 3) := by decide +kernel
theorem d_M_arc_182 : decode b_M_arc 182 = .ok (.iload 6, 2) := by decide +kernel
theorem d_M_arc_184 : decode b_M_arc 184 = .ok (.iload_n 1, 1) := by decide +kernel
theorem d_M_arc_185 : decode b_M_arc 185 = .ok (.ineg, 1) := by decide +kernel
theorem d_M_arc_186 : decode b_M_arc 186 = .ok (.if_icmp .ne 14, 3) := by decide +kernel
theorem d_M_arc_189 : decode b_M_arc 189 = .ok (.iload 7, 2) := by decide +kernel
theorem d_M_arc_191 : decode b_M_arc 191 = .ok (.iload_n 2, 1) := by decide +kernel
theorem d_M_arc_192 : decode b_M_arc 192 = .ok (.ineg, 1) := by decide +kernel
theorem d_M_arc_193 : decode b_M_arc 193 = .ok (.if_icmp .ne 7, 3) := by decide +kernel
theorem d_M_arc_196 : decode b_M_arc 196 = .ok (.iconst 1, 1) := by decide +kernel
theorem d_M_arc_197 : decode b_M_arc 197 = .ok (.goto 4, 3) := by decide +kernel
theorem d_M_arc_200 : decode b_M_arc 200 = .ok (.iconst 0, 1) := by decide +kernel
theorem d_M_arc_201 : decode b_M_arc 201 = .ok (.istore 9, 2) := by decide +kernel
theorem d_M_arc_203 : decode b_M_arc 203 = .ok (.iload 9, 2) := by decide +kernel
theorem d_M_arc_205 : decode b_M_arc 205 = .ok (.ifCond .ne 56, 3) := by decide +kernel
theorem d_M_arc_208 : decode b_M_arc 208 = .ok (.aload_n 0, 1) := by decide +kernel
theorem d_M_arc_209 : decode b_M_arc 209 = .ok (.getfield 13, 3) := by decide +kernel
theorem d_M_arc_212 : decode b_M_arc 212 = .ok (.iload 8, 2) := by decide +kernel
theorem d_M_arc_214 : decode b_M_arc 214 = .ok (.iaload, 1) := by decide +kernel
theorem d_M_arc_215 : decode b_M_arc 215 = .ok (.iload_n 1, 1) := by decide +kernel
theorem d_M_arc_216 : decode b_M_arc 216 = .ok (.ineg, 1) := by decide +kernel
theorem d_M_arc_217 : decode b_M_arc 217 = .ok (.if_icmp .ne 15, 3) := by decide +kernel
theorem d_M_arc_220 : decode b_M_arc 220 = .ok (.aload_n 0, 1) := by decide +kernel
theorem d_M_arc_221 : decode b_M_arc 221 = .ok (.getfield 16, 3) := by decide +kernel
theorem d_M_arc_224 : decode b_M_arc 224 = .ok (.iload 8, 2) := by decide +kernel
theorem d_M_arc_226 : decode b_M_arc 226 = .ok (.iaload, 1) := by decide +kernel
theorem d_M_arc_227 : decode b_M_arc 227 = .ok (.iload_n 2, 1) := by decide +kernel
theorem d_M_arc_228 : decode b_M_arc 228 = .ok (.ineg, 1) := by decide +kernel
theorem d_M_arc_229 : decode b_M_arc 229 = .ok (.if_icmp .eq 42, 3) := by decide +kernel
theorem d_M_arc_232 : decode b_M_arc 232 = .ok (.aload_n 0, 1) := by decide +kernel
theorem d_M_arc_233 : decode b_M_arc 233 = .ok (.iload_n 1, 1) := by decide +kernel
theorem d_M_arc_234 : decode b_M_arc 234 = .ok (.ineg, 1) := by decide +kernel
theorem d_M_arc_235 : decode b_M_arc 235 = .ok (.iload_n 2, 1) := by decide +kernel
theorem d_M_arc_236 : decode b_M_arc 236 = .ok (.ineg, 1) := by decide +kernel
theorem d_M_arc_237 : decode b_M_arc 237 = .ok (.iload 6, 2) := by decide +kernel
theorem d_M_arc_239 : decode b_M_arc 239 = .ok (.iload 7, 2) := by decide +kernel
theorem d_M_arc_241 : decode b_M_arc 241 = .ok (.aload_n 0, 1) := by decide +kernel
theorem d_M_arc_242 : decode b_M_arc 242 = .ok (.getfield 13, 3) := by decide +kernel
theorem d_M_arc_245 : decode b_M_arc 245 = .ok (.iload 8, 2) := by decide +kernel
theorem d_M_arc_247 : decode b_M_arc 247 = .ok (.iaload, 1) := by decide +kernel
theorem d_M_arc_248 : decode b_M_arc 248 = .ok (.aload_n 0, 1) := by decide +kernel
theorem d_M_arc_249 : decode b_M_arc 249 = .ok (.getfield 16, 3) := by decide +kernel
theorem d_M_arc_252 : decode b_M_arc 252 = .ok (.iload 8, 2) := by decide +kernel
theorem d_M_arc_254 : decode b_M_arc 254 = .ok (.iaload, 1) := by decide +kernel
theorem d_M_arc_255 : decode b_M_arc 255 = .ok (.invokevirtual 151, 3) := by decide +kernel
theorem d_M_arc_258 : decode b_M_arc 258 = .ok (.ifCond .ne 13, 3) := by decide +kernel
theorem d_M_arc_261 : decode b_M_arc 261 = .ok (.aload_n 0, 1) := by decide +kernel
theorem d_M_arc_262 : decode b_M_arc 262 = .ok (.aload_n 0, 1) := by decide +kernel
theorem d_M_arc_263 : decode b_M_arc 263 = .ok (.getfield 73, 3) := by decide +kernel
theorem d_M_arc_266 : decode b_M_arc 266 = .ok (.iconst 1, 1) := by decide +kernel
theorem d_M_arc_267 : decode b_M_arc 267 = .ok (.iadd, 1) := by decide +kernel
theorem d_M_arc_268 : decode b_M_arc 268 = .ok (.putfield 73, 3) := by decide +kernel
theorem d_M_arc_271 : decode b_M_arc 271 = .ok (.iinc 8 1, 3) := by decide +kernel
theorem d_M_arc_274 : decode b_M_arc 274 = .ok (.goto (-101), 3) := by decide +kernel
theorem d_M_arc_277 : decode b_M_arc 277 = .ok (.iconst 0, 1) := by decide +kernel
theorem d_M_arc_278 : decode b_M_arc 278 = .ok (.ireturn, 1) := by decide +kernel
theorem d_M_over_0 : decode b_M_over 0 = .ok (.iconst 4, 1) := by decide +kernel
theorem d_M_over_1 : decode b_M_over 1 = .ok (.iload_n 0, 1) := by decide +kernel
theorem d_M_over_2 : decode b_M_over 2 = .ok (.iload_n 1, 1) := by decide +kernel
theorem d_M_over_3 : decode b_M_over 3 = .ok (.iload_n 1, 1) := by decide +kernel
theorem d_M_over_4 : decode b_M_over 4 = .ok (.imul, 1) := by decide +kernel
theorem d_M_over_5 : decode b_M_over 5 = .ok (.isub, 1) := by decide +kernel
theorem d_M_over_6 : decode b_M_over 6 = .ok (.imul, 1) := by decide +kernel
theorem d_M_over_7 : decode b_M_over 7 = .ok (.istore_n 2, 1) := by decide +kernel
theorem d_M_over_8 : decode b_M_over 8 = .ok (.iconst 0, 1) := by decide +kernel
theorem d_M_over_9 : decode b_M_over 9 = .ok (.istore_n 3, 1) := by decide +kernel
theorem d_M_over_10 : decode b_M_over 10 = .ok (.iconst 0, 1) := by decide +kernel
theorem d_M_over_11 : decode b_M_over 11 = .ok (.istore 4, 2) := by decide +kernel
theorem d_M_over_13 : decode b_M_over 13 = .ok (.iload 4, 2) := by decide +kernel
theorem d_M_over_15 : decode b_M_over 15 = .ok (.sipush 500, 3) := by decide +kernel
theorem d_M_over_18 : decode b_M_over 18 = .ok (.if_icmp .ge 28, 3) := by decide +kernel
theorem d_M_over_21 : decode b_M_over 21 = .ok (.iload_n 2, 1) := by decide +kernel
theorem d_M_over_22 : decode b_M_over 22 = .ok (.iconst 2, 1) := by decide +kernel
theorem d_M_over_23 : decode b_M_over 23 = .ok (.iload_n 3, 1) := by decide +kernel
theorem d_M_over_24 : decode b_M_over 24 = .ok (.imul, 1) := by decide +kernel
theorem d_M_over_25 : decode b_M_over 25 = .ok (.iconst 1, 1) := by decide +kernel
theorem d_M_over_26 : decode b_M_over 26 = .ok (.iadd, 1) := by decide +kernel
theorem d_M_over_27 : decode b_M_over 27 = .ok (.iconst 2, 1) := by decide +kernel
theorem d_M_over_28 : decode b_M_over 28 = .ok (.iload_n 3, 1) := by decide +kernel
theorem d_M_over_29 : decode b_M_over 29 = .ok (.imul, 1) := by decide +kernel
theorem d_M_over_30 : decode b_M_over 30 = .ok (.iconst 1, 1) := by decide +kernel
theorem d_M_over_31 : decode b_M_over 31 = .ok (.iadd, 1) := by decide +kernel
theorem d_M_over_32 : decode b_M_over 32 = .ok (.imul, 1) := by decide +kernel
theorem d_M_over_33 : decode b_M_over 33 = .ok (.if_icmp .lt 7, 3) := by decide +kernel
theorem d_M_over_36 : decode b_M_over 36 = .ok (.iload_n 3, 1) := by decide +kernel
theorem d_M_over_37 : decode b_M_over 37 = .ok (.iconst 1, 1) := by decide +kernel
theorem d_M_over_38 : decode b_M_over 38 = .ok (.iadd, 1) := by decide +kernel
theorem d_M_over_39 : decode b_M_over 39 = .ok (.istore_n 3, 1) := by decide +kernel
theorem d_M_over_40 : decode b_M_over 40 = .ok (.iinc 4 1, 3) := by decide +kernel
theorem d_M_over_43 : decode b_M_over 43 = .ok (.goto (-30), 3) := by decide +kernel
theorem d_M_over_46 : decode b_M_over 46 = .ok (.iload_n 3, 1) := by decide +kernel
theorem d_M_over_47 : decode b_M_over 47 = .ok (.ireturn, 1) := by decide +kernel
theorem d_M_point_0 : decode b_M_point 0 = .ok (.iconst 0, 1) := by decide +kernel
theorem d_M_point_1 : decode b_M_point 1 = .ok (.istore_n 3, 1) := by decide +kernel
theorem d_M_point_2 : decode b_M_point 2 = .ok (.iload_n 3, 1) := by decide +kernel
theorem d_M_point_3 : decode b_M_point 3 = .ok (.aload_n 0, 1) := by decide +kernel
theorem d_M_point_4 : decode b_M_point 4 = .ok (.getfield 148, 3) := by decide +kernel
theorem d_M_point_7 : decode b_M_point 7 = .ok (.if_icmp .ge 30, 3) := by decide +kernel
theorem d_M_point_10 : decode b_M_point 10 = .ok (.aload_n 0, 1) := by decide +kernel
theorem d_M_point_11 : decode b_M_point 11 = .ok (.getfield 13, 3) := by decide +kernel
theorem d_M_point_14 : decode b_M_point 14 = .ok (.iload_n 3, 1) := by decide +kernel
theorem d_M_point_15 : decode b_M_point 15 = .ok (.iaload, 1) := by decide +kernel
theorem d_M_point_16 : decode b_M_point 16 = .ok (.iload_n 1, 1) := by decide +kernel
theorem d_M_point_17 : decode b_M_point 17 = .ok (.if_icmp .ne 14, 3) := by decide +kernel
theorem d_M_point_20 : decode b_M_point 20 = .ok (.aload_n 0, 1) := by decide +kernel
theorem d_M_point_21 : decode b_M_point 21 = .ok (.getfield 16, 3) := by decide +kernel
theorem d_M_point_24 : decode b_M_point 24 = .ok (.iload_n 3, 1) := by decide +kernel
theorem d_M_point_25 : decode b_M_point 25 = .ok (.iaload, 1) := by decide +kernel
theorem d_M_point_26 : decode b_M_point 26 = .ok (.iload_n 2, 1) := by decide +kernel
theorem d_M_point_27 : decode b_M_point 27 = .ok (.if_icmp .ne 4, 3) := by decide +kernel
theorem d_M_point_30 : decode b_M_point 30 = .ok (.return_, 1) := by decide +kernel
theorem d_M_point_31 : decode b_M_point 31 = .ok (.iinc 3 1, 3) := by decide +kernel
theorem d_M_point_34 : decode b_M_point 34 = .ok (.goto (-32), 3) := by decide +kernel
theorem d_M_point_37 : decode b_M_point 37 = .ok (.aload_n 0, 1) := by decide +kernel
theorem d_M_point_38 : decode b_M_point 38 = .ok (.getfield 13, 3) := by decide +kernel
theorem d_M_point_41 : decode b_M_point 41 = .ok (.aload_n 0, 1) := by decide +kernel
theorem d_M_point_42 : decode b_M_point 42 = .ok (.getfield 148, 3) := by decide +kernel
theorem d_M_point_45 : decode b_M_point 45 = .ok (.iload_n 1, 1) := by decide +kernel
theorem d_M_point_46 : decode b_M_point 46 = .ok (.iastore, 1) := by decide +kernel
theorem d_M_point_47 : decode b_M_point 47 = .ok (.aload_n 0, 1) := by decide +kernel
theorem d_M_point_48 : decode b_M_point 48 = .ok (.getfield 16, 3) := by decide +kernel
theorem d_M_point_51 : decode b_M_point 51 = .ok (.aload_n 0, 1) := by decide +kernel
theorem d_M_point_52 : decode b_M_point 52 = .ok (.getfield 148, 3) := by decide +kernel
theorem d_M_point_55 : decode b_M_point 55 = .ok (.iload_n 2, 1) := by decide +kernel
theorem d_M_point_56 : decode b_M_point 56 = .ok (.iastore, 1) := by decide +kernel
theorem d_M_point_57 : decode b_M_point 57 = .ok (.aload_n 0, 1) := by decide +kernel
theorem d_M_point_58 : decode b_M_point 58 = .ok (.aload_n 0, 1) := by decide +kernel
theorem d_M_point_59 : decode b_M_point 59 = .ok (.getfield 148, 3) := by decide +kernel
theorem d_M_point_62 : decode b_M_point 62 = .ok (.iconst 1, 1) := by decide +kernel
theorem d_M_point_63 : decode b_M_point 63 = .ok (.iadd, 1) := by decide +kernel
theorem d_M_point_64 : decode b_M_point 64 = .ok (.putfield 148, 3) := by decide +kernel
theorem d_M_point_67 : decode b_M_point 67 = .ok (.return_, 1) := by decide +kernel
theorem d_M_lay_0 : decode b_M_lay 0 = .ok (.aload_n 0, 1) := by decide +kernel
theorem d_M_lay_1 : decode b_M_lay 1 = .ok (.iconst 0, 1) := by decide +kernel
theorem d_M_lay_2 : decode b_M_lay 2 = .ok (.putfield 148, 3) := by decide +kernel
theorem d_M_lay_5 : decode b_M_lay 5 = .ok (.iconst 0, 1) := by decide +kernel
theorem d_M_lay_6 : decode b_M_lay 6 = .ok (.istore_n 2, 1) := by decide +kernel
theorem d_M_lay_7 : decode b_M_lay 7 = .ok (.iconst 0, 1) := by decide +kernel
theorem d_M_lay_8 : decode b_M_lay 8 = .ok (.istore_n 3, 1) := by decide +kernel
theorem d_M_lay_9 : decode b_M_lay 9 = .ok (.iload_n 3, 1) := by decide +kernel
theorem d_M_lay_10 : decode b_M_lay 10 = .ok (.sipush 300, 3) := by decide +kernel
theorem d_M_lay_13 : decode b_M_lay 13 = .ok (.if_icmp .ge 20, 3) := by decide +kernel
theorem d_M_lay_16 : decode b_M_lay 16 = .ok (.iconst 2, 1) := by decide +kernel
theorem d_M_lay_17 : decode b_M_lay 17 = .ok (.iload_n 3, 1) := by decide +kernel
theorem d_M_lay_18 : decode b_M_lay 18 = .ok (.imul, 1) := by decide +kernel
theorem d_M_lay_19 : decode b_M_lay 19 = .ok (.iload_n 3, 1) := by decide +kernel
theorem d_M_lay_20 : decode b_M_lay 20 = .ok (.imul, 1) := by decide +kernel
theorem d_M_lay_21 : decode b_M_lay 21 = .ok (.iload_n 1, 1) := by decide +kernel
theorem d_M_lay_22 : decode b_M_lay 22 = .ok (.if_icmp .gt 5, 3) := by decide +kernel
theorem d_M_lay_25 : decode b_M_lay 25 = .ok (.iload_n 3, 1) := by decide +kernel
theorem d_M_lay_26 : decode b_M_lay 26 = .ok (.istore_n 2, 1) := by decide +kernel
theorem d_M_lay_27 : decode b_M_lay 27 = .ok (.iinc 3 1, 3) := by decide +kernel
theorem d_M_lay_30 : decode b_M_lay 30 = .ok (.goto (-21), 3) := by decide +kernel
theorem d_M_lay_33 : decode b_M_lay 33 = .ok (.iload_n 2, 1) := by decide +kernel
theorem d_M_lay_34 : decode b_M_lay 34 = .ok (.ineg, 1) := by decide +kernel
theorem d_M_lay_35 : decode b_M_lay 35 = .ok (.istore_n 3, 1) := by decide +kernel
theorem d_M_lay_36 : decode b_M_lay 36 = .ok (.iload_n 3, 1) := by decide +kernel
theorem d_M_lay_37 : decode b_M_lay 37 = .ok (.iload_n 2, 1) := by decide +kernel
theorem d_M_lay_38 : decode b_M_lay 38 = .ok (.if_icmp .gt 46, 3) := by decide +kernel
theorem d_M_lay_41 : decode b_M_lay 41 = .ok (.iload_n 1, 1) := by decide +kernel
theorem d_M_lay_42 : decode b_M_lay 42 = .ok (.iload_n 3, 1) := by decide +kernel
theorem d_M_lay_43 : decode b_M_lay 43 = .ok (.invokestatic 155, 3) := by decide +kernel
theorem d_M_lay_46 : decode b_M_lay 46 = .ok (.istore 4, 2) := by decide +kernel
theorem d_M_lay_48 : decode b_M_lay 48 = .ok (.aload_n 0, 1) := by decide +kernel
theorem d_M_lay_49 : decode b_M_lay 49 = .ok (.iload_n 3, 1) := by decide +kernel
theorem d_M_lay_50 : decode b_M_lay 50 = .ok (.iload 4, 2) := by decide +kernel
theorem d_M_lay_52 : decode b_M_lay 52 = .ok (.invokevirtual 158, 3) := by decide +kernel
theorem d_M_lay_55 : decode b_M_lay 55 = .ok (.aload_n 0, 1) := by decide +kernel
theorem d_M_lay_56 : decode b_M_lay 56 = .ok (.iload_n 3, 1) := by decide +kernel
theorem d_M_lay_57 : decode b_M_lay 57 = .ok (.iload 4, 2) := by decide +kernel
theorem d_M_lay_59 : decode b_M_lay 59 = .ok (.ineg, 1) := by decide +kernel
theorem d_M_lay_60 : decode b_M_lay 60 = .ok (.invokevirtual 158, 3) := by decide +kernel
theorem d_M_lay_63 : decode b_M_lay 63 = .ok (.aload_n 0, 1) := by decide +kernel
theorem d_M_lay_64 : decode b_M_lay 64 = .ok (.iload 4, 2) := by decide +kernel
theorem d_M_lay_66 : decode b_M_lay 66 = .ok (.iload_n 3, 1) := by decide +kernel
theorem d_M_lay_67 : decode b_M_lay 67 = .ok (.invokevirtual 158, 3) := by decide +kernel
theorem d_M_lay_70 : decode b_M_lay 70 = .ok (.aload_n 0, 1) := by decide +kernel
theorem d_M_lay_71 : decode b_M_lay 71 = .ok (.iload 4, 2) := by decide +kernel
theorem d_M_lay_73 : decode b_M_lay 73 = .ok (.ineg, 1) := by decide +kernel
theorem d_M_lay_74 : decode b_M_lay 74 = .ok (.iload_n 3, 1) := by decide +kernel
theorem d_M_lay_75 : decode b_M_lay 75 = .ok (.invokevirtual 158, 3) := by decide +kernel
theorem d_M_lay_78 : decode b_M_lay 78 = .ok (.iinc 3 1, 3) := by decide +kernel
theorem d_M_lay_81 : decode b_M_lay 81 = .ok (.goto (-45), 3) := by decide +kernel
theorem d_M_lay_84 : decode b_M_lay 84 = .ok (.iload_n 1, 1) := by decide +kernel
theorem d_M_lay_85 : decode b_M_lay 85 = .ok (.iload_n 2, 1) := by decide +kernel
theorem d_M_lay_86 : decode b_M_lay 86 = .ok (.invokestatic 155, 3) := by decide +kernel
theorem d_M_lay_89 : decode b_M_lay 89 = .ok (.iload_n 2, 1) := by decide +kernel
theorem d_M_lay_90 : decode b_M_lay 90 = .ok (.iconst 2, 1) := by decide +kernel
theorem d_M_lay_91 : decode b_M_lay 91 = .ok (.iadd, 1) := by decide +kernel
theorem d_M_lay_92 : decode b_M_lay 92 = .ok (.if_icmp .ne 47, 3) := by decide +kernel
theorem d_M_lay_95 : decode b_M_lay 95 = .ok (.aload_n 0, 1) := by decide +kernel
theorem d_M_lay_96 : decode b_M_lay 96 = .ok (.iload_n 2, 1) := by decide +kernel
theorem d_M_lay_97 : decode b_M_lay 97 = .ok (.iconst 1, 1) := by decide +kernel
theorem d_M_lay_98 : decode b_M_lay 98 = .ok (.iadd, 1) := by decide +kernel
theorem d_M_lay_99 : decode b_M_lay 99 = .ok (.iload_n 2, 1) := by decide +kernel
theorem d_M_lay_100 : decode b_M_lay 100 = .ok (.iconst 1, 1) := by decide +kernel
theorem d_M_lay_101 : decode b_M_lay 101 = .ok (.iadd, 1) := by decide +kernel
theorem d_M_lay_102 : decode b_M_lay 102 = .ok (.invokevirtual 158, 3) := by decide +kernel
theorem d_M_lay_105 : decode b_M_lay 105 = .ok (.aload_n 0, 1) := by decide +kernel
theorem d_M_lay_106 : decode b_M_lay 106 = .ok (.iload_n 2, 1) := by decide +kernel
theorem d_M_lay_107 : decode b_M_lay 107 = .ok (.iconst 1, 1) := by decide +kernel
theorem d_M_lay_108 : decode b_M_lay 108 = .ok (.iadd, 1) := by decide +kernel
theorem d_M_lay_109 : decode b_M_lay 109 = .ok (.iload_n 2, 1) := by decide +kernel
theorem d_M_lay_110 : decode b_M_lay 110 = .ok (.ineg, 1) := by decide +kernel
theorem d_M_lay_111 : decode b_M_lay 111 = .ok (.iconst 1, 1) := by decide +kernel
theorem d_M_lay_112 : decode b_M_lay 112 = .ok (.isub, 1) := by decide +kernel
theorem d_M_lay_113 : decode b_M_lay 113 = .ok (.invokevirtual 158, 3) := by decide +kernel
theorem d_M_lay_116 : decode b_M_lay 116 = .ok (.aload_n 0, 1) := by decide +kernel
theorem d_M_lay_117 : decode b_M_lay 117 = .ok (.iload_n 2, 1) := by decide +kernel
theorem d_M_lay_118 : decode b_M_lay 118 = .ok (.ineg, 1) := by decide +kernel
theorem d_M_lay_119 : decode b_M_lay 119 = .ok (.iconst 1, 1) := by decide +kernel
theorem d_M_lay_120 : decode b_M_lay 120 = .ok (.isub, 1) := by decide +kernel
theorem d_M_lay_121 : decode b_M_lay 121 = .ok (.iload_n 2, 1) := by decide +kernel
theorem d_M_lay_122 : decode b_M_lay 122 = .ok (.iconst 1, 1) := by decide +kernel
theorem d_M_lay_123 : decode b_M_lay 123 = .ok (.iadd, 1) := by decide +kernel
theorem d_M_lay_124 : decode b_M_lay 124 = .ok (.invokevirtual 158, 3) := by decide +kernel
theorem d_M_lay_127 : decode b_M_lay 127 = .ok (.aload_n 0, 1) := by decide +kernel
theorem d_M_lay_128 : decode b_M_lay 128 = .ok (.iload_n 2, 1) := by decide +kernel
theorem d_M_lay_129 : decode b_M_lay 129 = .ok (.ineg, 1) := by decide +kernel
theorem d_M_lay_130 : decode b_M_lay 130 = .ok (.iconst 1, 1) := by decide +kernel
theorem d_M_lay_131 : decode b_M_lay 131 = .ok (.isub, 1) := by decide +kernel
theorem d_M_lay_132 : decode b_M_lay 132 = .ok (.iload_n 2, 1) := by decide +kernel
theorem d_M_lay_133 : decode b_M_lay 133 = .ok (.ineg, 1) := by decide +kernel
theorem d_M_lay_134 : decode b_M_lay 134 = .ok (.iconst 1, 1) := by decide +kernel
theorem d_M_lay_135 : decode b_M_lay 135 = .ok (.isub, 1) := by decide +kernel
theorem d_M_lay_136 : decode b_M_lay 136 = .ok (.invokevirtual 158, 3) := by decide +kernel
theorem d_M_lay_139 : decode b_M_lay 139 = .ok (.return_, 1) := by decide +kernel
theorem d_M_half_0 : decode b_M_half 0 = .ok (.aload_n 0, 1) := by decide +kernel
theorem d_M_half_1 : decode b_M_half 1 = .ok (.getfield 118, 3) := by decide +kernel
theorem d_M_half_4 : decode b_M_half 4 = .ok (.iload_n 1, 1) := by decide +kernel
theorem d_M_half_5 : decode b_M_half 5 = .ok (.iload 4, 2) := by decide +kernel
theorem d_M_half_7 : decode b_M_half 7 = .ok (.imul, 1) := by decide +kernel
theorem d_M_half_8 : decode b_M_half 8 = .ok (.iload_n 2, 1) := by decide +kernel
theorem d_M_half_9 : decode b_M_half 9 = .ok (.iload_n 3, 1) := by decide +kernel
theorem d_M_half_10 : decode b_M_half 10 = .ok (.imul, 1) := by decide +kernel
theorem d_M_half_11 : decode b_M_half 11 = .ok (.isub, 1) := by decide +kernel
theorem d_M_half_12 : decode b_M_half 12 = .ok (.imul, 1) := by decide +kernel
theorem d_M_half_13 : decode b_M_half 13 = .ok (.istore 5, 2) := by decide +kernel
theorem d_M_half_15 : decode b_M_half 15 = .ok (.iload 5, 2) := by decide +kernel
theorem d_M_half_17 : decode b_M_half 17 = .ok (.ifCond .le 7, 3) := by decide +kernel
theorem d_M_half_20 : decode b_M_half 20 = .ok (.iconst 0, 1) := by decide +kernel
theorem d_M_half_21 : decode b_M_half 21 = .ok (.goto 13, 3) := by decide +kernel
theorem d_M_half_24 : decode b_M_half 24 = .ok (.iload 5, 2) := by decide +kernel
theorem d_M_half_26 : decode b_M_half 26 = .ok (.ifCond .ge 7, 3) := by decide +kernel
theorem d_M_half_29 : decode b_M_half 29 = .ok (.iconst 2, 1) := by decide +kernel
theorem d_M_half_30 : decode b_M_half 30 = .ok (.goto 4, 3) := by decide +kernel
theorem d_M_half_33 : decode b_M_half 33 = .ok (.iconst 1, 1) := by decide +kernel
theorem d_M_half_34 : decode b_M_half 34 = .ok (.ireturn, 1) := by decide +kernel
theorem d_M_before_0 : decode b_M_before 0 = .ok (.aload_n 0, 1) := by decide +kernel
theorem d_M_before_1 : decode b_M_before 1 = .ok (.iload_n 1, 1) := by decide +kernel
theorem d_M_before_2 : decode b_M_before 2 = .ok (.iload_n 2, 1) := by decide +kernel
theorem d_M_before_3 : decode b_M_before 3 = .ok (.iload_n 3, 1) := by decide +kernel
theorem d_M_before_4 : decode b_M_before 4 = .ok (.iload 4, 2) := by decide +kernel
theorem d_M_before_6 : decode b_M_before 6 = .ok (.invokevirtual 162, 3) := by decide +kernel
theorem d_M_before_9 : decode b_M_before 9 = .ok (.istore 7, 2) := by decide +kernel
theorem d_M_before_11 : decode b_M_before 11 = .ok (.aload_n 0, 1) := by decide +kernel
theorem d_M_before_12 : decode b_M_before 12 = .ok (.iload_n 1, 1) := by decide +kernel
theorem d_M_before_13 : decode b_M_before 13 = .ok (.iload_n 2, 1) := by decide +kernel
theorem d_M_before_14 : decode b_M_before 14 = .ok (.iload 5, 2) := by decide +kernel
theorem d_M_before_16 : decode b_M_before 16 = .ok (.iload 6, 2) := by decide +kernel
theorem d_M_before_18 : decode b_M_before 18 = .ok (.invokevirtual 162, 3) := by decide +kernel
theorem d_M_before_21 : decode b_M_before 21 = .ok (.istore 8, 2) := by decide +kernel
theorem d_M_before_23 : decode b_M_before 23 = .ok (.iload 7, 2) := by decide +kernel
theorem d_M_before_25 : decode b_M_before 25 = .ok (.iload 8, 2) := by decide +kernel
theorem d_M_before_27 : decode b_M_before 27 = .ok (.if_icmp .eq 16, 3) := by decide +kernel
theorem d_M_before_30 : decode b_M_before 30 = .ok (.iload 7, 2) := by decide +kernel
theorem d_M_before_32 : decode b_M_before 32 = .ok (.iload 8, 2) := by decide +kernel
theorem d_M_before_34 : decode b_M_before 34 = .ok (.if_icmp .ge 7, 3) := by decide +kernel
theorem d_M_before_37 : decode b_M_before 37 = .ok (.iconst 1, 1) := by decide +kernel
theorem d_M_before_38 : decode b_M_before 38 = .ok (.goto 4, 3) := by decide +kernel
theorem d_M_before_41 : decode b_M_before 41 = .ok (.iconst 0, 1) := by decide +kernel
theorem d_M_before_42 : decode b_M_before 42 = .ok (.ireturn, 1) := by decide +kernel
theorem d_M_before_43 : decode b_M_before 43 = .ok (.aload_n 0, 1) := by decide +kernel
theorem d_M_before_44 : decode b_M_before 44 = .ok (.getfield 118, 3) := by decide +kernel
theorem d_M_before_47 : decode b_M_before 47 = .ok (.iload_n 3, 1) := by decide +kernel
theorem d_M_before_48 : decode b_M_before 48 = .ok (.iload 6, 2) := by decide +kernel
theorem d_M_before_50 : decode b_M_before 50 = .ok (.imul, 1) := by decide +kernel
theorem d_M_before_51 : decode b_M_before 51 = .ok (.iload 4, 2) := by decide +kernel
theorem d_M_before_53 : decode b_M_before 53 = .ok (.iload 5, 2) := by decide +kernel
theorem d_M_before_55 : decode b_M_before 55 = .ok (.imul, 1) := by decide +kernel
theorem d_M_before_56 : decode b_M_before 56 = .ok (.isub, 1) := by decide +kernel
theorem d_M_before_57 : decode b_M_before 57 = .ok (.imul, 1) := by decide +kernel
theorem d_M_before_58 : decode b_M_before 58 = .ok (.ifCond .le 7, 3) := by decide +kernel
theorem d_M_before_61 : decode b_M_before 61 = .ok (.iconst 1, 1) := by decide +kernel
theorem d_M_before_62 : decode b_M_before 62 = .ok (.goto 4, 3) := by decide +kernel
theorem d_M_before_65 : decode b_M_before 65 = .ok (.iconst 0, 1) := by decide +kernel
theorem d_M_before_66 : decode b_M_before 66 = .ok (.ireturn, 1) := by decide +kernel
theorem d_M_look_0 : decode b_M_look 0 = .ok (.iconst 0, 1) := by decide +kernel
theorem d_M_look_1 : decode b_M_look 1 = .ok (.istore_n 1, 1) := by decide +kernel
theorem d_M_look_2 : decode b_M_look 2 = .ok (.iload_n 1, 1) := by decide +kernel
theorem d_M_look_3 : decode b_M_look 3 = .ok (.sipush 500, 3) := by decide +kernel
theorem d_M_look_6 : decode b_M_look 6 = .ok (.if_icmp .ge 193, 3) := by decide +kernel
theorem d_M_look_9 : decode b_M_look 9 = .ok (.aload_n 0, 1) := by decide +kernel
theorem d_M_look_10 : decode b_M_look 10 = .ok (.getfield 47, 3) := by decide +kernel
theorem d_M_look_13 : decode b_M_look 13 = .ok (.ifCond .ne 186, 3) := by decide +kernel
theorem d_M_look_16 : decode b_M_look 16 = .ok (.aload_n 0, 1) := by decide +kernel
theorem d_M_look_17 : decode b_M_look 17 = .ok (.getfield 70, 3) := by decide +kernel
theorem d_M_look_20 : decode b_M_look 20 = .ok (.aload_n 0, 1) := by decide +kernel
theorem d_M_look_21 : decode b_M_look 21 = .ok (.getfield 73, 3) := by decide +kernel
theorem d_M_look_24 : decode b_M_look 24 = .ok (.if_icmp .ne 175, 3) := by decide +kernel
theorem d_M_look_27 : decode b_M_look 27 = .ok (.aload_n 0, 1) := by decide +kernel
theorem d_M_look_28 : decode b_M_look 28 = .ok (.getfield 63, 3) := by decide +kernel
theorem d_M_look_31 : decode b_M_look 31 = .ok (.ifCond .eq 12, 3) := by decide +kernel
theorem d_M_look_34 : decode b_M_look 34 = .ok (.aload_n 0, 1) := by decide +kernel
theorem d_M_look_35 : decode b_M_look 35 = .ok (.bipush 100, 2) := by decide +kernel
theorem d_M_look_37 : decode b_M_look 37 = .ok (.putfield 47, 3) := by decide +kernel
theorem d_M_look_40 : decode b_M_look 40 = .ok (.goto 153, 3) := by decide +kernel
theorem d_M_look_43 : decode b_M_look 43 = .ok (.aload_n 0, 1) := by decide +kernel
theorem d_M_look_44 : decode b_M_look 44 = .ok (.getfield 29, 3) := by decide +kernel
theorem d_M_look_47 : decode b_M_look 47 = .ok (.aload_n 0, 1) := by decide +kernel
theorem d_M_look_48 : decode b_M_look 48 = .ok (.getfield 25, 3) := by decide +kernel
theorem d_M_look_51 : decode b_M_look 51 = .ok (.if_icmp .lt 20, 3) := by decide +kernel
theorem d_M_look_54 : decode b_M_look 54 = .ok (.aload_n 0, 1) := by decide +kernel
theorem d_M_look_55 : decode b_M_look 55 = .ok (.bipush 100, 2) := by decide +kernel
theorem d_M_look_57 : decode b_M_look 57 = .ok (.putfield 47, 3) := by decide +kernel
theorem d_M_look_60 : decode b_M_look 60 = .ok (.aload_n 0, 1) := by decide +kernel
theorem d_M_look_61 : decode b_M_look 61 = .ok (.aload_n 0, 1) := by decide +kernel
theorem d_M_look_62 : decode b_M_look 62 = .ok (.getfield 32, 3) := by decide +kernel
theorem d_M_look_65 : decode b_M_look 65 = .ok (.putfield 56, 3) := by decide +kernel
theorem d_M_look_68 : decode b_M_look 68 = .ok (.goto 125, 3) := by decide +kernel
theorem d_M_look_71 : decode b_M_look 71 = .ok (.aload_n 0, 1) := by decide +kernel
theorem d_M_look_72 : decode b_M_look 72 = .ok (.getfield 29, 3) := by decide +kernel
theorem d_M_look_75 : decode b_M_look 75 = .ok (.istore_n 2, 1) := by decide +kernel
theorem d_M_look_76 : decode b_M_look 76 = .ok (.iload_n 2, 1) := by decide +kernel
theorem d_M_look_77 : decode b_M_look 77 = .ok (.aload_n 0, 1) := by decide +kernel
theorem d_M_look_78 : decode b_M_look 78 = .ok (.getfield 25, 3) := by decide +kernel
theorem d_M_look_81 : decode b_M_look 81 = .ok (.if_icmp .ge 21, 3) := by decide +kernel
theorem d_M_look_84 : decode b_M_look 84 = .ok (.aload_n 0, 1) := by decide +kernel
theorem d_M_look_85 : decode b_M_look 85 = .ok (.getfield 7, 3) := by decide +kernel
theorem d_M_look_88 : decode b_M_look 88 = .ok (.iload_n 2, 1) := by decide +kernel
theorem d_M_look_89 : decode b_M_look 89 = .ok (.iaload, 1) := by decide +kernel
theorem d_M_look_90 : decode b_M_look 90 = .ok (.bipush 10, 2) := by decide +kernel
theorem d_M_look_92 : decode b_M_look 92 = .ok (.if_icmp .eq 10, 3) := by decide +kernel
theorem d_M_look_95 : decode b_M_look 95 = .ok (.iload_n 2, 1) := by decide +kernel
theorem d_M_look_96 : decode b_M_look 96 = .ok (.iconst 1, 1) := by decide +kernel
theorem d_M_look_97 : decode b_M_look 97 = .ok (.iadd, 1) := by decide +kernel
theorem d_M_look_98 : decode b_M_look 98 = .ok (.istore_n 2, 1) := by decide +kernel
theorem d_M_look_99 : decode b_M_look 99 = .ok (.goto (-23), 3) := by decide +kernel
theorem d_M_look_102 : decode b_M_look 102 = .ok (.aload_n 0, 1) := by decide +kernel
theorem d_M_look_103 : decode b_M_look 103 = .ok (.aload_n 0, 1) := by decide +kernel
theorem d_M_look_104 : decode b_M_look 104 = .ok (.getfield 29, 3) := by decide +kernel
theorem d_M_look_107 : decode b_M_look 107 = .ok (.iload_n 2, 1) := by decide +kernel
theorem d_M_look_108 : decode b_M_look 108 = .ok (.invokevirtual 165, 3) := by decide +kernel
theorem d_M_look_111 : decode b_M_look 111 = .ok (.istore_n 3, 1) := by decide +kernel
theorem d_M_look_112 : decode b_M_look 112 = .ok (.aload_n 0, 1) := by decide +kernel
theorem d_M_look_113 : decode b_M_look 113 = .ok (.aload_n 0, 1) := by decide +kernel
theorem d_M_look_114 : decode b_M_look 114 = .ok (.getfield 32, 3) := by decide +kernel
theorem d_M_look_117 : decode b_M_look 117 = .ok (.iconst 1, 1) := by decide +kernel
theorem d_M_look_118 : decode b_M_look 118 = .ok (.iadd, 1) := by decide +kernel
theorem d_M_look_119 : decode b_M_look 119 = .ok (.putfield 32, 3) := by decide +kernel
theorem d_M_look_122 : decode b_M_look 122 = .ok (.aload_n 0, 1) := by decide +kernel
theorem d_M_look_123 : decode b_M_look 123 = .ok (.iload_n 2, 1) := by decide +kernel
theorem d_M_look_124 : decode b_M_look 124 = .ok (.iconst 1, 1) := by decide +kernel
theorem d_M_look_125 : decode b_M_look 125 = .ok (.iadd, 1) := by decide +kernel
theorem d_M_look_126 : decode b_M_look 126 = .ok (.putfield 29, 3) := by decide +kernel
theorem d_M_look_129 : decode b_M_look 129 = .ok (.iload_n 3, 1) := by decide +kernel
theorem d_M_look_130 : decode b_M_look 130 = .ok (.ifCond .ne 8, 3) := by decide +kernel
theorem d_M_look_133 : decode b_M_look 133 = .ok (.aload_n 0, 1) := by decide +kernel
theorem d_M_look_134 : decode b_M_look 134 = .ok (.invokevirtual 168, 3) := by decide +kernel
theorem d_M_look_137 : decode b_M_look 137 = .ok (.istore_n 3, 1) := by decide +kernel
theorem d_M_look_138 : decode b_M_look 138 = .ok (.iload_n 3, 1) := by decide +kernel
theorem d_M_look_139 : decode b_M_look 139 = .ok (.ifCond .le 8, 3) := by decide +kernel
theorem d_M_look_142 : decode b_M_look 142 = .ok (.aload_n 0, 1) := by decide +kernel
theorem d_M_look_143 : decode b_M_look 143 = .ok (.iload_n 3, 1) := by decide +kernel
theorem d_M_look_144 : decode b_M_look 144 = .ok (.putfield 47, 3) := by decide +kernel
theorem d_M_look_147 : decode b_M_look 147 = .ok (.aload_n 0, 1) := by decide +kernel
theorem d_M_look_148 : decode b_M_look 148 = .ok (.iload_n 3, 1) := by decide +kernel
theorem d_M_look_149 : decode b_M_look 149 = .ok (.ifCond .ne 14, 3) := by decide +kernel
theorem d_M_look_152 : decode b_M_look 152 = .ok (.aload_n 0, 1) := by decide +kernel
theorem d_M_look_153 : decode b_M_look 153 = .ok (.getfield 88, 3) := by decide +kernel
theorem d_M_look_156 : decode b_M_look 156 = .ok (.ifCond .le 7, 3) := by decide +kernel
theorem d_M_look_159 : decode b_M_look 159 = .ok (.iconst 1, 1) := by decide +kernel
theorem d_M_look_160 : decode b_M_look 160 = .ok (.goto 4, 3) := by decide +kernel
theorem d_M_look_163 : decode b_M_look 163 = .ok (.iconst 0, 1) := by decide +kernel
theorem d_M_look_164 : decode b_M_look 164 = .ok (.putfield 63, 3) := by decide +kernel
theorem d_M_look_167 : decode b_M_look 167 = .ok (.iload_n 3, 1) := by decide +kernel
theorem d_M_look_168 : decode b_M_look 168 = .ok (.ifCond .gt 17, 3) := by decide +kernel
theorem d_M_look_171 : decode b_M_look 171 = .ok (.aload_n 0, 1) := by decide +kernel
theorem d_M_look_172 : decode b_M_look 172 = .ok (.getfield 76, 3) := by decide +kernel
theorem d_M_look_175 : decode b_M_look 175 = .ok (.ifCond .ne 10, 3) := by decide +kernel
theorem d_M_look_178 : decode b_M_look 178 = .ok (.aload_n 0, 1) := by decide +kernel
theorem d_M_look_179 : decode b_M_look 179 = .ok (.getfield 63, 3) := by decide +kernel
theorem d_M_look_182 : decode b_M_look 182 = .ok (.ifCond .eq 11, 3) := by decide +kernel
theorem d_M_look_185 : decode b_M_look 185 = .ok (.aload_n 0, 1) := by decide +kernel
theorem d_M_look_186 : decode b_M_look 186 = .ok (.aload_n 0, 1) := by decide +kernel
theorem d_M_look_187 : decode b_M_look 187 = .ok (.getfield 32, 3) := by decide +kernel
theorem d_M_look_190 : decode b_M_look 190 = .ok (.putfield 56, 3) := by decide +kernel
theorem d_M_look_193 : decode b_M_look 193 = .ok (.iinc 1 1, 3) := by decide +kernel
theorem d_M_look_196 : decode b_M_look 196 = .ok (.goto (-194), 3) := by decide +kernel
theorem d_M_look_199 : decode b_M_look 199 = .ok (.return_, 1) := by decide +kernel
theorem d_M_quotient_0 : decode b_M_quotient 0 = .ok (.iload_n 0, 1) := by decide +kernel
theorem d_M_quotient_1 : decode b_M_quotient 1 = .ok (.ifCond .lt 9, 3) := by decide +kernel
theorem d_M_quotient_4 : decode b_M_quotient 4 = .ok (.iload_n 0, 1) := by decide +kernel
theorem d_M_quotient_5 : decode b_M_quotient 5 = .ok (.iload_n 1, 1) := by decide +kernel
theorem d_M_quotient_6 : decode b_M_quotient 6 = .ok (.idiv, 1) := by decide +kernel
theorem d_M_quotient_7 : decode b_M_quotient 7 = .ok (.goto 11, 3) := by decide +kernel
theorem d_M_quotient_10 : decode b_M_quotient 10 = .ok (.iload_n 1, 1) := by decide +kernel
theorem d_M_quotient_11 : decode b_M_quotient 11 = .ok (.iconst 1, 1) := by decide +kernel
theorem d_M_quotient_12 : decode b_M_quotient 12 = .ok (.isub, 1) := by decide +kernel
theorem d_M_quotient_13 : decode b_M_quotient 13 = .ok (.iload_n 0, 1) := by decide +kernel
theorem d_M_quotient_14 : decode b_M_quotient 14 = .ok (.isub, 1) := by decide +kernel
theorem d_M_quotient_15 : decode b_M_quotient 15 = .ok (.iload_n 1, 1) := by decide +kernel
theorem d_M_quotient_16 : decode b_M_quotient 16 = .ok (.idiv, 1) := by decide +kernel
theorem d_M_quotient_17 : decode b_M_quotient 17 = .ok (.ineg, 1) := by decide +kernel
theorem d_M_quotient_18 : decode b_M_quotient 18 = .ok (.ireturn, 1) := by decide +kernel
theorem d_M_pulse_0 : decode b_M_pulse 0 = .ok (.aload_n 0, 1) := by decide +kernel
theorem d_M_pulse_1 : decode b_M_pulse 1 = .ok (.getfield 35, 3) := by decide +kernel
theorem d_M_pulse_4 : decode b_M_pulse 4 = .ok (.istore_n 1, 1) := by decide +kernel
theorem d_M_pulse_5 : decode b_M_pulse 5 = .ok (.aload_n 0, 1) := by decide +kernel
theorem d_M_pulse_6 : decode b_M_pulse 6 = .ok (.getfield 38, 3) := by decide +kernel
theorem d_M_pulse_9 : decode b_M_pulse 9 = .ok (.istore_n 2, 1) := by decide +kernel
theorem d_M_pulse_10 : decode b_M_pulse 10 = .ok (.aload_n 0, 1) := by decide +kernel
theorem d_M_pulse_11 : decode b_M_pulse 11 = .ok (.aload_n 0, 1) := by decide +kernel
theorem d_M_pulse_12 : decode b_M_pulse 12 = .ok (.getfield 70, 3) := by decide +kernel
theorem d_M_pulse_15 : decode b_M_pulse 15 = .ok (.iconst 1, 1) := by decide +kernel
theorem d_M_pulse_16 : decode b_M_pulse 16 = .ok (.iadd, 1) := by decide +kernel
theorem d_M_pulse_17 : decode b_M_pulse 17 = .ok (.putfield 70, 3) := by decide +kernel
theorem d_M_pulse_20 : decode b_M_pulse 20 = .ok (.aload_n 0, 1) := by decide +kernel
theorem d_M_pulse_21 : decode b_M_pulse 21 = .ok (.getfield 118, 3) := by decide +kernel
theorem d_M_pulse_24 : decode b_M_pulse 24 = .ok (.ifCond .ne 74, 3) := by decide +kernel
theorem d_M_pulse_27 : decode b_M_pulse 27 = .ok (.aload_n 0, 1) := by decide +kernel
theorem d_M_pulse_28 : decode b_M_pulse 28 = .ok (.aload_n 0, 1) := by decide +kernel
theorem d_M_pulse_29 : decode b_M_pulse 29 = .ok (.getfield 121, 3) := by decide +kernel
theorem d_M_pulse_32 : decode b_M_pulse 32 = .ok (.iconst 2, 1) := by decide +kernel
theorem d_M_pulse_33 : decode b_M_pulse 33 = .ok (.aload_n 0, 1) := by decide +kernel
theorem d_M_pulse_34 : decode b_M_pulse 34 = .ok (.getfield 70, 3) := by decide +kernel
theorem d_M_pulse_37 : decode b_M_pulse 37 = .ok (.imul, 1) := by decide +kernel
theorem d_M_pulse_38 : decode b_M_pulse 38 = .ok (.aload_n 0, 1) := by decide +kernel
theorem d_M_pulse_39 : decode b_M_pulse 39 = .ok (.getfield 127, 3) := by decide +kernel
theorem d_M_pulse_42 : decode b_M_pulse 42 = .ok (.imul, 1) := by decide +kernel
theorem d_M_pulse_43 : decode b_M_pulse 43 = .ok (.aload_n 0, 1) := by decide +kernel
theorem d_M_pulse_44 : decode b_M_pulse 44 = .ok (.getfield 73, 3) := by decide +kernel
theorem d_M_pulse_47 : decode b_M_pulse 47 = .ok (.iadd, 1) := by decide +kernel
theorem d_M_pulse_48 : decode b_M_pulse 48 = .ok (.iconst 2, 1) := by decide +kernel
theorem d_M_pulse_49 : decode b_M_pulse 49 = .ok (.aload_n 0, 1) := by decide +kernel
theorem d_M_pulse_50 : decode b_M_pulse 50 = .ok (.getfield 73, 3) := by decide +kernel
theorem d_M_pulse_53 : decode b_M_pulse 53 = .ok (.imul, 1) := by decide +kernel
theorem d_M_pulse_54 : decode b_M_pulse 54 = .ok (.invokestatic 172, 3) := by decide +kernel
theorem d_M_pulse_57 : decode b_M_pulse 57 = .ok (.iadd, 1) := by decide +kernel
theorem d_M_pulse_58 : decode b_M_pulse 58 = .ok (.putfield 35, 3) := by decide +kernel
theorem d_M_pulse_61 : decode b_M_pulse 61 = .ok (.aload_n 0, 1) := by decide +kernel
theorem d_M_pulse_62 : decode b_M_pulse 62 = .ok (.aload_n 0, 1) := by decide +kernel
theorem d_M_pulse_63 : decode b_M_pulse 63 = .ok (.getfield 124, 3) := by decide +kernel
theorem d_M_pulse_66 : decode b_M_pulse 66 = .ok (.iconst 2, 1) := by decide +kernel
theorem d_M_pulse_67 : decode b_M_pulse 67 = .ok (.aload_n 0, 1) := by decide +kernel
theorem d_M_pulse_68 : decode b_M_pulse 68 = .ok (.getfield 70, 3) := by decide +kernel
theorem d_M_pulse_71 : decode b_M_pulse 71 = .ok (.imul, 1) := by decide +kernel
theorem d_M_pulse_72 : decode b_M_pulse 72 = .ok (.aload_n 0, 1) := by decide +kernel
theorem d_M_pulse_73 : decode b_M_pulse 73 = .ok (.getfield 130, 3) := by decide +kernel
theorem d_M_pulse_76 : decode b_M_pulse 76 = .ok (.imul, 1) := by decide +kernel
theorem d_M_pulse_77 : decode b_M_pulse 77 = .ok (.aload_n 0, 1) := by decide +kernel
theorem d_M_pulse_78 : decode b_M_pulse 78 = .ok (.getfield 73, 3) := by decide +kernel
theorem d_M_pulse_81 : decode b_M_pulse 81 = .ok (.iadd, 1) := by decide +kernel
theorem d_M_pulse_82 : decode b_M_pulse 82 = .ok (.iconst 2, 1) := by decide +kernel
theorem d_M_pulse_83 : decode b_M_pulse 83 = .ok (.aload_n 0, 1) := by decide +kernel
theorem d_M_pulse_84 : decode b_M_pulse 84 = .ok (.getfield 73, 3) := by decide +kernel
theorem d_M_pulse_87 : decode b_M_pulse 87 = .ok (.imul, 1) := by decide +kernel
theorem d_M_pulse_88 : decode b_M_pulse 88 = .ok (.invokestatic 172, 3) := by decide +kernel
theorem d_M_pulse_91 : decode b_M_pulse 91 = .ok (.iadd, 1) := by decide +kernel
theorem d_M_pulse_92 : decode b_M_pulse 92 = .ok (.putfield 38, 3) := by decide +kernel
theorem d_M_pulse_95 : decode b_M_pulse 95 = .ok (.goto 159, 3) := by decide +kernel
theorem d_M_pulse_98 : decode b_M_pulse 98 = .ok (.aload_n 0, 1) := by decide +kernel
theorem d_M_pulse_99 : decode b_M_pulse 99 = .ok (.getfield 35, 3) := by decide +kernel
theorem d_M_pulse_102 : decode b_M_pulse 102 = .ok (.aload_n 0, 1) := by decide +kernel
theorem d_M_pulse_103 : decode b_M_pulse 103 = .ok (.getfield 137, 3) := by decide +kernel
theorem d_M_pulse_106 : decode b_M_pulse 106 = .ok (.isub, 1) := by decide +kernel
theorem d_M_pulse_107 : decode b_M_pulse 107 = .ok (.istore_n 3, 1) := by decide +kernel
theorem d_M_pulse_108 : decode b_M_pulse 108 = .ok (.aload_n 0, 1) := by decide +kernel
theorem d_M_pulse_109 : decode b_M_pulse 109 = .ok (.getfield 38, 3) := by decide +kernel
theorem d_M_pulse_112 : decode b_M_pulse 112 = .ok (.aload_n 0, 1) := by decide +kernel
theorem d_M_pulse_113 : decode b_M_pulse 113 = .ok (.getfield 140, 3) := by decide +kernel
theorem d_M_pulse_116 : decode b_M_pulse 116 = .ok (.isub, 1) := by decide +kernel
theorem d_M_pulse_117 : decode b_M_pulse 117 = .ok (.istore 4, 2) := by decide +kernel
theorem d_M_pulse_119 : decode b_M_pulse 119 = .ok (.iconst (-1), 1) := by decide +kernel
theorem d_M_pulse_120 : decode b_M_pulse 120 = .ok (.istore 5, 2) := by decide +kernel
theorem d_M_pulse_122 : decode b_M_pulse 122 = .ok (.iconst 0, 1) := by decide +kernel
theorem d_M_pulse_123 : decode b_M_pulse 123 = .ok (.istore 6, 2) := by decide +kernel
theorem d_M_pulse_125 : decode b_M_pulse 125 = .ok (.iload 6, 2) := by decide +kernel
theorem d_M_pulse_127 : decode b_M_pulse 127 = .ok (.aload_n 0, 1) := by decide +kernel
theorem d_M_pulse_128 : decode b_M_pulse 128 = .ok (.getfield 148, 3) := by decide +kernel
theorem d_M_pulse_131 : decode b_M_pulse 131 = .ok (.if_icmp .ge 91, 3) := by decide +kernel
theorem d_M_pulse_134 : decode b_M_pulse 134 = .ok (.aload_n 0, 1) := by decide +kernel
theorem d_M_pulse_135 : decode b_M_pulse 135 = .ok (.getfield 13, 3) := by decide +kernel
theorem d_M_pulse_138 : decode b_M_pulse 138 = .ok (.iload 6, 2) := by decide +kernel
theorem d_M_pulse_140 : decode b_M_pulse 140 = .ok (.iaload, 1) := by decide +kernel
theorem d_M_pulse_141 : decode b_M_pulse 141 = .ok (.iload_n 3, 1) := by decide +kernel
theorem d_M_pulse_142 : decode b_M_pulse 142 = .ok (.if_icmp .ne 19, 3) := by decide +kernel
theorem d_M_pulse_145 : decode b_M_pulse 145 = .ok (.aload_n 0, 1) := by decide +kernel
theorem d_M_pulse_146 : decode b_M_pulse 146 = .ok (.getfield 16, 3) := by decide +kernel
theorem d_M_pulse_149 : decode b_M_pulse 149 = .ok (.iload 6, 2) := by decide +kernel
theorem d_M_pulse_151 : decode b_M_pulse 151 = .ok (.iaload, 1) := by decide +kernel
theorem d_M_pulse_152 : decode b_M_pulse 152 = .ok (.iload 4, 2) := by decide +kernel
theorem d_M_pulse_154 : decode b_M_pulse 154 = .ok (.if_icmp .ne 7, 3) := by decide +kernel
theorem d_M_pulse_157 : decode b_M_pulse 157 = .ok (.iconst 1, 1) := by decide +kernel
theorem d_M_pulse_158 : decode b_M_pulse 158 = .ok (.goto 4, 3) := by decide +kernel
theorem d_M_pulse_161 : decode b_M_pulse 161 = .ok (.iconst 0, 1) := by decide +kernel
theorem d_M_pulse_162 : decode b_M_pulse 162 = .ok (.istore 7, 2) := by decide +kernel
theorem d_M_pulse_164 : decode b_M_pulse 164 = .ok (.iload 7, 2) := by decide +kernel
theorem d_M_pulse_166 : decode b_M_pulse 166 = .ok (.ifCond .ne 50, 3) := by decide +kernel
theorem d_M_pulse_169 : decode b_M_pulse 169 = .ok (.iload 5, 2) := by decide +kernel
theorem d_M_pulse_171 : decode b_M_pulse 171 = .ok (.ifCond .lt 41, 3) := by decide +kernel
theorem d_M_pulse_174 : decode b_M_pulse 174 = .ok (.aload_n 0, 1) := by decide +kernel
theorem d_M_pulse_175 : decode b_M_pulse 175 = .ok (.iload_n 3, 1) := by decide +kernel
theorem d_M_pulse_176 : decode b_M_pulse 176 = .ok (.iload 4, 2) := by decide +kernel
theorem d_M_pulse_178 : decode b_M_pulse 178 = .ok (.aload_n 0, 1) := by decide +kernel
theorem d_M_pulse_179 : decode b_M_pulse 179 = .ok (.getfield 13, 3) := by decide +kernel
theorem d_M_pulse_182 : decode b_M_pulse 182 = .ok (.iload 6, 2) := by decide +kernel
theorem d_M_pulse_184 : decode b_M_pulse 184 = .ok (.iaload, 1) := by decide +kernel
theorem d_M_pulse_185 : decode b_M_pulse 185 = .ok (.aload_n 0, 1) := by decide +kernel
theorem d_M_pulse_186 : decode b_M_pulse 186 = .ok (.getfield 16, 3) := by decide +kernel
theorem d_M_pulse_189 : decode b_M_pulse 189 = .ok (.iload 6, 2) := by decide +kernel
theorem d_M_pulse_191 : decode b_M_pulse 191 = .ok (.iaload, 1) := by decide +kernel
theorem d_M_pulse_192 : decode b_M_pulse 192 = .ok (.aload_n 0, 1) := by decide +kernel
theorem d_M_pulse_193 : decode b_M_pulse 193 = .ok (.getfield 13, 3) := by decide +kernel
theorem d_M_pulse_196 : decode b_M_pulse 196 = .ok (.iload 5, 2) := by decide +kernel
theorem d_M_pulse_198 : decode b_M_pulse 198 = .ok (.iaload, 1) := by decide +kernel
theorem d_M_pulse_199 : decode b_M_pulse 199 = .ok (.aload_n 0, 1) := by decide +kernel
theorem d_M_pulse_200 : decode b_M_pulse 200 = .ok (.getfield 16, 3) := by decide +kernel
theorem d_M_pulse_203 : decode b_M_pulse 203 = .ok (.iload 5, 2) := by decide +kernel
theorem d_M_pulse_205 : decode b_M_pulse 205 = .ok (.iaload, 1) := by decide +kernel
theorem d_M_pulse_206 : decode b_M_pulse 206 = .ok (.invokevirtual 151, 3) := by decide +kernel
theorem d_M_pulse_209 : decode b_M_pulse 209 = .ok (.ifCond .eq 7, 3) := by decide +kernel
theorem d_M_pulse_212 : decode b_M_pulse 212 = .ok (.iload 6, 2) := by decide +kernel
theorem d_M_pulse_214 : decode b_M_pulse 214 = .ok (.istore 5, 2) := by decide +kernel
theorem d_M_pulse_216 : decode b_M_pulse 216 = .ok (.iinc 6 1, 3) := by decide +kernel
theorem d_M_pulse_219 : decode b_M_pulse 219 = .ok (.goto (-94), 3) := by decide +kernel
theorem d_M_pulse_222 : decode b_M_pulse 222 = .ok (.aload_n 0, 1) := by decide +kernel
theorem d_M_pulse_223 : decode b_M_pulse 223 = .ok (.aload_n 0, 1) := by decide +kernel
theorem d_M_pulse_224 : decode b_M_pulse 224 = .ok (.getfield 137, 3) := by decide +kernel
theorem d_M_pulse_227 : decode b_M_pulse 227 = .ok (.aload_n 0, 1) := by decide +kernel
theorem d_M_pulse_228 : decode b_M_pulse 228 = .ok (.getfield 13, 3) := by decide +kernel
theorem d_M_pulse_231 : decode b_M_pulse 231 = .ok (.iload 5, 2) := by decide +kernel
theorem d_M_pulse_233 : decode b_M_pulse 233 = .ok (.iaload, 1) := by decide +kernel
theorem d_M_pulse_234 : decode b_M_pulse 234 = .ok (.iadd, 1) := by decide +kernel
theorem d_M_pulse_235 : decode b_M_pulse 235 = .ok (.putfield 35, 3) := by decide +kernel
theorem d_M_pulse_238 : decode b_M_pulse 238 = .ok (.aload_n 0, 1) := by decide +kernel
theorem d_M_pulse_239 : decode b_M_pulse 239 = .ok (.aload_n 0, 1) := by decide +kernel
theorem d_M_pulse_240 : decode b_M_pulse 240 = .ok (.getfield 140, 3) := by decide +kernel
theorem d_M_pulse_243 : decode b_M_pulse 243 = .ok (.aload_n 0, 1) := by decide +kernel
theorem d_M_pulse_244 : decode b_M_pulse 244 = .ok (.getfield 16, 3) := by decide +kernel
theorem d_M_pulse_247 : decode b_M_pulse 247 = .ok (.iload 5, 2) := by decide +kernel
theorem d_M_pulse_249 : decode b_M_pulse 249 = .ok (.iaload, 1) := by decide +kernel
theorem d_M_pulse_250 : decode b_M_pulse 250 = .ok (.iadd, 1) := by decide +kernel
theorem d_M_pulse_251 : decode b_M_pulse 251 = .ok (.putfield 38, 3) := by decide +kernel
theorem d_M_pulse_254 : decode b_M_pulse 254 = .ok (.aload_n 0, 1) := by decide +kernel
theorem d_M_pulse_255 : decode b_M_pulse 255 = .ok (.aload_n 0, 1) := by decide +kernel
theorem d_M_pulse_256 : decode b_M_pulse 256 = .ok (.getfield 66, 3) := by decide +kernel
theorem d_M_pulse_259 : decode b_M_pulse 259 = .ok (.aload_n 0, 1) := by decide +kernel
theorem d_M_pulse_260 : decode b_M_pulse 260 = .ok (.getfield 112, 3) := by decide +kernel
theorem d_M_pulse_263 : decode b_M_pulse 263 = .ok (.ladd, 1) := by decide +kernel
theorem d_M_pulse_264 : decode b_M_pulse 264 = .ok (.putfield 66, 3) := by decide +kernel
theorem d_M_pulse_267 : decode b_M_pulse 267 = .ok (.aload_n 0, 1) := by decide +kernel
theorem d_M_pulse_268 : decode b_M_pulse 268 = .ok (.aload_n 0, 1) := by decide +kernel
theorem d_M_pulse_269 : decode b_M_pulse 269 = .ok (.getfield 50, 3) := by decide +kernel
theorem d_M_pulse_272 : decode b_M_pulse 272 = .ok (.iconst 1, 1) := by decide +kernel
theorem d_M_pulse_273 : decode b_M_pulse 273 = .ok (.iadd, 1) := by decide +kernel
theorem d_M_pulse_274 : decode b_M_pulse 274 = .ok (.putfield 50, 3) := by decide +kernel
theorem d_M_pulse_277 : decode b_M_pulse 277 = .ok (.aload_n 0, 1) := by decide +kernel
theorem d_M_pulse_278 : decode b_M_pulse 278 = .ok (.iconst 3, 1) := by decide +kernel
theorem d_M_pulse_279 : decode b_M_pulse 279 = .ok (.aload_n 0, 1) := by decide +kernel
theorem d_M_pulse_280 : decode b_M_pulse 280 = .ok (.getfield 35, 3) := by decide +kernel
theorem d_M_pulse_283 : decode b_M_pulse 283 = .ok (.iload_n 1, 1) := by decide +kernel
theorem d_M_pulse_284 : decode b_M_pulse 284 = .ok (.isub, 1) := by decide +kernel
theorem d_M_pulse_285 : decode b_M_pulse 285 = .ok (.iconst 1, 1) := by decide +kernel
theorem d_M_pulse_286 : decode b_M_pulse 286 = .ok (.iadd, 1) := by decide +kernel
theorem d_M_pulse_287 : decode b_M_pulse 287 = .ok (.imul, 1) := by decide +kernel
theorem d_M_pulse_288 : decode b_M_pulse 288 = .ok (.aload_n 0, 1) := by decide +kernel
theorem d_M_pulse_289 : decode b_M_pulse 289 = .ok (.getfield 38, 3) := by decide +kernel
theorem d_M_pulse_292 : decode b_M_pulse 292 = .ok (.iadd, 1) := by decide +kernel
theorem d_M_pulse_293 : decode b_M_pulse 293 = .ok (.iload_n 2, 1) := by decide +kernel
theorem d_M_pulse_294 : decode b_M_pulse 294 = .ok (.isub, 1) := by decide +kernel
theorem d_M_pulse_295 : decode b_M_pulse 295 = .ok (.iconst 1, 1) := by decide +kernel
theorem d_M_pulse_296 : decode b_M_pulse 296 = .ok (.iadd, 1) := by decide +kernel
theorem d_M_pulse_297 : decode b_M_pulse 297 = .ok (.putfield 53, 3) := by decide +kernel
theorem d_M_pulse_300 : decode b_M_pulse 300 = .ok (.return_, 1) := by decide +kernel
theorem d_M_run_0 : decode b_M_run 0 = .ok (.iconst 0, 1) := by decide +kernel
theorem d_M_run_1 : decode b_M_run 1 = .ok (.istore_n 2, 1) := by decide +kernel
theorem d_M_run_2 : decode b_M_run 2 = .ok (.iconst 0, 1) := by decide +kernel
theorem d_M_run_3 : decode b_M_run 3 = .ok (.istore_n 3, 1) := by decide +kernel
theorem d_M_run_4 : decode b_M_run 4 = .ok (.iload_n 3, 1) := by decide +kernel
theorem d_M_run_5 : decode b_M_run 5 = .ok (.ldc 111, 2) := by decide +kernel
theorem d_M_run_7 : decode b_M_run 7 = .ok (.if_icmp .ge 40, 3) := by decide +kernel
theorem d_M_run_10 : decode b_M_run 10 = .ok (.iload_n 2, 1) := by decide +kernel
theorem d_M_run_11 : decode b_M_run 11 = .ok (.iload_n 1, 1) := by decide +kernel
theorem d_M_run_12 : decode b_M_run 12 = .ok (.if_icmp .ge 35, 3) := by decide +kernel
theorem d_M_run_15 : decode b_M_run 15 = .ok (.aload_n 0, 1) := by decide +kernel
theorem d_M_run_16 : decode b_M_run 16 = .ok (.getfield 47, 3) := by decide +kernel
theorem d_M_run_19 : decode b_M_run 19 = .ok (.ifCond .ne 28, 3) := by decide +kernel
theorem d_M_run_22 : decode b_M_run 22 = .ok (.aload_n 0, 1) := by decide +kernel
theorem d_M_run_23 : decode b_M_run 23 = .ok (.invokevirtual 175, 3) := by decide +kernel
theorem d_M_run_26 : decode b_M_run 26 = .ok (.aload_n 0, 1) := by decide +kernel
theorem d_M_run_27 : decode b_M_run 27 = .ok (.getfield 47, 3) := by decide +kernel
theorem d_M_run_30 : decode b_M_run 30 = .ok (.ifCond .ne 11, 3) := by decide +kernel
theorem d_M_run_33 : decode b_M_run 33 = .ok (.aload_n 0, 1) := by decide +kernel
theorem d_M_run_34 : decode b_M_run 34 = .ok (.invokevirtual 178, 3) := by decide +kernel
theorem d_M_run_37 : decode b_M_run 37 = .ok (.iload_n 2, 1) := by decide +kernel
theorem d_M_run_38 : decode b_M_run 38 = .ok (.iconst 1, 1) := by decide +kernel
theorem d_M_run_39 : decode b_M_run 39 = .ok (.iadd, 1) := by decide +kernel
theorem d_M_run_40 : decode b_M_run 40 = .ok (.istore_n 2, 1) := by decide +kernel
theorem d_M_run_41 : decode b_M_run 41 = .ok (.iinc 3 1, 3) := by decide +kernel
theorem d_M_run_44 : decode b_M_run 44 = .ok (.goto (-40), 3) := by decide +kernel
theorem d_M_run_47 : decode b_M_run 47 = .ok (.iload_n 2, 1) := by decide +kernel
theorem d_M_run_48 : decode b_M_run 48 = .ok (.ireturn, 1) := by decide +kernel
theorem d_M_state_0 : decode b_M_state 0 = .ok (.aload_n 0, 1) := by decide +kernel
theorem d_M_state_1 : decode b_M_state 1 = .ok (.getfield 47, 3) := by decide +kernel
theorem d_M_state_4 : decode b_M_state 4 = .ok (.ireturn, 1) := by decide +kernel
theorem d_M_x_0 : decode b_M_x 0 = .ok (.aload_n 0, 1) := by decide +kernel
theorem d_M_x_1 : decode b_M_x 1 = .ok (.getfield 35, 3) := by decide +kernel
theorem d_M_x_4 : decode b_M_x 4 = .ok (.ireturn, 1) := by decide +kernel
theorem d_M_y_0 : decode b_M_y 0 = .ok (.aload_n 0, 1) := by decide +kernel
theorem d_M_y_1 : decode b_M_y 1 = .ok (.getfield 38, 3) := by decide +kernel
theorem d_M_y_4 : decode b_M_y 4 = .ok (.ireturn, 1) := by decide +kernel
theorem d_M_time_0 : decode b_M_time 0 = .ok (.aload_n 0, 1) := by decide +kernel
theorem d_M_time_1 : decode b_M_time 1 = .ok (.getfield 66, 3) := by decide +kernel
theorem d_M_time_4 : decode b_M_time 4 = .ok (.lreturn, 1) := by decide +kernel
theorem d_M_pulses_0 : decode b_M_pulses 0 = .ok (.aload_n 0, 1) := by decide +kernel
theorem d_M_pulses_1 : decode b_M_pulses 1 = .ok (.getfield 50, 3) := by decide +kernel
theorem d_M_pulses_4 : decode b_M_pulses 4 = .ok (.ireturn, 1) := by decide +kernel
theorem d_M_last_0 : decode b_M_last 0 = .ok (.aload_n 0, 1) := by decide +kernel
theorem d_M_last_1 : decode b_M_last 1 = .ok (.getfield 53, 3) := by decide +kernel
theorem d_M_last_4 : decode b_M_last 4 = .ok (.ireturn, 1) := by decide +kernel
theorem d_M_line_0 : decode b_M_line 0 = .ok (.aload_n 0, 1) := by decide +kernel
theorem d_M_line_1 : decode b_M_line 1 = .ok (.getfield 56, 3) := by decide +kernel
theorem d_M_line_4 : decode b_M_line 4 = .ok (.ireturn, 1) := by decide +kernel
theorem d_M_feedRate_0 : decode b_M_feedRate 0 = .ok (.aload_n 0, 1) := by decide +kernel
theorem d_M_feedRate_1 : decode b_M_feedRate 1 = .ok (.getfield 44, 3) := by decide +kernel
theorem d_M_feedRate_4 : decode b_M_feedRate 4 = .ok (.ireturn, 1) := by decide +kernel
theorem d_M_mode_0 : decode b_M_mode 0 = .ok (.aload_n 0, 1) := by decide +kernel
theorem d_M_mode_1 : decode b_M_mode 1 = .ok (.getfield 41, 3) := by decide +kernel
theorem d_M_mode_4 : decode b_M_mode 4 = .ok (.aload_n 0, 1) := by decide +kernel
theorem d_M_mode_5 : decode b_M_mode 5 = .ok (.getfield 59, 3) := by decide +kernel
theorem d_M_mode_8 : decode b_M_mode 8 = .ok (.ifCond .eq 7, 3) := by decide +kernel
theorem d_M_mode_11 : decode b_M_mode 11 = .ok (.iconst 4, 1) := by decide +kernel
theorem d_M_mode_12 : decode b_M_mode 12 = .ok (.goto 4, 3) := by decide +kernel
theorem d_M_mode_15 : decode b_M_mode 15 = .ok (.iconst 0, 1) := by decide +kernel
theorem d_M_mode_16 : decode b_M_mode 16 = .ok (.iadd, 1) := by decide +kernel
theorem d_M_mode_17 : decode b_M_mode 17 = .ok (.ireturn, 1) := by decide +kernel
theorem d_M_left_0 : decode b_M_left 0 = .ok (.aload_n 0, 1) := by decide +kernel
theorem d_M_left_1 : decode b_M_left 1 = .ok (.getfield 73, 3) := by decide +kernel
theorem d_M_left_4 : decode b_M_left 4 = .ok (.aload_n 0, 1) := by decide +kernel
theorem d_M_left_5 : decode b_M_left 5 = .ok (.getfield 70, 3) := by decide +kernel
theorem d_M_left_8 : decode b_M_left 8 = .ok (.isub, 1) := by decide +kernel
theorem d_M_left_9 : decode b_M_left 9 = .ok (.ireturn, 1) := by decide +kernel
def wp_M_begin (m_at m_lines m_x m_y m_mode m_feed m_state m_pulses m_last m_shown m_relative m_ending : Int32) (m_time : Int64) (m_made m_all : Int32) (Q : Int32 → Int32 → Int32 → Int32 → Int32 → Int32 → Int32 → Int32 → Int32 → Int32 → Int32 → Int32 → Int64 → Int32 → Int32 → Prop) : Prop := (Q (0 : Int32) (0 : Int32) (0 : Int32) (0 : Int32) (0 : Int32) (0 : Int32) (0 : Int32) (0 : Int32) (4 : Int32) (0 : Int32) (0 : Int32) (0 : Int32) (0 : Int64) (0 : Int32) (0 : Int32))
abbrev rm_M_begin : Room := { frames := 0, cells := 0, slots := 0, locals := 0 }
set_option maxRecDepth 100000 in
set_option maxHeartbeats 4000000 in
theorem c_M_begin (l : Launch) {D : va_G} {X : xT} {a : Nat → Nat} {K : Nat → ClassId} {tl : va_W} {m_length m_at m_lines m_x m_y m_mode m_feed m_state m_pulses m_last m_shown m_relative m_ending : Int32} {m_time m_pause : Int64} {m_kind m_made m_all m_fromX m_fromY m_wayX m_wayY m_points m_centreX m_centreY m_there m_newMode m_newWay m_newFeed m_ends : Int32} {Q : Int32 → Int32 → Int32 → Int32 → Int32 → Int32 → Int32 → Int32 → Int32 → Int32 → Int32 → Int32 → Int64 → Int32 → Int32 → Prop} : MV l y_M_begin b_M_begin 1 rm_M_begin D cls (tys K) X [.ref (a 10)] ((o_M a m_length m_at m_lines m_x m_y m_mode m_feed m_state m_pulses m_last m_shown m_relative m_ending m_time m_pause m_kind m_made m_all m_fromX m_fromY m_wayX m_wayY m_points m_centreX m_centreY m_there m_newMode m_newWay m_newFeed m_ends) :: tl) (fun u : Int32 × Int32 × Int32 × Int32 × Int32 × Int32 × Int32 × Int32 × Int32 × Int32 × Int32 × Int32 × Int64 × Int32 × Int32 => (o_M a m_length u.1 u.2.1 u.2.2.1 u.2.2.2.1 u.2.2.2.2.1 u.2.2.2.2.2.1 u.2.2.2.2.2.2.1 u.2.2.2.2.2.2.2.1 u.2.2.2.2.2.2.2.2.1 u.2.2.2.2.2.2.2.2.2.1 u.2.2.2.2.2.2.2.2.2.2.1 u.2.2.2.2.2.2.2.2.2.2.2.1 u.2.2.2.2.2.2.2.2.2.2.2.2.1 m_pause m_kind u.2.2.2.2.2.2.2.2.2.2.2.2.2.1 u.2.2.2.2.2.2.2.2.2.2.2.2.2.2 m_fromX m_fromY m_wayX m_wayY m_points m_centreX m_centreY m_there m_newMode m_newWay m_newFeed m_ends) :: tl) (wp_M_begin m_at m_lines m_x m_y m_mode m_feed m_state m_pulses m_last m_shown m_relative m_ending m_time m_made m_all Q) (fun u => Q u.1 u.2.1 u.2.2.1 u.2.2.2.1 u.2.2.2.2.1 u.2.2.2.2.2.1 u.2.2.2.2.2.2.1 u.2.2.2.2.2.2.2.1 u.2.2.2.2.2.2.2.2.1 u.2.2.2.2.2.2.2.2.2.1 u.2.2.2.2.2.2.2.2.2.2.1 u.2.2.2.2.2.2.2.2.2.2.2.1 u.2.2.2.2.2.2.2.2.2.2.2.2.1 u.2.2.2.2.2.2.2.2.2.2.2.2.2.1 u.2.2.2.2.2.2.2.2.2.2.2.2.2.2) := by
  refine my_of_V (by decide +kernel) (Nat.le_of_ble_eq_true rfl) (fun p e s m args below meth c A QQ H locs ls hx hb hts hown hml hK hX hA hP hD hS hl hw hret => ?_)
  replace hl : lv_has ls 1 [(0, .ref (a 10))] := hl
  unfold wp_M_begin at hw
  refine lv_aload_n hx hb d_M_begin_0 rfl (lv_at hl 0 rfl) ?_
  refine lv_iconst (v := (0 : Int32)) hx hb d_M_begin_1 (by decide) ?_
  refine u_M_at hx hb hts hown hK hP hD hS 0 rfl rfl d_M_begin_2 (fun H locs hP hD hS => ?_)
  have hP : va_P D cls ((o_M a m_length (0 : Int32) m_lines m_x m_y m_mode m_feed m_state m_pulses m_last m_shown m_relative m_ending m_time m_pause m_kind m_made m_all m_fromX m_fromY m_wayX m_wayY m_points m_centreX m_centreY m_there m_newMode m_newWay m_newFeed m_ends) :: tl) H := hP
  have hD : va_D A ((o_M a m_length (0 : Int32) m_lines m_x m_y m_mode m_feed m_state m_pulses m_last m_shown m_relative m_ending m_time m_pause m_kind m_made m_all m_fromX m_fromY m_wayX m_wayY m_points m_centreX m_centreY m_there m_newMode m_newWay m_newFeed m_ends) :: tl) := hD
  refine lv_aload_n hx hb d_M_begin_5 rfl (lv_at hl 0 rfl) ?_
  refine lv_iconst (v := (0 : Int32)) hx hb d_M_begin_6 (by decide) ?_
  refine u_M_lines hx hb hts hown hK hP hD hS 0 rfl rfl d_M_begin_7 (fun H locs hP hD hS => ?_)
  have hP : va_P D cls ((o_M a m_length (0 : Int32) (0 : Int32) m_x m_y m_mode m_feed m_state m_pulses m_last m_shown m_relative m_ending m_time m_pause m_kind m_made m_all m_fromX m_fromY m_wayX m_wayY m_points m_centreX m_centreY m_there m_newMode m_newWay m_newFeed m_ends) :: tl) H := hP
  have hD : va_D A ((o_M a m_length (0 : Int32) (0 : Int32) m_x m_y m_mode m_feed m_state m_pulses m_last m_shown m_relative m_ending m_time m_pause m_kind m_made m_all m_fromX m_fromY m_wayX m_wayY m_points m_centreX m_centreY m_there m_newMode m_newWay m_newFeed m_ends) :: tl) := hD
  refine lv_aload_n hx hb d_M_begin_10 rfl (lv_at hl 0 rfl) ?_
  refine lv_iconst (v := (0 : Int32)) hx hb d_M_begin_11 (by decide) ?_
  refine u_M_x hx hb hts hown hK hP hD hS 0 rfl rfl d_M_begin_12 (fun H locs hP hD hS => ?_)
  have hP : va_P D cls ((o_M a m_length (0 : Int32) (0 : Int32) (0 : Int32) m_y m_mode m_feed m_state m_pulses m_last m_shown m_relative m_ending m_time m_pause m_kind m_made m_all m_fromX m_fromY m_wayX m_wayY m_points m_centreX m_centreY m_there m_newMode m_newWay m_newFeed m_ends) :: tl) H := hP
  have hD : va_D A ((o_M a m_length (0 : Int32) (0 : Int32) (0 : Int32) m_y m_mode m_feed m_state m_pulses m_last m_shown m_relative m_ending m_time m_pause m_kind m_made m_all m_fromX m_fromY m_wayX m_wayY m_points m_centreX m_centreY m_there m_newMode m_newWay m_newFeed m_ends) :: tl) := hD
  refine lv_aload_n hx hb d_M_begin_15 rfl (lv_at hl 0 rfl) ?_
  refine lv_iconst (v := (0 : Int32)) hx hb d_M_begin_16 (by decide) ?_
  refine u_M_y hx hb hts hown hK hP hD hS 0 rfl rfl d_M_begin_17 (fun H locs hP hD hS => ?_)
  have hP : va_P D cls ((o_M a m_length (0 : Int32) (0 : Int32) (0 : Int32) (0 : Int32) m_mode m_feed m_state m_pulses m_last m_shown m_relative m_ending m_time m_pause m_kind m_made m_all m_fromX m_fromY m_wayX m_wayY m_points m_centreX m_centreY m_there m_newMode m_newWay m_newFeed m_ends) :: tl) H := hP
  have hD : va_D A ((o_M a m_length (0 : Int32) (0 : Int32) (0 : Int32) (0 : Int32) m_mode m_feed m_state m_pulses m_last m_shown m_relative m_ending m_time m_pause m_kind m_made m_all m_fromX m_fromY m_wayX m_wayY m_points m_centreX m_centreY m_there m_newMode m_newWay m_newFeed m_ends) :: tl) := hD
  refine lv_aload_n hx hb d_M_begin_20 rfl (lv_at hl 0 rfl) ?_
  refine lv_iconst (v := (0 : Int32)) hx hb d_M_begin_21 (by decide) ?_
  refine u_M_mode hx hb hts hown hK hP hD hS 0 rfl rfl d_M_begin_22 (fun H locs hP hD hS => ?_)
  have hP : va_P D cls ((o_M a m_length (0 : Int32) (0 : Int32) (0 : Int32) (0 : Int32) (0 : Int32) m_feed m_state m_pulses m_last m_shown m_relative m_ending m_time m_pause m_kind m_made m_all m_fromX m_fromY m_wayX m_wayY m_points m_centreX m_centreY m_there m_newMode m_newWay m_newFeed m_ends) :: tl) H := hP
  have hD : va_D A ((o_M a m_length (0 : Int32) (0 : Int32) (0 : Int32) (0 : Int32) (0 : Int32) m_feed m_state m_pulses m_last m_shown m_relative m_ending m_time m_pause m_kind m_made m_all m_fromX m_fromY m_wayX m_wayY m_points m_centreX m_centreY m_there m_newMode m_newWay m_newFeed m_ends) :: tl) := hD
  refine lv_aload_n hx hb d_M_begin_25 rfl (lv_at hl 0 rfl) ?_
  refine lv_iconst (v := (0 : Int32)) hx hb d_M_begin_26 (by decide) ?_
  refine u_M_feed hx hb hts hown hK hP hD hS 0 rfl rfl d_M_begin_27 (fun H locs hP hD hS => ?_)
  have hP : va_P D cls ((o_M a m_length (0 : Int32) (0 : Int32) (0 : Int32) (0 : Int32) (0 : Int32) (0 : Int32) m_state m_pulses m_last m_shown m_relative m_ending m_time m_pause m_kind m_made m_all m_fromX m_fromY m_wayX m_wayY m_points m_centreX m_centreY m_there m_newMode m_newWay m_newFeed m_ends) :: tl) H := hP
  have hD : va_D A ((o_M a m_length (0 : Int32) (0 : Int32) (0 : Int32) (0 : Int32) (0 : Int32) (0 : Int32) m_state m_pulses m_last m_shown m_relative m_ending m_time m_pause m_kind m_made m_all m_fromX m_fromY m_wayX m_wayY m_points m_centreX m_centreY m_there m_newMode m_newWay m_newFeed m_ends) :: tl) := hD
  refine lv_aload_n hx hb d_M_begin_30 rfl (lv_at hl 0 rfl) ?_
  refine lv_iconst (v := (0 : Int32)) hx hb d_M_begin_31 (by decide) ?_
  refine u_M_state hx hb hts hown hK hP hD hS 0 rfl rfl d_M_begin_32 (fun H locs hP hD hS => ?_)
  have hP : va_P D cls ((o_M a m_length (0 : Int32) (0 : Int32) (0 : Int32) (0 : Int32) (0 : Int32) (0 : Int32) (0 : Int32) m_pulses m_last m_shown m_relative m_ending m_time m_pause m_kind m_made m_all m_fromX m_fromY m_wayX m_wayY m_points m_centreX m_centreY m_there m_newMode m_newWay m_newFeed m_ends) :: tl) H := hP
  have hD : va_D A ((o_M a m_length (0 : Int32) (0 : Int32) (0 : Int32) (0 : Int32) (0 : Int32) (0 : Int32) (0 : Int32) m_pulses m_last m_shown m_relative m_ending m_time m_pause m_kind m_made m_all m_fromX m_fromY m_wayX m_wayY m_points m_centreX m_centreY m_there m_newMode m_newWay m_newFeed m_ends) :: tl) := hD
  refine lv_aload_n hx hb d_M_begin_35 rfl (lv_at hl 0 rfl) ?_
  refine lv_iconst (v := (0 : Int32)) hx hb d_M_begin_36 (by decide) ?_
  refine u_M_pulses hx hb hts hown hK hP hD hS 0 rfl rfl d_M_begin_37 (fun H locs hP hD hS => ?_)
  have hP : va_P D cls ((o_M a m_length (0 : Int32) (0 : Int32) (0 : Int32) (0 : Int32) (0 : Int32) (0 : Int32) (0 : Int32) (0 : Int32) m_last m_shown m_relative m_ending m_time m_pause m_kind m_made m_all m_fromX m_fromY m_wayX m_wayY m_points m_centreX m_centreY m_there m_newMode m_newWay m_newFeed m_ends) :: tl) H := hP
  have hD : va_D A ((o_M a m_length (0 : Int32) (0 : Int32) (0 : Int32) (0 : Int32) (0 : Int32) (0 : Int32) (0 : Int32) (0 : Int32) m_last m_shown m_relative m_ending m_time m_pause m_kind m_made m_all m_fromX m_fromY m_wayX m_wayY m_points m_centreX m_centreY m_there m_newMode m_newWay m_newFeed m_ends) :: tl) := hD
  refine lv_aload_n hx hb d_M_begin_40 rfl (lv_at hl 0 rfl) ?_
  refine lv_iconst (v := (4 : Int32)) hx hb d_M_begin_41 (by decide) ?_
  refine u_M_last hx hb hts hown hK hP hD hS 0 rfl rfl d_M_begin_42 (fun H locs hP hD hS => ?_)
  have hP : va_P D cls ((o_M a m_length (0 : Int32) (0 : Int32) (0 : Int32) (0 : Int32) (0 : Int32) (0 : Int32) (0 : Int32) (0 : Int32) (4 : Int32) m_shown m_relative m_ending m_time m_pause m_kind m_made m_all m_fromX m_fromY m_wayX m_wayY m_points m_centreX m_centreY m_there m_newMode m_newWay m_newFeed m_ends) :: tl) H := hP
  have hD : va_D A ((o_M a m_length (0 : Int32) (0 : Int32) (0 : Int32) (0 : Int32) (0 : Int32) (0 : Int32) (0 : Int32) (0 : Int32) (4 : Int32) m_shown m_relative m_ending m_time m_pause m_kind m_made m_all m_fromX m_fromY m_wayX m_wayY m_points m_centreX m_centreY m_there m_newMode m_newWay m_newFeed m_ends) :: tl) := hD
  refine lv_aload_n hx hb d_M_begin_45 rfl (lv_at hl 0 rfl) ?_
  refine lv_iconst (v := (0 : Int32)) hx hb d_M_begin_46 (by decide) ?_
  refine u_M_shown hx hb hts hown hK hP hD hS 0 rfl rfl d_M_begin_47 (fun H locs hP hD hS => ?_)
  have hP : va_P D cls ((o_M a m_length (0 : Int32) (0 : Int32) (0 : Int32) (0 : Int32) (0 : Int32) (0 : Int32) (0 : Int32) (0 : Int32) (4 : Int32) (0 : Int32) m_relative m_ending m_time m_pause m_kind m_made m_all m_fromX m_fromY m_wayX m_wayY m_points m_centreX m_centreY m_there m_newMode m_newWay m_newFeed m_ends) :: tl) H := hP
  have hD : va_D A ((o_M a m_length (0 : Int32) (0 : Int32) (0 : Int32) (0 : Int32) (0 : Int32) (0 : Int32) (0 : Int32) (0 : Int32) (4 : Int32) (0 : Int32) m_relative m_ending m_time m_pause m_kind m_made m_all m_fromX m_fromY m_wayX m_wayY m_points m_centreX m_centreY m_there m_newMode m_newWay m_newFeed m_ends) :: tl) := hD
  refine lv_aload_n hx hb d_M_begin_50 rfl (lv_at hl 0 rfl) ?_
  refine lv_iconst (v := (0 : Int32)) hx hb d_M_begin_51 (by decide) ?_
  refine u_M_relative hx hb hts hown hK hP hD hS 0 rfl rfl (Or.inl rfl) d_M_begin_52 (fun H locs hP hD hS => ?_)
  have hP : va_P D cls ((o_M a m_length (0 : Int32) (0 : Int32) (0 : Int32) (0 : Int32) (0 : Int32) (0 : Int32) (0 : Int32) (0 : Int32) (4 : Int32) (0 : Int32) (0 : Int32) m_ending m_time m_pause m_kind m_made m_all m_fromX m_fromY m_wayX m_wayY m_points m_centreX m_centreY m_there m_newMode m_newWay m_newFeed m_ends) :: tl) H := hP
  have hD : va_D A ((o_M a m_length (0 : Int32) (0 : Int32) (0 : Int32) (0 : Int32) (0 : Int32) (0 : Int32) (0 : Int32) (0 : Int32) (4 : Int32) (0 : Int32) (0 : Int32) m_ending m_time m_pause m_kind m_made m_all m_fromX m_fromY m_wayX m_wayY m_points m_centreX m_centreY m_there m_newMode m_newWay m_newFeed m_ends) :: tl) := hD
  refine lv_aload_n hx hb d_M_begin_55 rfl (lv_at hl 0 rfl) ?_
  refine lv_iconst (v := (0 : Int32)) hx hb d_M_begin_56 (by decide) ?_
  refine u_M_ending hx hb hts hown hK hP hD hS 0 rfl rfl (Or.inl rfl) d_M_begin_57 (fun H locs hP hD hS => ?_)
  have hP : va_P D cls ((o_M a m_length (0 : Int32) (0 : Int32) (0 : Int32) (0 : Int32) (0 : Int32) (0 : Int32) (0 : Int32) (0 : Int32) (4 : Int32) (0 : Int32) (0 : Int32) (0 : Int32) m_time m_pause m_kind m_made m_all m_fromX m_fromY m_wayX m_wayY m_points m_centreX m_centreY m_there m_newMode m_newWay m_newFeed m_ends) :: tl) H := hP
  have hD : va_D A ((o_M a m_length (0 : Int32) (0 : Int32) (0 : Int32) (0 : Int32) (0 : Int32) (0 : Int32) (0 : Int32) (0 : Int32) (4 : Int32) (0 : Int32) (0 : Int32) (0 : Int32) m_time m_pause m_kind m_made m_all m_fromX m_fromY m_wayX m_wayY m_points m_centreX m_centreY m_there m_newMode m_newWay m_newFeed m_ends) :: tl) := hD
  refine lv_aload_n hx hb d_M_begin_60 rfl (lv_at hl 0 rfl) ?_
  refine lv_lconst (v := (0 : Int64)) hx hb d_M_begin_61 (by decide) ?_
  refine u_M_time hx hb hts hown hK hP hD hS 0 rfl rfl d_M_begin_62 (fun H locs hP hD hS => ?_)
  have hP : va_P D cls ((o_M a m_length (0 : Int32) (0 : Int32) (0 : Int32) (0 : Int32) (0 : Int32) (0 : Int32) (0 : Int32) (0 : Int32) (4 : Int32) (0 : Int32) (0 : Int32) (0 : Int32) (0 : Int64) m_pause m_kind m_made m_all m_fromX m_fromY m_wayX m_wayY m_points m_centreX m_centreY m_there m_newMode m_newWay m_newFeed m_ends) :: tl) H := hP
  have hD : va_D A ((o_M a m_length (0 : Int32) (0 : Int32) (0 : Int32) (0 : Int32) (0 : Int32) (0 : Int32) (0 : Int32) (0 : Int32) (4 : Int32) (0 : Int32) (0 : Int32) (0 : Int32) (0 : Int64) m_pause m_kind m_made m_all m_fromX m_fromY m_wayX m_wayY m_points m_centreX m_centreY m_there m_newMode m_newWay m_newFeed m_ends) :: tl) := hD
  refine lv_aload_n hx hb d_M_begin_65 rfl (lv_at hl 0 rfl) ?_
  refine lv_iconst (v := (0 : Int32)) hx hb d_M_begin_66 (by decide) ?_
  refine u_M_made hx hb hts hown hK hP hD hS 0 rfl rfl d_M_begin_67 (fun H locs hP hD hS => ?_)
  have hP : va_P D cls ((o_M a m_length (0 : Int32) (0 : Int32) (0 : Int32) (0 : Int32) (0 : Int32) (0 : Int32) (0 : Int32) (0 : Int32) (4 : Int32) (0 : Int32) (0 : Int32) (0 : Int32) (0 : Int64) m_pause m_kind (0 : Int32) m_all m_fromX m_fromY m_wayX m_wayY m_points m_centreX m_centreY m_there m_newMode m_newWay m_newFeed m_ends) :: tl) H := hP
  have hD : va_D A ((o_M a m_length (0 : Int32) (0 : Int32) (0 : Int32) (0 : Int32) (0 : Int32) (0 : Int32) (0 : Int32) (0 : Int32) (4 : Int32) (0 : Int32) (0 : Int32) (0 : Int32) (0 : Int64) m_pause m_kind (0 : Int32) m_all m_fromX m_fromY m_wayX m_wayY m_points m_centreX m_centreY m_there m_newMode m_newWay m_newFeed m_ends) :: tl) := hD
  refine lv_aload_n hx hb d_M_begin_70 rfl (lv_at hl 0 rfl) ?_
  refine lv_iconst (v := (0 : Int32)) hx hb d_M_begin_71 (by decide) ?_
  refine u_M_all hx hb hts hown hK hP hD hS 0 rfl rfl d_M_begin_72 (fun H locs hP hD hS => ?_)
  have hP : va_P D cls ((o_M a m_length (0 : Int32) (0 : Int32) (0 : Int32) (0 : Int32) (0 : Int32) (0 : Int32) (0 : Int32) (0 : Int32) (4 : Int32) (0 : Int32) (0 : Int32) (0 : Int32) (0 : Int64) m_pause m_kind (0 : Int32) (0 : Int32) m_fromX m_fromY m_wayX m_wayY m_points m_centreX m_centreY m_there m_newMode m_newWay m_newFeed m_ends) :: tl) H := hP
  have hD : va_D A ((o_M a m_length (0 : Int32) (0 : Int32) (0 : Int32) (0 : Int32) (0 : Int32) (0 : Int32) (0 : Int32) (0 : Int32) (4 : Int32) (0 : Int32) (0 : Int32) (0 : Int32) (0 : Int64) m_pause m_kind (0 : Int32) (0 : Int32) m_fromX m_fromY m_wayX m_wayY m_points m_centreX m_centreY m_there m_newMode m_newWay m_newFeed m_ends) :: tl) := hD
  exact hret H locs ls 75 (((0 : Int32), (0 : Int32), (0 : Int32), (0 : Int32), (0 : Int32), (0 : Int32), (0 : Int32), (0 : Int32), (4 : Int32), (0 : Int32), (0 : Int32), (0 : Int32), (0 : Int64), (0 : Int32), (0 : Int32))) d_M_begin_75 hP hD hS hw
def wq_M_feed_53 (Q : Int32 → Int32 → Int32 → Int32 → Int32 → Int32 → Int32 → Int32 → Int32 → Int32 → Int32 → Int32 → Int32 → Int32 → Int64 → Int32 → Int32 → (Nat → Int32) → Prop)  : Nat → Int32 → Int32 → Int32 → Int32 → Int32 → Int32 → Int32 → Int32 → Int32 → Int32 → Int32 → Int32 → Int32 → Int32 → Int32 → Int32 → Int64 → Int32 → Int32 → (Nat → Int32) → Prop
  | 0, _, _, _, _, _, _, _, _, _, _, _, _, _, _, _, _, _, _, _, _ => False
  | n53 + 1, x1, x2, x3, m_length, m_at, m_lines, m_x, m_y, m_mode, m_feed, m_state, m_pulses, m_last, m_shown, m_relative, m_ending, m_time, m_made, m_all, mt => ((x2 ≤ x3 → (wp_M_begin m_at m_lines m_x m_y m_mode m_feed m_state m_pulses m_last m_shown m_relative m_ending m_time m_made m_all (fun m_at_96 m_lines_96 m_x_96 m_y_96 m_mode_96 m_feed_96 m_state_96 m_pulses_96 m_last_96 m_shown_96 m_relative_96 m_ending_96 m_time_96 m_made_96 m_all_96 => (Q x2 (m_length + x2) m_at_96 m_lines_96 m_x_96 m_y_96 m_mode_96 m_feed_96 m_state_96 m_pulses_96 m_last_96 m_shown_96 m_relative_96 m_ending_96 m_time_96 m_made_96 m_all_96 mt)))) ∧ (¬ x2 ≤ x3 → (vp_in (m_length + x3) 400 ∧ (wq_M_feed_53 Q n53 x1 x2 (x3 + (1 : Int32)) m_length m_at m_lines m_x m_y m_mode m_feed m_state m_pulses m_last m_shown m_relative m_ending m_time m_made m_all (upd mt (m_length + x3).toNatClampNeg ((x1 >>> (((8 : Int32) * x3) &&& 31)) &&& (255 : Int32)))))))
def wq_M_feed_31 (Q : Int32 → Int32 → Int32 → Int32 → Int32 → Int32 → Int32 → Int32 → Int32 → Int32 → Int32 → Int32 → Int32 → Int32 → Int64 → Int32 → Int32 → (Nat → Int32) → Prop) (K4 : Int32 → Int32 → Int32 → Int32 → Int32 → Int32 → Int32 → Int32 → Int32 → Int32 → Int32 → Int32 → Int32 → Int32 → Int32 → Int32 → Int64 → Int32 → Int32 → (Nat → Int32) → Prop) (x1 x2 x3 m_length m_at m_lines m_x m_y m_mode m_feed m_state m_pulses m_last m_shown m_relative m_ending : Int32) (m_time : Int64) (m_made m_all : Int32) (mt : Nat → Int32) : Prop := (K4 x1 x2 (x3 + (1 : Int32)) m_length m_at m_lines m_x m_y m_mode m_feed m_state m_pulses m_last m_shown m_relative m_ending m_time m_made m_all mt)
def wq_M_feed_4 (Q : Int32 → Int32 → Int32 → Int32 → Int32 → Int32 → Int32 → Int32 → Int32 → Int32 → Int32 → Int32 → Int32 → Int32 → Int64 → Int32 → Int32 → (Nat → Int32) → Prop)  : Nat → Int32 → Int32 → Int32 → Int32 → Int32 → Int32 → Int32 → Int32 → Int32 → Int32 → Int32 → Int32 → Int32 → Int32 → Int32 → Int32 → Int64 → Int32 → Int32 → (Nat → Int32) → Prop
  | 0, _, _, _, _, _, _, _, _, _, _, _, _, _, _, _, _, _, _, _, _ => False
  | n4 + 1, x1, x2, x3, m_length, m_at, m_lines, m_x, m_y, m_mode, m_feed, m_state, m_pulses, m_last, m_shown, m_relative, m_ending, m_time, m_made, m_all, mt => (((4 : Int32) ≤ x3 → (((m_length + x2) ≤ (400 : Int32) → (∃ n53 : Nat, wq_M_feed_53 Q n53 x1 x2 (0 : Int32) m_length m_at m_lines m_x m_y m_mode m_feed m_state m_pulses m_last m_shown m_relative m_ending m_time m_made m_all mt)) ∧ (¬ (m_length + x2) ≤ (400 : Int32) → (Q (-1 : Int32) m_length m_at m_lines m_x m_y m_mode m_feed m_state m_pulses m_last m_shown m_relative m_ending m_time m_made m_all mt)))) ∧ (¬ (4 : Int32) ≤ x3 → ((¬ x2 = x3 → (wq_M_feed_31 Q (fun x1 x2 x3 m_length m_at m_lines m_x m_y m_mode m_feed m_state m_pulses m_last m_shown m_relative m_ending m_time m_made m_all mt => wq_M_feed_4 Q n4 x1 x2 x3 m_length m_at m_lines m_x m_y m_mode m_feed m_state m_pulses m_last m_shown m_relative m_ending m_time m_made m_all mt) x1 x2 x3 m_length m_at m_lines m_x m_y m_mode m_feed m_state m_pulses m_last m_shown m_relative m_ending m_time m_made m_all mt)) ∧ (x2 = x3 → ((((x1 >>> (((8 : Int32) * x3) &&& 31)) &&& (255 : Int32)) = 0 → (wq_M_feed_31 Q (fun x1 x2 x3 m_length m_at m_lines m_x m_y m_mode m_feed m_state m_pulses m_last m_shown m_relative m_ending m_time m_made m_all mt => wq_M_feed_4 Q n4 x1 x2 x3 m_length m_at m_lines m_x m_y m_mode m_feed m_state m_pulses m_last m_shown m_relative m_ending m_time m_made m_all mt) x1 x2 x3 m_length m_at m_lines m_x m_y m_mode m_feed m_state m_pulses m_last m_shown m_relative m_ending m_time m_made m_all mt)) ∧ (¬ ((x1 >>> (((8 : Int32) * x3) &&& 31)) &&& (255 : Int32)) = 0 → (wq_M_feed_31 Q (fun x1 x2 x3 m_length m_at m_lines m_x m_y m_mode m_feed m_state m_pulses m_last m_shown m_relative m_ending m_time m_made m_all mt => wq_M_feed_4 Q n4 x1 x2 x3 m_length m_at m_lines m_x m_y m_mode m_feed m_state m_pulses m_last m_shown m_relative m_ending m_time m_made m_all mt) x1 (x2 + (1 : Int32)) x3 m_length m_at m_lines m_x m_y m_mode m_feed m_state m_pulses m_last m_shown m_relative m_ending m_time m_made m_all mt)))))))
def wp_M_feed (x1 m_length m_at m_lines m_x m_y m_mode m_feed m_state m_pulses m_last m_shown m_relative m_ending : Int32) (m_time : Int64) (m_made m_all : Int32) (mt : Nat → Int32) (Q : Int32 → Int32 → Int32 → Int32 → Int32 → Int32 → Int32 → Int32 → Int32 → Int32 → Int32 → Int32 → Int32 → Int32 → Int64 → Int32 → Int32 → (Nat → Int32) → Prop) : Prop := (∃ n4 : Nat, wq_M_feed_4 Q n4 x1 (0 : Int32) (0 : Int32) m_length m_at m_lines m_x m_y m_mode m_feed m_state m_pulses m_last m_shown m_relative m_ending m_time m_made m_all mt)
abbrev rm_M_feed : Room := { frames := 1, cells := 0, slots := 0, locals := 20 }
set_option maxRecDepth 100000 in
set_option maxHeartbeats 4000000 in
theorem c_M_feed (l : Launch) {D : va_G} {X : xT} {a : Nat → Nat} {K : Nat → ClassId} {tl : va_W} {x1 m_length m_at m_lines m_x m_y m_mode m_feed m_state m_pulses m_last m_shown m_relative m_ending : Int32} {m_time m_pause : Int64} {m_kind m_made m_all m_fromX m_fromY m_wayX m_wayY m_points m_centreX m_centreY m_there m_newMode m_newWay m_newFeed m_ends : Int32} {mt : Nat → Int32} {Q : Int32 → Int32 → Int32 → Int32 → Int32 → Int32 → Int32 → Int32 → Int32 → Int32 → Int32 → Int32 → Int32 → Int32 → Int64 → Int32 → Int32 → (Nat → Int32) → Prop} : MI l y_M_feed b_M_feed 4 rm_M_feed D cls (tys K) X [.ref (a 10), .int x1] ((o_M a m_length m_at m_lines m_x m_y m_mode m_feed m_state m_pulses m_last m_shown m_relative m_ending m_time m_pause m_kind m_made m_all m_fromX m_fromY m_wayX m_wayY m_points m_centreX m_centreY m_there m_newMode m_newWay m_newFeed m_ends) :: (o_mt a K mt) :: tl) (fun u : Int32 × Int32 × Int32 × Int32 × Int32 × Int32 × Int32 × Int32 × Int32 × Int32 × Int32 × Int32 × Int32 × Int64 × Int32 × Int32 × (Nat → Int32) => (o_M a u.1 u.2.1 u.2.2.1 u.2.2.2.1 u.2.2.2.2.1 u.2.2.2.2.2.1 u.2.2.2.2.2.2.1 u.2.2.2.2.2.2.2.1 u.2.2.2.2.2.2.2.2.1 u.2.2.2.2.2.2.2.2.2.1 u.2.2.2.2.2.2.2.2.2.2.1 u.2.2.2.2.2.2.2.2.2.2.2.1 u.2.2.2.2.2.2.2.2.2.2.2.2.1 u.2.2.2.2.2.2.2.2.2.2.2.2.2.1 m_pause m_kind u.2.2.2.2.2.2.2.2.2.2.2.2.2.2.1 u.2.2.2.2.2.2.2.2.2.2.2.2.2.2.2.1 m_fromX m_fromY m_wayX m_wayY m_points m_centreX m_centreY m_there m_newMode m_newWay m_newFeed m_ends) :: (o_mt a K u.2.2.2.2.2.2.2.2.2.2.2.2.2.2.2.2) :: tl) (wp_M_feed x1 m_length m_at m_lines m_x m_y m_mode m_feed m_state m_pulses m_last m_shown m_relative m_ending m_time m_made m_all mt Q) (fun r u => Q r u.1 u.2.1 u.2.2.1 u.2.2.2.1 u.2.2.2.2.1 u.2.2.2.2.2.1 u.2.2.2.2.2.2.1 u.2.2.2.2.2.2.2.1 u.2.2.2.2.2.2.2.2.1 u.2.2.2.2.2.2.2.2.2.1 u.2.2.2.2.2.2.2.2.2.2.1 u.2.2.2.2.2.2.2.2.2.2.2.1 u.2.2.2.2.2.2.2.2.2.2.2.2.1 u.2.2.2.2.2.2.2.2.2.2.2.2.2.1 u.2.2.2.2.2.2.2.2.2.2.2.2.2.2.1 u.2.2.2.2.2.2.2.2.2.2.2.2.2.2.2.1 u.2.2.2.2.2.2.2.2.2.2.2.2.2.2.2.2) := by
  refine my_of_I (by decide +kernel) (Nat.le_of_ble_eq_true rfl) (fun p e s m args below meth c A QQ H locs ls hx hb hts hown hml hK hX hA hP hD hS hl hw hret => ?_)
  replace hl : lv_has ls 4 [(0, .ref (a 10)), (1, .int x1)] := hl
  have J53 : ∀ (n53 : Nat) (H : Heap) (locs : List Loc) (ls : Array Slot) (x1 x2 x3 m_length m_at m_lines m_x m_y m_mode m_feed m_state m_pulses m_last m_shown m_relative m_ending : Int32) (m_time : Int64) (m_made m_all : Int32) (mt : Nat → Int32), va_P D cls ((o_M a m_length m_at m_lines m_x m_y m_mode m_feed m_state m_pulses m_last m_shown m_relative m_ending m_time m_pause m_kind m_made m_all m_fromX m_fromY m_wayX m_wayY m_points m_centreX m_centreY m_there m_newMode m_newWay m_newFeed m_ends) :: (o_mt a K mt) :: tl) H → va_D A ((o_M a m_length m_at m_lines m_x m_y m_mode m_feed m_state m_pulses m_last m_shown m_relative m_ending m_time m_pause m_kind m_made m_all m_fromX m_fromY m_wayX m_wayY m_points m_centreX m_centreY m_there m_newMode m_newWay m_newFeed m_ends) :: (o_mt a K mt) :: tl) → va_S A s.heap H locs → lv_has ls 4 [(0, .ref (a 10)), (1, .int x1), (2, .int x2), (3, .int x3)] → wq_M_feed_53 Q n53 x1 x2 x3 m_length m_at m_lines m_x m_y m_mode m_feed m_state m_pulses m_last m_shown m_relative m_ending m_time m_made m_all mt → W p l e rm_M_feed s m args below meth c H locs 0 0 QQ (F0 m 53 ls []) := by
    intro n53
    induction n53 with
    | zero => intro H locs ls x1 x2 x3 m_length m_at m_lines m_x m_y m_mode m_feed m_state m_pulses m_last m_shown m_relative m_ending m_time m_made m_all mt hP hD hS hl hw; exact False.elim hw
    | succ n53 ih =>
      intro H locs ls x1 x2 x3 m_length m_at m_lines m_x m_y m_mode m_feed m_state m_pulses m_last m_shown m_relative m_ending m_time m_made m_all mt hP hD hS hl hw
      unfold wq_M_feed_53 at hw
      refine lv_iload_n hx hb d_M_feed_53 rfl (lv_at hl 3 rfl) ?_
      refine lv_iload_n hx hb d_M_feed_54 rfl (lv_at hl 2 rfl) ?_
      refine lv_icmp_ge (tgt := 85) hx hb d_M_feed_55 (by decide) (fun hc => ?_) (fun hc => ?_)
      · replace hw := hw.1 hc
        refine lv_aload_n hx hb d_M_feed_85 rfl (lv_at hl 0 rfl) ?_
        refine lv_aload_n hx hb d_M_feed_86 rfl (lv_at hl 0 rfl) ?_
        refine g_M_length hx hb hts hown hK hP 0 rfl rfl d_M_feed_87 ?_
        refine lv_iload_n hx hb d_M_feed_90 rfl (lv_at hl 2 rfl) ?_
        refine lv_iadd hx hb d_M_feed_91 ?_
        refine u_M_length hx hb hts hown hK hP hD hS 0 rfl rfl d_M_feed_92 (fun H locs hP hD hS => ?_)
        have hP : va_P D cls ((o_M a (m_length + x2) m_at m_lines m_x m_y m_mode m_feed m_state m_pulses m_last m_shown m_relative m_ending m_time m_pause m_kind m_made m_all m_fromX m_fromY m_wayX m_wayY m_points m_centreX m_centreY m_there m_newMode m_newWay m_newFeed m_ends) :: (o_mt a K mt) :: tl) H := hP
        have hD : va_D A ((o_M a (m_length + x2) m_at m_lines m_x m_y m_mode m_feed m_state m_pulses m_last m_shown m_relative m_ending m_time m_pause m_kind m_made m_all m_fromX m_fromY m_wayX m_wayY m_points m_centreX m_centreY m_there m_newMode m_newWay m_newFeed m_ends) :: (o_mt a K mt) :: tl) := hD
        refine lv_aload_n hx hb d_M_feed_95 rfl (lv_at hl 0 rfl) ?_
        refine my_callv (va_runV (As := []) (rest := []) ⟨hx, hb, hml, hown, hts⟩ (c_M_begin l H.size) (cw_M_22 hts ⟨Nat.le_of_ble_eq_true rfl, Nat.le_of_ble_eq_true rfl⟩) (my_preV hK hP hX hD hS hA 0 rfl rfl hw) rfl rfl hl.1 rfl (lv_room (Nat.le_of_ble_eq_true rfl)) d_M_feed_96 ⟨Nat.le_refl _, Nat.le_refl _⟩) hD hS hA (fun u H locs hw hP hD hS => ?_)
        obtain ⟨m_at_96, m_lines_96, m_x_96, m_y_96, m_mode_96, m_feed_96, m_state_96, m_pulses_96, m_last_96, m_shown_96, m_relative_96, m_ending_96, m_time_96, m_made_96, m_all_96⟩ := u
        dsimp only at hw
        have hP : va_P D cls ((o_M a (m_length + x2) m_at_96 m_lines_96 m_x_96 m_y_96 m_mode_96 m_feed_96 m_state_96 m_pulses_96 m_last_96 m_shown_96 m_relative_96 m_ending_96 m_time_96 m_pause m_kind m_made_96 m_all_96 m_fromX m_fromY m_wayX m_wayY m_points m_centreX m_centreY m_there m_newMode m_newWay m_newFeed m_ends) :: (o_mt a K mt) :: tl) H := hP
        have hD : va_D A ((o_M a (m_length + x2) m_at_96 m_lines_96 m_x_96 m_y_96 m_mode_96 m_feed_96 m_state_96 m_pulses_96 m_last_96 m_shown_96 m_relative_96 m_ending_96 m_time_96 m_pause m_kind m_made_96 m_all_96 m_fromX m_fromY m_wayX m_wayY m_points m_centreX m_centreY m_there m_newMode m_newWay m_newFeed m_ends) :: (o_mt a K mt) :: tl) := hD
        refine lv_iload_n hx hb d_M_feed_99 rfl (lv_at hl 2 rfl) ?_
        exact hret H locs ls 100 (x2) ((m_length + x2, m_at_96, m_lines_96, m_x_96, m_y_96, m_mode_96, m_feed_96, m_state_96, m_pulses_96, m_last_96, m_shown_96, m_relative_96, m_ending_96, m_time_96, m_made_96, m_all_96, mt)) d_M_feed_100 hP hD hS hw
      · replace hw := hw.2 hc
        refine lv_aload_n hx hb d_M_feed_58 rfl (lv_at hl 0 rfl) ?_
        refine g_M_text hx hb hts hown hK hP 0 rfl rfl d_M_feed_59 ?_
        refine lv_aload_n hx hb d_M_feed_62 rfl (lv_at hl 0 rfl) ?_
        refine g_M_length hx hb hts hown hK hP 0 rfl rfl d_M_feed_63 ?_
        refine lv_iload_n hx hb d_M_feed_66 rfl (lv_at hl 3 rfl) ?_
        refine lv_iadd hx hb d_M_feed_67 ?_
        refine lv_iload_n hx hb d_M_feed_68 rfl (lv_at hl 1 rfl) ?_
        refine lv_bipush (v := (8 : Int32)) hx hb d_M_feed_69 (by decide) ?_
        refine lv_iload_n hx hb d_M_feed_71 rfl (lv_at hl 3 rfl) ?_
        refine lv_imul hx hb d_M_feed_72 ?_
        refine lv_ishr hx hb d_M_feed_73 ?_
        refine lv_sipush (v := (255 : Int32)) hx hb d_M_feed_74 (by decide) ?_
        refine lv_iand hx hb d_M_feed_77 ?_
        refine va_iast hx hb hK hP hD hS 1 5 rfl rfl hw.1 d_M_feed_78 (fun H locs hP hD hS => ?_)
        replace hw := hw.2
        have hP : va_P D cls ((o_M a m_length m_at m_lines m_x m_y m_mode m_feed m_state m_pulses m_last m_shown m_relative m_ending m_time m_pause m_kind m_made m_all m_fromX m_fromY m_wayX m_wayY m_points m_centreX m_centreY m_there m_newMode m_newWay m_newFeed m_ends) :: (o_mt a K (upd mt (m_length + x3).toNatClampNeg ((x1 >>> (((8 : Int32) * x3) &&& 31)) &&& (255 : Int32)))) :: tl) H := hP
        have hD : va_D A ((o_M a m_length m_at m_lines m_x m_y m_mode m_feed m_state m_pulses m_last m_shown m_relative m_ending m_time m_pause m_kind m_made m_all m_fromX m_fromY m_wayX m_wayY m_points m_centreX m_centreY m_there m_newMode m_newWay m_newFeed m_ends) :: (o_mt a K (upd mt (m_length + x3).toNatClampNeg ((x1 >>> (((8 : Int32) * x3) &&& 31)) &&& (255 : Int32)))) :: tl) := hD
        refine lv_iinc (k := 3) (v := x3 + (1 : Int32)) (lv' := [(3, .int (x3 + (1 : Int32))), (0, .ref (a 10)), (1, .int x1), (2, .int x2)]) hx hb d_M_feed_79 hl rfl (iinc_1 _) (Nat.le_of_ble_eq_true rfl) rfl (fun ls hl => ?_)
        refine lv_goto (tgt := 53) hx hb d_M_feed_82 (by decide) ?_
        exact ih H locs ls x1 x2 (x3 + (1 : Int32)) m_length m_at m_lines m_x m_y m_mode m_feed m_state m_pulses m_last m_shown m_relative m_ending m_time m_made m_all (upd mt (m_length + x3).toNatClampNeg ((x1 >>> (((8 : Int32) * x3) &&& 31)) &&& (255 : Int32))) hP hD hS (lv_sub hl [1, 2, 3, 0] rfl) hw
  have J31 : ∀ (K4 : Int32 → Int32 → Int32 → Int32 → Int32 → Int32 → Int32 → Int32 → Int32 → Int32 → Int32 → Int32 → Int32 → Int32 → Int32 → Int32 → Int64 → Int32 → Int32 → (Nat → Int32) → Prop) (hK4 : ∀ (H : Heap) (locs : List Loc) (ls : Array Slot) (x1 x2 x3 m_length m_at m_lines m_x m_y m_mode m_feed m_state m_pulses m_last m_shown m_relative m_ending : Int32) (m_time : Int64) (m_made m_all : Int32) (mt : Nat → Int32), va_P D cls ((o_M a m_length m_at m_lines m_x m_y m_mode m_feed m_state m_pulses m_last m_shown m_relative m_ending m_time m_pause m_kind m_made m_all m_fromX m_fromY m_wayX m_wayY m_points m_centreX m_centreY m_there m_newMode m_newWay m_newFeed m_ends) :: (o_mt a K mt) :: tl) H → va_D A ((o_M a m_length m_at m_lines m_x m_y m_mode m_feed m_state m_pulses m_last m_shown m_relative m_ending m_time m_pause m_kind m_made m_all m_fromX m_fromY m_wayX m_wayY m_points m_centreX m_centreY m_there m_newMode m_newWay m_newFeed m_ends) :: (o_mt a K mt) :: tl) → va_S A s.heap H locs → lv_has ls 4 [(0, .ref (a 10)), (1, .int x1), (2, .int x2), (3, .int x3)] → K4 x1 x2 x3 m_length m_at m_lines m_x m_y m_mode m_feed m_state m_pulses m_last m_shown m_relative m_ending m_time m_made m_all mt → W p l e rm_M_feed s m args below meth c H locs 0 0 QQ (F0 m 4 ls [])) (H : Heap) (locs : List Loc) (ls : Array Slot) (x1 x2 x3 m_length m_at m_lines m_x m_y m_mode m_feed m_state m_pulses m_last m_shown m_relative m_ending : Int32) (m_time : Int64) (m_made m_all : Int32) (mt : Nat → Int32), va_P D cls ((o_M a m_length m_at m_lines m_x m_y m_mode m_feed m_state m_pulses m_last m_shown m_relative m_ending m_time m_pause m_kind m_made m_all m_fromX m_fromY m_wayX m_wayY m_points m_centreX m_centreY m_there m_newMode m_newWay m_newFeed m_ends) :: (o_mt a K mt) :: tl) H → va_D A ((o_M a m_length m_at m_lines m_x m_y m_mode m_feed m_state m_pulses m_last m_shown m_relative m_ending m_time m_pause m_kind m_made m_all m_fromX m_fromY m_wayX m_wayY m_points m_centreX m_centreY m_there m_newMode m_newWay m_newFeed m_ends) :: (o_mt a K mt) :: tl) → va_S A s.heap H locs → lv_has ls 4 [(0, .ref (a 10)), (1, .int x1), (2, .int x2), (3, .int x3)] → wq_M_feed_31 Q K4 x1 x2 x3 m_length m_at m_lines m_x m_y m_mode m_feed m_state m_pulses m_last m_shown m_relative m_ending m_time m_made m_all mt → W p l e rm_M_feed s m args below meth c H locs 0 0 QQ (F0 m 31 ls []) := by
    intro K4 hK4 H locs ls x1 x2 x3 m_length m_at m_lines m_x m_y m_mode m_feed m_state m_pulses m_last m_shown m_relative m_ending m_time m_made m_all mt hP hD hS hl hw
    unfold wq_M_feed_31 at hw
    refine lv_iinc (k := 3) (v := x3 + (1 : Int32)) (lv' := [(3, .int (x3 + (1 : Int32))), (0, .ref (a 10)), (1, .int x1), (2, .int x2)]) hx hb d_M_feed_31 hl rfl (iinc_1 _) (Nat.le_of_ble_eq_true rfl) rfl (fun ls hl => ?_)
    refine lv_goto (tgt := 4) hx hb d_M_feed_34 (by decide) ?_
    exact hK4 H locs ls x1 x2 (x3 + (1 : Int32)) m_length m_at m_lines m_x m_y m_mode m_feed m_state m_pulses m_last m_shown m_relative m_ending m_time m_made m_all mt hP hD hS (lv_sub hl [1, 2, 3, 0] rfl) hw
  have J4 : ∀ (n4 : Nat) (H : Heap) (locs : List Loc) (ls : Array Slot) (x1 x2 x3 m_length m_at m_lines m_x m_y m_mode m_feed m_state m_pulses m_last m_shown m_relative m_ending : Int32) (m_time : Int64) (m_made m_all : Int32) (mt : Nat → Int32), va_P D cls ((o_M a m_length m_at m_lines m_x m_y m_mode m_feed m_state m_pulses m_last m_shown m_relative m_ending m_time m_pause m_kind m_made m_all m_fromX m_fromY m_wayX m_wayY m_points m_centreX m_centreY m_there m_newMode m_newWay m_newFeed m_ends) :: (o_mt a K mt) :: tl) H → va_D A ((o_M a m_length m_at m_lines m_x m_y m_mode m_feed m_state m_pulses m_last m_shown m_relative m_ending m_time m_pause m_kind m_made m_all m_fromX m_fromY m_wayX m_wayY m_points m_centreX m_centreY m_there m_newMode m_newWay m_newFeed m_ends) :: (o_mt a K mt) :: tl) → va_S A s.heap H locs → lv_has ls 4 [(0, .ref (a 10)), (1, .int x1), (2, .int x2), (3, .int x3)] → wq_M_feed_4 Q n4 x1 x2 x3 m_length m_at m_lines m_x m_y m_mode m_feed m_state m_pulses m_last m_shown m_relative m_ending m_time m_made m_all mt → W p l e rm_M_feed s m args below meth c H locs 0 0 QQ (F0 m 4 ls []) := by
    intro n4
    induction n4 with
    | zero => intro H locs ls x1 x2 x3 m_length m_at m_lines m_x m_y m_mode m_feed m_state m_pulses m_last m_shown m_relative m_ending m_time m_made m_all mt hP hD hS hl hw; exact False.elim hw
    | succ n4 ih =>
      intro H locs ls x1 x2 x3 m_length m_at m_lines m_x m_y m_mode m_feed m_state m_pulses m_last m_shown m_relative m_ending m_time m_made m_all mt hP hD hS hl hw
      unfold wq_M_feed_4 at hw
      refine lv_iload_n hx hb d_M_feed_4 rfl (lv_at hl 3 rfl) ?_
      refine lv_iconst (v := (4 : Int32)) hx hb d_M_feed_5 (by decide) ?_
      refine lv_icmp_ge (tgt := 37) hx hb d_M_feed_6 (by decide) (fun hc => ?_) (fun hc => ?_)
      · replace hw := hw.1 hc
        refine lv_aload_n hx hb d_M_feed_37 rfl (lv_at hl 0 rfl) ?_
        refine g_M_length hx hb hts hown hK hP 0 rfl rfl d_M_feed_38 ?_
        refine lv_iload_n hx hb d_M_feed_41 rfl (lv_at hl 2 rfl) ?_
        refine lv_iadd hx hb d_M_feed_42 ?_
        refine lv_sipush (v := (400 : Int32)) hx hb d_M_feed_43 (by decide) ?_
        refine lv_icmp_le (tgt := 51) hx hb d_M_feed_46 (by decide) (fun hc => ?_) (fun hc => ?_)
        · replace hw := hw.1 hc
          refine lv_iconst (v := (0 : Int32)) hx hb d_M_feed_51 (by decide) ?_
          refine lv_istore_n (lv' := [(3, .int (0 : Int32)), (0, .ref (a 10)), (1, .int x1), (2, .int x2)]) hx hb d_M_feed_52 rfl hl (Nat.le_of_ble_eq_true rfl) rfl (fun ls hl => ?_)
          obtain ⟨n53, hw⟩ := hw
          exact J53 n53 H locs ls x1 x2 (0 : Int32) m_length m_at m_lines m_x m_y m_mode m_feed m_state m_pulses m_last m_shown m_relative m_ending m_time m_made m_all mt hP hD hS (lv_sub hl [1, 2, 3, 0] rfl) hw
        · replace hw := hw.2 hc
          refine lv_iconst (v := (-1 : Int32)) hx hb d_M_feed_49 (by decide) ?_
          exact hret H locs ls 50 ((-1 : Int32)) ((m_length, m_at, m_lines, m_x, m_y, m_mode, m_feed, m_state, m_pulses, m_last, m_shown, m_relative, m_ending, m_time, m_made, m_all, mt)) d_M_feed_50 hP hD hS hw
      · replace hw := hw.2 hc
        refine lv_iload_n hx hb d_M_feed_9 rfl (lv_at hl 2 rfl) ?_
        refine lv_iload_n hx hb d_M_feed_10 rfl (lv_at hl 3 rfl) ?_
        refine lv_icmp_ne (tgt := 31) hx hb d_M_feed_11 (by decide) (fun hc => ?_) (fun hc => ?_)
        · replace hw := hw.1 hc
          exact J31 (fun x1 x2 x3 m_length m_at m_lines m_x m_y m_mode m_feed m_state m_pulses m_last m_shown m_relative m_ending m_time m_made m_all mt => wq_M_feed_4 Q n4 x1 x2 x3 m_length m_at m_lines m_x m_y m_mode m_feed m_state m_pulses m_last m_shown m_relative m_ending m_time m_made m_all mt) ih H locs ls x1 x2 x3 m_length m_at m_lines m_x m_y m_mode m_feed m_state m_pulses m_last m_shown m_relative m_ending m_time m_made m_all mt hP hD hS (lv_sub hl [0, 1, 2, 3] rfl) hw
        · replace hw := hw.2 hc
          refine lv_iload_n hx hb d_M_feed_14 rfl (lv_at hl 1 rfl) ?_
          refine lv_bipush (v := (8 : Int32)) hx hb d_M_feed_15 (by decide) ?_
          refine lv_iload_n hx hb d_M_feed_17 rfl (lv_at hl 3 rfl) ?_
          refine lv_imul hx hb d_M_feed_18 ?_
          refine lv_ishr hx hb d_M_feed_19 ?_
          refine lv_sipush (v := (255 : Int32)) hx hb d_M_feed_20 (by decide) ?_
          refine lv_iand hx hb d_M_feed_23 ?_
          refine lv_if_eq (tgt := 31) hx hb d_M_feed_24 (by decide) (fun hc => ?_) (fun hc => ?_)
          · replace hw := hw.1 hc
            exact J31 (fun x1 x2 x3 m_length m_at m_lines m_x m_y m_mode m_feed m_state m_pulses m_last m_shown m_relative m_ending m_time m_made m_all mt => wq_M_feed_4 Q n4 x1 x2 x3 m_length m_at m_lines m_x m_y m_mode m_feed m_state m_pulses m_last m_shown m_relative m_ending m_time m_made m_all mt) ih H locs ls x1 x2 x3 m_length m_at m_lines m_x m_y m_mode m_feed m_state m_pulses m_last m_shown m_relative m_ending m_time m_made m_all mt hP hD hS (lv_sub hl [0, 1, 2, 3] rfl) hw
          · replace hw := hw.2 hc
            refine lv_iload_n hx hb d_M_feed_27 rfl (lv_at hl 2 rfl) ?_
            refine lv_iconst (v := (1 : Int32)) hx hb d_M_feed_28 (by decide) ?_
            refine lv_iadd hx hb d_M_feed_29 ?_
            refine lv_istore_n (lv' := [(2, .int (x2 + (1 : Int32))), (0, .ref (a 10)), (1, .int x1), (3, .int x3)]) hx hb d_M_feed_30 rfl hl (Nat.le_of_ble_eq_true rfl) rfl (fun ls hl => ?_)
            exact J31 (fun x1 x2 x3 m_length m_at m_lines m_x m_y m_mode m_feed m_state m_pulses m_last m_shown m_relative m_ending m_time m_made m_all mt => wq_M_feed_4 Q n4 x1 x2 x3 m_length m_at m_lines m_x m_y m_mode m_feed m_state m_pulses m_last m_shown m_relative m_ending m_time m_made m_all mt) ih H locs ls x1 (x2 + (1 : Int32)) x3 m_length m_at m_lines m_x m_y m_mode m_feed m_state m_pulses m_last m_shown m_relative m_ending m_time m_made m_all mt hP hD hS (lv_sub hl [1, 2, 0, 3] rfl) hw
  unfold wp_M_feed at hw
  refine lv_iconst (v := (0 : Int32)) hx hb d_M_feed_0 (by decide) ?_
  refine lv_istore_n (lv' := [(2, .int (0 : Int32)), (0, .ref (a 10)), (1, .int x1)]) hx hb d_M_feed_1 rfl hl (Nat.le_of_ble_eq_true rfl) rfl (fun ls hl => ?_)
  refine lv_iconst (v := (0 : Int32)) hx hb d_M_feed_2 (by decide) ?_
  refine lv_istore_n (lv' := [(3, .int (0 : Int32)), (2, .int (0 : Int32)), (0, .ref (a 10)), (1, .int x1)]) hx hb d_M_feed_3 rfl hl (Nat.le_of_ble_eq_true rfl) rfl (fun ls hl => ?_)
  obtain ⟨n4, hw⟩ := hw
  exact J4 n4 H locs ls x1 (0 : Int32) (0 : Int32) m_length m_at m_lines m_x m_y m_mode m_feed m_state m_pulses m_last m_shown m_relative m_ending m_time m_made m_all mt hP hD hS (lv_sub hl [2, 3, 1, 0] rfl) hw
def wp_M_clear (m_length m_at m_lines m_x m_y m_mode m_feed m_state m_pulses m_last m_shown m_relative m_ending : Int32) (m_time : Int64) (m_made m_all : Int32) (Q : Int32 → Int32 → Int32 → Int32 → Int32 → Int32 → Int32 → Int32 → Int32 → Int32 → Int32 → Int32 → Int32 → Int64 → Int32 → Int32 → Prop) : Prop := (wp_M_begin m_at m_lines m_x m_y m_mode m_feed m_state m_pulses m_last m_shown m_relative m_ending m_time m_made m_all (fun m_at_6 m_lines_6 m_x_6 m_y_6 m_mode_6 m_feed_6 m_state_6 m_pulses_6 m_last_6 m_shown_6 m_relative_6 m_ending_6 m_time_6 m_made_6 m_all_6 => (Q (0 : Int32) m_at_6 m_lines_6 m_x_6 m_y_6 m_mode_6 m_feed_6 m_state_6 m_pulses_6 m_last_6 m_shown_6 m_relative_6 m_ending_6 m_time_6 m_made_6 m_all_6)))
abbrev rm_M_clear : Room := { frames := 1, cells := 0, slots := 0, locals := 20 }
set_option maxRecDepth 100000 in
set_option maxHeartbeats 4000000 in
theorem c_M_clear (l : Launch) {D : va_G} {X : xT} {a : Nat → Nat} {K : Nat → ClassId} {tl : va_W} {m_length m_at m_lines m_x m_y m_mode m_feed m_state m_pulses m_last m_shown m_relative m_ending : Int32} {m_time m_pause : Int64} {m_kind m_made m_all m_fromX m_fromY m_wayX m_wayY m_points m_centreX m_centreY m_there m_newMode m_newWay m_newFeed m_ends : Int32} {Q : Int32 → Int32 → Int32 → Int32 → Int32 → Int32 → Int32 → Int32 → Int32 → Int32 → Int32 → Int32 → Int32 → Int64 → Int32 → Int32 → Prop} : MV l y_M_clear b_M_clear 1 rm_M_clear D cls (tys K) X [.ref (a 10)] ((o_M a m_length m_at m_lines m_x m_y m_mode m_feed m_state m_pulses m_last m_shown m_relative m_ending m_time m_pause m_kind m_made m_all m_fromX m_fromY m_wayX m_wayY m_points m_centreX m_centreY m_there m_newMode m_newWay m_newFeed m_ends) :: tl) (fun u : Int32 × Int32 × Int32 × Int32 × Int32 × Int32 × Int32 × Int32 × Int32 × Int32 × Int32 × Int32 × Int32 × Int64 × Int32 × Int32 => (o_M a u.1 u.2.1 u.2.2.1 u.2.2.2.1 u.2.2.2.2.1 u.2.2.2.2.2.1 u.2.2.2.2.2.2.1 u.2.2.2.2.2.2.2.1 u.2.2.2.2.2.2.2.2.1 u.2.2.2.2.2.2.2.2.2.1 u.2.2.2.2.2.2.2.2.2.2.1 u.2.2.2.2.2.2.2.2.2.2.2.1 u.2.2.2.2.2.2.2.2.2.2.2.2.1 u.2.2.2.2.2.2.2.2.2.2.2.2.2.1 m_pause m_kind u.2.2.2.2.2.2.2.2.2.2.2.2.2.2.1 u.2.2.2.2.2.2.2.2.2.2.2.2.2.2.2 m_fromX m_fromY m_wayX m_wayY m_points m_centreX m_centreY m_there m_newMode m_newWay m_newFeed m_ends) :: tl) (wp_M_clear m_length m_at m_lines m_x m_y m_mode m_feed m_state m_pulses m_last m_shown m_relative m_ending m_time m_made m_all Q) (fun u => Q u.1 u.2.1 u.2.2.1 u.2.2.2.1 u.2.2.2.2.1 u.2.2.2.2.2.1 u.2.2.2.2.2.2.1 u.2.2.2.2.2.2.2.1 u.2.2.2.2.2.2.2.2.1 u.2.2.2.2.2.2.2.2.2.1 u.2.2.2.2.2.2.2.2.2.2.1 u.2.2.2.2.2.2.2.2.2.2.2.1 u.2.2.2.2.2.2.2.2.2.2.2.2.1 u.2.2.2.2.2.2.2.2.2.2.2.2.2.1 u.2.2.2.2.2.2.2.2.2.2.2.2.2.2.1 u.2.2.2.2.2.2.2.2.2.2.2.2.2.2.2) := by
  refine my_of_V (by decide +kernel) (Nat.le_of_ble_eq_true rfl) (fun p e s m args below meth c A QQ H locs ls hx hb hts hown hml hK hX hA hP hD hS hl hw hret => ?_)
  replace hl : lv_has ls 1 [(0, .ref (a 10))] := hl
  unfold wp_M_clear at hw
  refine lv_aload_n hx hb d_M_clear_0 rfl (lv_at hl 0 rfl) ?_
  refine lv_iconst (v := (0 : Int32)) hx hb d_M_clear_1 (by decide) ?_
  refine u_M_length hx hb hts hown hK hP hD hS 0 rfl rfl d_M_clear_2 (fun H locs hP hD hS => ?_)
  have hP : va_P D cls ((o_M a (0 : Int32) m_at m_lines m_x m_y m_mode m_feed m_state m_pulses m_last m_shown m_relative m_ending m_time m_pause m_kind m_made m_all m_fromX m_fromY m_wayX m_wayY m_points m_centreX m_centreY m_there m_newMode m_newWay m_newFeed m_ends) :: tl) H := hP
  have hD : va_D A ((o_M a (0 : Int32) m_at m_lines m_x m_y m_mode m_feed m_state m_pulses m_last m_shown m_relative m_ending m_time m_pause m_kind m_made m_all m_fromX m_fromY m_wayX m_wayY m_points m_centreX m_centreY m_there m_newMode m_newWay m_newFeed m_ends) :: tl) := hD
  refine lv_aload_n hx hb d_M_clear_5 rfl (lv_at hl 0 rfl) ?_
  refine my_callv (va_runV (As := []) (rest := []) ⟨hx, hb, hml, hown, hts⟩ (c_M_begin l H.size) (cw_M_22 hts ⟨Nat.le_of_ble_eq_true rfl, Nat.le_of_ble_eq_true rfl⟩) (my_preV hK hP hX hD hS hA 0 rfl rfl hw) rfl rfl hl.1 rfl (lv_room (Nat.le_of_ble_eq_true rfl)) d_M_clear_6 ⟨Nat.le_refl _, Nat.le_refl _⟩) hD hS hA (fun u H locs hw hP hD hS => ?_)
  obtain ⟨m_at_6, m_lines_6, m_x_6, m_y_6, m_mode_6, m_feed_6, m_state_6, m_pulses_6, m_last_6, m_shown_6, m_relative_6, m_ending_6, m_time_6, m_made_6, m_all_6⟩ := u
  dsimp only at hw
  have hP : va_P D cls ((o_M a (0 : Int32) m_at_6 m_lines_6 m_x_6 m_y_6 m_mode_6 m_feed_6 m_state_6 m_pulses_6 m_last_6 m_shown_6 m_relative_6 m_ending_6 m_time_6 m_pause m_kind m_made_6 m_all_6 m_fromX m_fromY m_wayX m_wayY m_points m_centreX m_centreY m_there m_newMode m_newWay m_newFeed m_ends) :: tl) H := hP
  have hD : va_D A ((o_M a (0 : Int32) m_at_6 m_lines_6 m_x_6 m_y_6 m_mode_6 m_feed_6 m_state_6 m_pulses_6 m_last_6 m_shown_6 m_relative_6 m_ending_6 m_time_6 m_pause m_kind m_made_6 m_all_6 m_fromX m_fromY m_wayX m_wayY m_points m_centreX m_centreY m_there m_newMode m_newWay m_newFeed m_ends) :: tl) := hD
  exact hret H locs ls 9 (((0 : Int32), m_at_6, m_lines_6, m_x_6, m_y_6, m_mode_6, m_feed_6, m_state_6, m_pulses_6, m_last_6, m_shown_6, m_relative_6, m_ending_6, m_time_6, m_made_6, m_all_6)) d_M_clear_9 hP hD hS hw
def wq_M_skip_2 (Q : Int32 → Prop) (mt : Nat → Int32) : Nat → Int32 → Int32 → Prop
  | 0, _, _ => False
  | n2 + 1, x2, x3 => ((x2 ≤ x3 → (Q x3)) ∧ (¬ x2 ≤ x3 → (vp_in x3 400 ∧ ((¬ (mt x3.toNatClampNeg) = (32 : Int32) → (Q x3)) ∧ ((mt x3.toNatClampNeg) = (32 : Int32) → (wq_M_skip_2 Q mt n2 x2 (x3 + (1 : Int32))))))))
def wp_M_skip (x1 x2 : Int32) (mt : Nat → Int32) (Q : Int32 → Prop) : Prop := (∃ n2 : Nat, wq_M_skip_2 Q mt n2 x2 x1)
abbrev rm_M_skip : Room := { frames := 0, cells := 0, slots := 0, locals := 0 }
set_option maxRecDepth 100000 in
set_option maxHeartbeats 4000000 in
theorem c_M_skip (l : Launch) {D : va_G} {X : xT} {a : Nat → Nat} {K : Nat → ClassId} {tl : va_W} {x1 x2 m_length m_at m_lines m_x m_y m_mode m_feed m_state m_pulses m_last m_shown m_relative m_ending : Int32} {m_time m_pause : Int64} {m_kind m_made m_all m_fromX m_fromY m_wayX m_wayY m_points m_centreX m_centreY m_there m_newMode m_newWay m_newFeed m_ends : Int32} {mt : Nat → Int32} {Q : Int32 → Prop} : MI l y_M_skip b_M_skip 4 rm_M_skip D cls (tys K) X [.ref (a 10), .int x1, .int x2] ((o_M a m_length m_at m_lines m_x m_y m_mode m_feed m_state m_pulses m_last m_shown m_relative m_ending m_time m_pause m_kind m_made m_all m_fromX m_fromY m_wayX m_wayY m_points m_centreX m_centreY m_there m_newMode m_newWay m_newFeed m_ends) :: (o_mt a K mt) :: tl) (fun _ : Unit => (o_M a m_length m_at m_lines m_x m_y m_mode m_feed m_state m_pulses m_last m_shown m_relative m_ending m_time m_pause m_kind m_made m_all m_fromX m_fromY m_wayX m_wayY m_points m_centreX m_centreY m_there m_newMode m_newWay m_newFeed m_ends) :: (o_mt a K mt) :: tl) (wp_M_skip x1 x2 mt Q) (fun r _ => Q r) := by
  refine my_of_I (by decide +kernel) (Nat.le_of_ble_eq_true rfl) (fun p e s m args below meth c A QQ H locs ls hx hb hts hown hml hK hX hA hP hD hS hl hw hret => ?_)
  replace hl : lv_has ls 4 [(0, .ref (a 10)), (1, .int x1), (2, .int x2)] := hl
  have J2 : ∀ (n2 : Nat) (H : Heap) (locs : List Loc) (ls : Array Slot) (x2 x3 : Int32), va_P D cls ((o_M a m_length m_at m_lines m_x m_y m_mode m_feed m_state m_pulses m_last m_shown m_relative m_ending m_time m_pause m_kind m_made m_all m_fromX m_fromY m_wayX m_wayY m_points m_centreX m_centreY m_there m_newMode m_newWay m_newFeed m_ends) :: (o_mt a K mt) :: tl) H → va_D A ((o_M a m_length m_at m_lines m_x m_y m_mode m_feed m_state m_pulses m_last m_shown m_relative m_ending m_time m_pause m_kind m_made m_all m_fromX m_fromY m_wayX m_wayY m_points m_centreX m_centreY m_there m_newMode m_newWay m_newFeed m_ends) :: (o_mt a K mt) :: tl) → va_S A s.heap H locs → lv_has ls 4 [(0, .ref (a 10)), (2, .int x2), (3, .int x3)] → wq_M_skip_2 Q mt n2 x2 x3 → W p l e rm_M_skip s m args below meth c H locs 0 0 QQ (F0 m 2 ls []) := by
    intro n2
    induction n2 with
    | zero => intro H locs ls x2 x3 hP hD hS hl hw; exact False.elim hw
    | succ n2 ih =>
      intro H locs ls x2 x3 hP hD hS hl hw
      unfold wq_M_skip_2 at hw
      refine lv_iload_n hx hb d_M_skip_2 rfl (lv_at hl 2 rfl) ?_
      refine lv_iload_n hx hb d_M_skip_3 rfl (lv_at hl 1 rfl) ?_
      refine lv_icmp_ge (tgt := 25) hx hb d_M_skip_4 (by decide) (fun hc => ?_) (fun hc => ?_)
      · replace hw := hw.1 hc
        refine lv_iload_n hx hb d_M_skip_25 rfl (lv_at hl 2 rfl) ?_
        exact hret H locs ls 26 (x3) (()) d_M_skip_26 hP hD hS hw
      · replace hw := hw.2 hc
        refine lv_aload_n hx hb d_M_skip_7 rfl (lv_at hl 0 rfl) ?_
        refine g_M_text hx hb hts hown hK hP 0 rfl rfl d_M_skip_8 ?_
        refine lv_iload_n hx hb d_M_skip_11 rfl (lv_at hl 2 rfl) ?_
        refine va_iald hx hb hK hP 1 5 rfl rfl hw.1 d_M_skip_12 ?_
        replace hw := hw.2
        refine lv_bipush (v := (32 : Int32)) hx hb d_M_skip_13 (by decide) ?_
        refine lv_icmp_ne (tgt := 25) hx hb d_M_skip_15 (by decide) (fun hc => ?_) (fun hc => ?_)
        · replace hw := hw.1 hc
          refine lv_iload_n hx hb d_M_skip_25 rfl (lv_at hl 2 rfl) ?_
          exact hret H locs ls 26 (x3) (()) d_M_skip_26 hP hD hS hw
        · replace hw := hw.2 hc
          refine lv_iload_n hx hb d_M_skip_18 rfl (lv_at hl 2 rfl) ?_
          refine lv_iconst (v := (1 : Int32)) hx hb d_M_skip_19 (by decide) ?_
          refine lv_iadd hx hb d_M_skip_20 ?_
          refine lv_istore_n (lv' := [(3, .int (x3 + (1 : Int32))), (0, .ref (a 10)), (2, .int x2)]) hx hb d_M_skip_21 rfl hl (Nat.le_of_ble_eq_true rfl) rfl (fun ls hl => ?_)
          refine lv_goto (tgt := 2) hx hb d_M_skip_22 (by decide) ?_
          exact ih H locs ls x2 (x3 + (1 : Int32)) hP hD hS (lv_sub hl [1, 2, 0] rfl) hw
  unfold wp_M_skip at hw
  refine lv_iload_n hx hb d_M_skip_0 rfl (lv_at hl 1 rfl) ?_
  refine lv_istore_n (lv' := [(3, .int x1), (0, .ref (a 10)), (1, .int x1), (2, .int x2)]) hx hb d_M_skip_1 rfl hl (Nat.le_of_ble_eq_true rfl) rfl (fun ls hl => ?_)
  obtain ⟨n2, hw⟩ := hw
  exact J2 n2 H locs ls x2 x1 hP hD hS (lv_sub hl [1, 3, 0] rfl) hw
def wp_M_digit (x0 : Int32) (Q : Int32 → Prop) : Prop := ((x0 < (48 : Int32) → (Q (0 : Int32))) ∧ (¬ x0 < (48 : Int32) → (((57 : Int32) < x0 → (Q (0 : Int32))) ∧ (¬ (57 : Int32) < x0 → (Q (1 : Int32))))))
abbrev rm_M_digit : Room := { frames := 0, cells := 0, slots := 0, locals := 0 }
set_option maxRecDepth 100000 in
set_option maxHeartbeats 4000000 in
theorem c_M_digit (l : Launch) {D : va_G} {X : xT} {K : Nat → ClassId} {tl : va_W} {x0 : Int32} {Q : Int32 → Prop} : MZ l y_M_digit b_M_digit 1 rm_M_digit D cls (tys K) X [.int x0] (tl) (fun _ : Unit => tl) (wp_M_digit x0 Q) (fun r _ => Q r) := by
  refine my_of_Z (by decide +kernel) (Nat.le_of_ble_eq_true rfl) (fun p e s m args below meth c A QQ H locs ls hx hb hts hown hml hK hX hA hP hD hS hl hw hret => ?_)
  replace hl : lv_has ls 1 [(0, .int x0)] := hl
  unfold wp_M_digit at hw
  refine lv_iload_n hx hb d_M_digit_0 rfl (lv_at hl 0 rfl) ?_
  refine lv_bipush (v := (48 : Int32)) hx hb d_M_digit_1 (by decide) ?_
  refine lv_icmp_lt (tgt := 16) hx hb d_M_digit_3 (by decide) (fun hc => ?_) (fun hc => ?_)
  · replace hw := hw.1 hc
    refine lv_iconst (v := (0 : Int32)) hx hb d_M_digit_16 (by decide) ?_
    exact hret H locs ls 17 ((0 : Int32)) (()) d_M_digit_17 (Or.inl rfl) hP hD hS hw
  · replace hw := hw.2 hc
    refine lv_iload_n hx hb d_M_digit_6 rfl (lv_at hl 0 rfl) ?_
    refine lv_bipush (v := (57 : Int32)) hx hb d_M_digit_7 (by decide) ?_
    refine lv_icmp_gt (tgt := 16) hx hb d_M_digit_9 (by decide) (fun hc => ?_) (fun hc => ?_)
    · replace hw := hw.1 hc
      refine lv_iconst (v := (0 : Int32)) hx hb d_M_digit_16 (by decide) ?_
      exact hret H locs ls 17 ((0 : Int32)) (()) d_M_digit_17 (Or.inl rfl) hP hD hS hw
    · replace hw := hw.2 hc
      refine lv_iconst (v := (1 : Int32)) hx hb d_M_digit_12 (by decide) ?_
      refine lv_goto (tgt := 17) hx hb d_M_digit_13 (by decide) ?_
      exact hret H locs ls 17 ((1 : Int32)) (()) d_M_digit_17 (Or.inr rfl) hP hD hS hw
def wq_M_letter_29 (Q : Int32 → Prop) (x0 : Int32) : Prop := (Q ((x0 - (73 : Int32)) + (2 : Int32)))
def wq_M_letter_12 (Q : Int32 → Prop) (x0 : Int32) : Prop := (Q (x0 - (88 : Int32)))
def wp_M_letter (x0 : Int32) (Q : Int32 → Prop) : Prop := ((x0 = (88 : Int32) → (wq_M_letter_12 Q x0)) ∧ (¬ x0 = (88 : Int32) → ((¬ x0 = (89 : Int32) → ((x0 = (73 : Int32) → (wq_M_letter_29 Q x0)) ∧ (¬ x0 = (73 : Int32) → ((¬ x0 = (74 : Int32) → ((¬ x0 = (70 : Int32) → ((¬ x0 = (71 : Int32) → ((¬ x0 = (77 : Int32) → (Q (-1 : Int32))) ∧ (x0 = (77 : Int32) → (Q (6 : Int32))))) ∧ (x0 = (71 : Int32) → (Q (5 : Int32))))) ∧ (x0 = (70 : Int32) → (Q (4 : Int32))))) ∧ (x0 = (74 : Int32) → (wq_M_letter_29 Q x0)))))) ∧ (x0 = (89 : Int32) → (wq_M_letter_12 Q x0)))))
abbrev rm_M_letter : Room := { frames := 0, cells := 0, slots := 0, locals := 0 }
set_option maxRecDepth 100000 in
set_option maxHeartbeats 4000000 in
theorem c_M_letter (l : Launch) {D : va_G} {X : xT} {K : Nat → ClassId} {tl : va_W} {x0 : Int32} {Q : Int32 → Prop} : MI l y_M_letter b_M_letter 1 rm_M_letter D cls (tys K) X [.int x0] (tl) (fun _ : Unit => tl) (wp_M_letter x0 Q) (fun r _ => Q r) := by
  refine my_of_I (by decide +kernel) (Nat.le_of_ble_eq_true rfl) (fun p e s m args below meth c A QQ H locs ls hx hb hts hown hml hK hX hA hP hD hS hl hw hret => ?_)
  replace hl : lv_has ls 1 [(0, .int x0)] := hl
  have J29 : ∀ (H : Heap) (locs : List Loc) (ls : Array Slot) (x0 : Int32), va_P D cls (tl) H → va_D A (tl) → va_S A s.heap H locs → lv_has ls 1 [(0, .int x0)] → wq_M_letter_29 Q x0 → W p l e rm_M_letter s m args below meth c H locs 0 0 QQ (F0 m 29 ls []) := by
    intro H locs ls x0 hP hD hS hl hw
    unfold wq_M_letter_29 at hw
    refine lv_iload_n hx hb d_M_letter_29 rfl (lv_at hl 0 rfl) ?_
    refine lv_bipush (v := (73 : Int32)) hx hb d_M_letter_30 (by decide) ?_
    refine lv_isub hx hb d_M_letter_32 ?_
    refine lv_iconst (v := (2 : Int32)) hx hb d_M_letter_33 (by decide) ?_
    refine lv_iadd hx hb d_M_letter_34 ?_
    exact hret H locs ls 35 ((x0 - (73 : Int32)) + (2 : Int32)) (()) d_M_letter_35 hP hD hS hw
  have J12 : ∀ (H : Heap) (locs : List Loc) (ls : Array Slot) (x0 : Int32), va_P D cls (tl) H → va_D A (tl) → va_S A s.heap H locs → lv_has ls 1 [(0, .int x0)] → wq_M_letter_12 Q x0 → W p l e rm_M_letter s m args below meth c H locs 0 0 QQ (F0 m 12 ls []) := by
    intro H locs ls x0 hP hD hS hl hw
    unfold wq_M_letter_12 at hw
    refine lv_iload_n hx hb d_M_letter_12 rfl (lv_at hl 0 rfl) ?_
    refine lv_bipush (v := (88 : Int32)) hx hb d_M_letter_13 (by decide) ?_
    refine lv_isub hx hb d_M_letter_15 ?_
    exact hret H locs ls 16 (x0 - (88 : Int32)) (()) d_M_letter_16 hP hD hS hw
  unfold wp_M_letter at hw
  refine lv_iload_n hx hb d_M_letter_0 rfl (lv_at hl 0 rfl) ?_
  refine lv_bipush (v := (88 : Int32)) hx hb d_M_letter_1 (by decide) ?_
  refine lv_icmp_eq (tgt := 12) hx hb d_M_letter_3 (by decide) (fun hc => ?_) (fun hc => ?_)
  · replace hw := hw.1 hc
    exact J12 H locs ls x0 hP hD hS (lv_sub hl [0] rfl) hw
  · replace hw := hw.2 hc
    refine lv_iload_n hx hb d_M_letter_6 rfl (lv_at hl 0 rfl) ?_
    refine lv_bipush (v := (89 : Int32)) hx hb d_M_letter_7 (by decide) ?_
    refine lv_icmp_ne (tgt := 17) hx hb d_M_letter_9 (by decide) (fun hc => ?_) (fun hc => ?_)
    · replace hw := hw.1 hc
      refine lv_iload_n hx hb d_M_letter_17 rfl (lv_at hl 0 rfl) ?_
      refine lv_bipush (v := (73 : Int32)) hx hb d_M_letter_18 (by decide) ?_
      refine lv_icmp_eq (tgt := 29) hx hb d_M_letter_20 (by decide) (fun hc => ?_) (fun hc => ?_)
      · replace hw := hw.1 hc
        exact J29 H locs ls x0 hP hD hS (lv_sub hl [0] rfl) hw
      · replace hw := hw.2 hc
        refine lv_iload_n hx hb d_M_letter_23 rfl (lv_at hl 0 rfl) ?_
        refine lv_bipush (v := (74 : Int32)) hx hb d_M_letter_24 (by decide) ?_
        refine lv_icmp_ne (tgt := 36) hx hb d_M_letter_26 (by decide) (fun hc => ?_) (fun hc => ?_)
        · replace hw := hw.1 hc
          refine lv_iload_n hx hb d_M_letter_36 rfl (lv_at hl 0 rfl) ?_
          refine lv_bipush (v := (70 : Int32)) hx hb d_M_letter_37 (by decide) ?_
          refine lv_icmp_ne (tgt := 46) hx hb d_M_letter_39 (by decide) (fun hc => ?_) (fun hc => ?_)
          · replace hw := hw.1 hc
            refine lv_iload_n hx hb d_M_letter_46 rfl (lv_at hl 0 rfl) ?_
            refine lv_bipush (v := (71 : Int32)) hx hb d_M_letter_47 (by decide) ?_
            refine lv_icmp_ne (tgt := 56) hx hb d_M_letter_49 (by decide) (fun hc => ?_) (fun hc => ?_)
            · replace hw := hw.1 hc
              refine lv_iload_n hx hb d_M_letter_56 rfl (lv_at hl 0 rfl) ?_
              refine lv_bipush (v := (77 : Int32)) hx hb d_M_letter_57 (by decide) ?_
              refine lv_icmp_ne (tgt := 67) hx hb d_M_letter_59 (by decide) (fun hc => ?_) (fun hc => ?_)
              · replace hw := hw.1 hc
                refine lv_iconst (v := (-1 : Int32)) hx hb d_M_letter_67 (by decide) ?_
                exact hret H locs ls 68 ((-1 : Int32)) (()) d_M_letter_68 hP hD hS hw
              · replace hw := hw.2 hc
                refine lv_bipush (v := (6 : Int32)) hx hb d_M_letter_62 (by decide) ?_
                refine lv_goto (tgt := 68) hx hb d_M_letter_64 (by decide) ?_
                exact hret H locs ls 68 ((6 : Int32)) (()) d_M_letter_68 hP hD hS hw
            · replace hw := hw.2 hc
              refine lv_iconst (v := (5 : Int32)) hx hb d_M_letter_52 (by decide) ?_
              refine lv_goto (tgt := 68) hx hb d_M_letter_53 (by decide) ?_
              exact hret H locs ls 68 ((5 : Int32)) (()) d_M_letter_68 hP hD hS hw
          · replace hw := hw.2 hc
            refine lv_iconst (v := (4 : Int32)) hx hb d_M_letter_42 (by decide) ?_
            refine lv_goto (tgt := 68) hx hb d_M_letter_43 (by decide) ?_
            exact hret H locs ls 68 ((4 : Int32)) (()) d_M_letter_68 hP hD hS hw
        · replace hw := hw.2 hc
          exact J29 H locs ls x0 hP hD hS (lv_sub hl [0] rfl) hw
    · replace hw := hw.2 hc
      exact J12 H locs ls x0 hP hD hS (lv_sub hl [0] rfl) hw
def wq_M_keep_50 (Q : Int32 → Int32 → Int32 → Int32 → Int32 → Int32 → (Nat → Int32) → Prop) (x2 m_there m_newMode m_newWay m_newFeed m_ends : Int32) (mn : Nat → Int32) : Prop := ((x2 ≤ (3 : Int32) → (Q (0 : Int32) m_there x2 m_newWay m_newFeed m_ends mn)) ∧ (¬ x2 ≤ (3 : Int32) → (Q (0 : Int32) m_there m_newMode (x2 - (90 : Int32)) m_newFeed m_ends mn)))
def wq_M_keep_25 (Q : Int32 → Int32 → Int32 → Int32 → Int32 → Int32 → (Nat → Int32) → Prop) (x2 m_there m_newMode m_newWay m_newFeed m_ends : Int32) (mn : Nat → Int32) : Prop := ((x2 ≤ (3 : Int32) → ((m_newMode < 0 → (wq_M_keep_50 Q x2 m_there m_newMode m_newWay m_newFeed m_ends mn)) ∧ (¬ m_newMode < 0 → (Q (103 : Int32) m_there m_newMode m_newWay m_newFeed m_ends mn)))) ∧ (¬ x2 ≤ (3 : Int32) → ((m_newWay < 0 → (wq_M_keep_50 Q x2 m_there m_newMode m_newWay m_newFeed m_ends mn)) ∧ (¬ m_newWay < 0 → (Q (103 : Int32) m_there m_newMode m_newWay m_newFeed m_ends mn)))))
def wp_M_keep (x1 x2 m_there m_newMode m_newWay m_newFeed m_ends : Int32) (mn : Nat → Int32) (Q : Int32 → Int32 → Int32 → Int32 → Int32 → Int32 → (Nat → Int32) → Prop) : Prop := ((¬ x1 = (5 : Int32) → ((¬ x1 = (6 : Int32) → ((¬ x1 = (4 : Int32) → ((¬ ((m_there >>> (x1 &&& 31)) &&& (1 : Int32)) = (1 : Int32) → (vp_in x1 4 ∧ (Q (0 : Int32) (m_there ||| ((1 : Int32) <<< (x1 &&& 31))) m_newMode m_newWay m_newFeed m_ends (upd mn x1.toNatClampNeg x2)))) ∧ (((m_there >>> (x1 &&& 31)) &&& (1 : Int32)) = (1 : Int32) → (Q (103 : Int32) m_there m_newMode m_newWay m_newFeed m_ends mn)))) ∧ (x1 = (4 : Int32) → ((m_newFeed < 0 → ((x2 < (1 : Int32) → (Q (105 : Int32) m_there m_newMode m_newWay m_newFeed m_ends mn)) ∧ (¬ x2 < (1 : Int32) → ((x2 ≤ (10000 : Int32) → (Q (0 : Int32) m_there m_newMode m_newWay x2 m_ends mn)) ∧ (¬ x2 ≤ (10000 : Int32) → (Q (105 : Int32) m_there m_newMode m_newWay m_newFeed m_ends mn)))))) ∧ (¬ m_newFeed < 0 → (Q (103 : Int32) m_there m_newMode m_newWay m_newFeed m_ends mn)))))) ∧ (x1 = (6 : Int32) → ((x2 = (2 : Int32) → ((m_ends < 0 → (Q (0 : Int32) m_there m_newMode m_newWay m_newFeed (1 : Int32) mn)) ∧ (¬ m_ends < 0 → (Q (103 : Int32) m_there m_newMode m_newWay m_newFeed m_ends mn)))) ∧ (¬ x2 = (2 : Int32) → (Q (102 : Int32) m_there m_newMode m_newWay m_newFeed m_ends mn)))))) ∧ (x1 = (5 : Int32) → ((x2 ≤ (3 : Int32) → (wq_M_keep_25 Q x2 m_there m_newMode m_newWay m_newFeed m_ends mn)) ∧ (¬ x2 ≤ (3 : Int32) → ((x2 = (90 : Int32) → (wq_M_keep_25 Q x2 m_there m_newMode m_newWay m_newFeed m_ends mn)) ∧ (¬ x2 = (90 : Int32) → ((x2 = (91 : Int32) → (wq_M_keep_25 Q x2 m_there m_newMode m_newWay m_newFeed m_ends mn)) ∧ (¬ x2 = (91 : Int32) → (Q (102 : Int32) m_there m_newMode m_newWay m_newFeed m_ends mn)))))))))
abbrev rm_M_keep : Room := { frames := 0, cells := 0, slots := 0, locals := 0 }
set_option maxRecDepth 100000 in
set_option maxHeartbeats 4000000 in
theorem c_M_keep (l : Launch) {D : va_G} {X : xT} {a : Nat → Nat} {K : Nat → ClassId} {tl : va_W} {e1 e2 e3 : Nat × va_E} {x1 x2 m_length m_at m_lines m_x m_y m_mode m_feed m_state m_pulses m_last m_shown m_relative m_ending : Int32} {m_time m_pause : Int64} {m_kind m_made m_all m_fromX m_fromY m_wayX m_wayY m_points m_centreX m_centreY m_there m_newMode m_newWay m_newFeed m_ends : Int32} {mn : Nat → Int32} {Q : Int32 → Int32 → Int32 → Int32 → Int32 → Int32 → (Nat → Int32) → Prop} : MI l y_M_keep b_M_keep 3 rm_M_keep D cls (tys K) X [.ref (a 10), .int x1, .int x2] ((o_M a m_length m_at m_lines m_x m_y m_mode m_feed m_state m_pulses m_last m_shown m_relative m_ending m_time m_pause m_kind m_made m_all m_fromX m_fromY m_wayX m_wayY m_points m_centreX m_centreY m_there m_newMode m_newWay m_newFeed m_ends) :: e1 :: e2 :: e3 :: (o_mn a K mn) :: tl) (fun u : Int32 × Int32 × Int32 × Int32 × Int32 × (Nat → Int32) => (o_M a m_length m_at m_lines m_x m_y m_mode m_feed m_state m_pulses m_last m_shown m_relative m_ending m_time m_pause m_kind m_made m_all m_fromX m_fromY m_wayX m_wayY m_points m_centreX m_centreY u.1 u.2.1 u.2.2.1 u.2.2.2.1 u.2.2.2.2.1) :: e1 :: e2 :: e3 :: (o_mn a K u.2.2.2.2.2) :: tl) (wp_M_keep x1 x2 m_there m_newMode m_newWay m_newFeed m_ends mn Q) (fun r u => Q r u.1 u.2.1 u.2.2.1 u.2.2.2.1 u.2.2.2.2.1 u.2.2.2.2.2) := by
  refine my_of_I (by decide +kernel) (Nat.le_of_ble_eq_true rfl) (fun p e s m args below meth c A QQ H locs ls hx hb hts hown hml hK hX hA hP hD hS hl hw hret => ?_)
  replace hl : lv_has ls 3 [(0, .ref (a 10)), (1, .int x1), (2, .int x2)] := hl
  have J50 : ∀ (H : Heap) (locs : List Loc) (ls : Array Slot) (x2 m_there m_newMode m_newWay m_newFeed m_ends : Int32) (mn : Nat → Int32), va_P D cls ((o_M a m_length m_at m_lines m_x m_y m_mode m_feed m_state m_pulses m_last m_shown m_relative m_ending m_time m_pause m_kind m_made m_all m_fromX m_fromY m_wayX m_wayY m_points m_centreX m_centreY m_there m_newMode m_newWay m_newFeed m_ends) :: e1 :: e2 :: e3 :: (o_mn a K mn) :: tl) H → va_D A ((o_M a m_length m_at m_lines m_x m_y m_mode m_feed m_state m_pulses m_last m_shown m_relative m_ending m_time m_pause m_kind m_made m_all m_fromX m_fromY m_wayX m_wayY m_points m_centreX m_centreY m_there m_newMode m_newWay m_newFeed m_ends) :: e1 :: e2 :: e3 :: (o_mn a K mn) :: tl) → va_S A s.heap H locs → lv_has ls 3 [(0, .ref (a 10)), (2, .int x2)] → wq_M_keep_50 Q x2 m_there m_newMode m_newWay m_newFeed m_ends mn → W p l e rm_M_keep s m args below meth c H locs 0 0 QQ (F0 m 50 ls []) := by
    intro H locs ls x2 m_there m_newMode m_newWay m_newFeed m_ends mn hP hD hS hl hw
    unfold wq_M_keep_50 at hw
    refine lv_iload_n hx hb d_M_keep_50 rfl (lv_at hl 1 rfl) ?_
    refine lv_iconst (v := (3 : Int32)) hx hb d_M_keep_51 (by decide) ?_
    refine lv_icmp_le (tgt := 66) hx hb d_M_keep_52 (by decide) (fun hc => ?_) (fun hc => ?_)
    · replace hw := hw.1 hc
      refine lv_aload_n hx hb d_M_keep_66 rfl (lv_at hl 0 rfl) ?_
      refine lv_iload_n hx hb d_M_keep_67 rfl (lv_at hl 1 rfl) ?_
      refine u_M_newMode hx hb hts hown hK hP hD hS 0 rfl rfl d_M_keep_68 (fun H locs hP hD hS => ?_)
      have hP : va_P D cls ((o_M a m_length m_at m_lines m_x m_y m_mode m_feed m_state m_pulses m_last m_shown m_relative m_ending m_time m_pause m_kind m_made m_all m_fromX m_fromY m_wayX m_wayY m_points m_centreX m_centreY m_there x2 m_newWay m_newFeed m_ends) :: e1 :: e2 :: e3 :: (o_mn a K mn) :: tl) H := hP
      have hD : va_D A ((o_M a m_length m_at m_lines m_x m_y m_mode m_feed m_state m_pulses m_last m_shown m_relative m_ending m_time m_pause m_kind m_made m_all m_fromX m_fromY m_wayX m_wayY m_points m_centreX m_centreY m_there x2 m_newWay m_newFeed m_ends) :: e1 :: e2 :: e3 :: (o_mn a K mn) :: tl) := hD
      refine lv_iconst (v := (0 : Int32)) hx hb d_M_keep_71 (by decide) ?_
      exact hret H locs ls 72 ((0 : Int32)) ((m_there, x2, m_newWay, m_newFeed, m_ends, mn)) d_M_keep_72 hP hD hS hw
    · replace hw := hw.2 hc
      refine lv_aload_n hx hb d_M_keep_55 rfl (lv_at hl 0 rfl) ?_
      refine lv_iload_n hx hb d_M_keep_56 rfl (lv_at hl 1 rfl) ?_
      refine lv_bipush (v := (90 : Int32)) hx hb d_M_keep_57 (by decide) ?_
      refine lv_isub hx hb d_M_keep_59 ?_
      refine u_M_newWay hx hb hts hown hK hP hD hS 0 rfl rfl d_M_keep_60 (fun H locs hP hD hS => ?_)
      have hP : va_P D cls ((o_M a m_length m_at m_lines m_x m_y m_mode m_feed m_state m_pulses m_last m_shown m_relative m_ending m_time m_pause m_kind m_made m_all m_fromX m_fromY m_wayX m_wayY m_points m_centreX m_centreY m_there m_newMode (x2 - (90 : Int32)) m_newFeed m_ends) :: e1 :: e2 :: e3 :: (o_mn a K mn) :: tl) H := hP
      have hD : va_D A ((o_M a m_length m_at m_lines m_x m_y m_mode m_feed m_state m_pulses m_last m_shown m_relative m_ending m_time m_pause m_kind m_made m_all m_fromX m_fromY m_wayX m_wayY m_points m_centreX m_centreY m_there m_newMode (x2 - (90 : Int32)) m_newFeed m_ends) :: e1 :: e2 :: e3 :: (o_mn a K mn) :: tl) := hD
      refine lv_goto (tgt := 71) hx hb d_M_keep_63 (by decide) ?_
      refine lv_iconst (v := (0 : Int32)) hx hb d_M_keep_71 (by decide) ?_
      exact hret H locs ls 72 ((0 : Int32)) ((m_there, m_newMode, x2 - (90 : Int32), m_newFeed, m_ends, mn)) d_M_keep_72 hP hD hS hw
  have J25 : ∀ (H : Heap) (locs : List Loc) (ls : Array Slot) (x2 m_there m_newMode m_newWay m_newFeed m_ends : Int32) (mn : Nat → Int32), va_P D cls ((o_M a m_length m_at m_lines m_x m_y m_mode m_feed m_state m_pulses m_last m_shown m_relative m_ending m_time m_pause m_kind m_made m_all m_fromX m_fromY m_wayX m_wayY m_points m_centreX m_centreY m_there m_newMode m_newWay m_newFeed m_ends) :: e1 :: e2 :: e3 :: (o_mn a K mn) :: tl) H → va_D A ((o_M a m_length m_at m_lines m_x m_y m_mode m_feed m_state m_pulses m_last m_shown m_relative m_ending m_time m_pause m_kind m_made m_all m_fromX m_fromY m_wayX m_wayY m_points m_centreX m_centreY m_there m_newMode m_newWay m_newFeed m_ends) :: e1 :: e2 :: e3 :: (o_mn a K mn) :: tl) → va_S A s.heap H locs → lv_has ls 3 [(0, .ref (a 10)), (2, .int x2)] → wq_M_keep_25 Q x2 m_there m_newMode m_newWay m_newFeed m_ends mn → W p l e rm_M_keep s m args below meth c H locs 0 0 QQ (F0 m 25 ls []) := by
    intro H locs ls x2 m_there m_newMode m_newWay m_newFeed m_ends mn hP hD hS hl hw
    unfold wq_M_keep_25 at hw
    refine lv_iload_n hx hb d_M_keep_25 rfl (lv_at hl 1 rfl) ?_
    refine lv_iconst (v := (3 : Int32)) hx hb d_M_keep_26 (by decide) ?_
    refine lv_icmp_le (tgt := 40) hx hb d_M_keep_27 (by decide) (fun hc => ?_) (fun hc => ?_)
    · replace hw := hw.1 hc
      refine lv_aload_n hx hb d_M_keep_40 rfl (lv_at hl 0 rfl) ?_
      refine g_M_newMode hx hb hts hown hK hP 0 rfl rfl d_M_keep_41 ?_
      refine lv_if_lt (tgt := 50) hx hb d_M_keep_44 (by decide) (fun hc => ?_) (fun hc => ?_)
      · replace hw := hw.1 hc
        exact J50 H locs ls x2 m_there m_newMode m_newWay m_newFeed m_ends mn hP hD hS (lv_sub hl [0, 1] rfl) hw
      · replace hw := hw.2 hc
        refine lv_bipush (v := (103 : Int32)) hx hb d_M_keep_47 (by decide) ?_
        exact hret H locs ls 49 ((103 : Int32)) ((m_there, m_newMode, m_newWay, m_newFeed, m_ends, mn)) d_M_keep_49 hP hD hS hw
    · replace hw := hw.2 hc
      refine lv_aload_n hx hb d_M_keep_30 rfl (lv_at hl 0 rfl) ?_
      refine g_M_newWay hx hb hts hown hK hP 0 rfl rfl d_M_keep_31 ?_
      refine lv_if_lt (tgt := 50) hx hb d_M_keep_34 (by decide) (fun hc => ?_) (fun hc => ?_)
      · replace hw := hw.1 hc
        exact J50 H locs ls x2 m_there m_newMode m_newWay m_newFeed m_ends mn hP hD hS (lv_sub hl [0, 1] rfl) hw
      · replace hw := hw.2 hc
        refine lv_goto (tgt := 47) hx hb d_M_keep_37 (by decide) ?_
        refine lv_bipush (v := (103 : Int32)) hx hb d_M_keep_47 (by decide) ?_
        exact hret H locs ls 49 ((103 : Int32)) ((m_there, m_newMode, m_newWay, m_newFeed, m_ends, mn)) d_M_keep_49 hP hD hS hw
  unfold wp_M_keep at hw
  refine lv_iload_n hx hb d_M_keep_0 rfl (lv_at hl 1 rfl) ?_
  refine lv_iconst (v := (5 : Int32)) hx hb d_M_keep_1 (by decide) ?_
  refine lv_icmp_ne (tgt := 73) hx hb d_M_keep_2 (by decide) (fun hc => ?_) (fun hc => ?_)
  · replace hw := hw.1 hc
    refine lv_iload_n hx hb d_M_keep_73 rfl (lv_at hl 1 rfl) ?_
    refine lv_bipush (v := (6 : Int32)) hx hb d_M_keep_74 (by decide) ?_
    refine lv_icmp_ne (tgt := 104) hx hb d_M_keep_76 (by decide) (fun hc => ?_) (fun hc => ?_)
    · replace hw := hw.1 hc
      refine lv_iload_n hx hb d_M_keep_104 rfl (lv_at hl 1 rfl) ?_
      refine lv_iconst (v := (4 : Int32)) hx hb d_M_keep_105 (by decide) ?_
      refine lv_icmp_ne (tgt := 141) hx hb d_M_keep_106 (by decide) (fun hc => ?_) (fun hc => ?_)
      · replace hw := hw.1 hc
        refine lv_aload_n hx hb d_M_keep_141 rfl (lv_at hl 0 rfl) ?_
        refine g_M_there hx hb hts hown hK hP 0 rfl rfl d_M_keep_142 ?_
        refine lv_iload_n hx hb d_M_keep_145 rfl (lv_at hl 1 rfl) ?_
        refine lv_ishr hx hb d_M_keep_146 ?_
        refine lv_iconst (v := (1 : Int32)) hx hb d_M_keep_147 (by decide) ?_
        refine lv_iand hx hb d_M_keep_148 ?_
        refine lv_iconst (v := (1 : Int32)) hx hb d_M_keep_149 (by decide) ?_
        refine lv_icmp_ne (tgt := 156) hx hb d_M_keep_150 (by decide) (fun hc => ?_) (fun hc => ?_)
        · replace hw := hw.1 hc
          refine lv_aload_n hx hb d_M_keep_156 rfl (lv_at hl 0 rfl) ?_
          refine lv_aload_n hx hb d_M_keep_157 rfl (lv_at hl 0 rfl) ?_
          refine g_M_there hx hb hts hown hK hP 0 rfl rfl d_M_keep_158 ?_
          refine lv_iconst (v := (1 : Int32)) hx hb d_M_keep_161 (by decide) ?_
          refine lv_iload_n hx hb d_M_keep_162 rfl (lv_at hl 1 rfl) ?_
          refine lv_ishl hx hb d_M_keep_163 ?_
          refine lv_ior hx hb d_M_keep_164 ?_
          refine u_M_there hx hb hts hown hK hP hD hS 0 rfl rfl d_M_keep_165 (fun H locs hP hD hS => ?_)
          have hP : va_P D cls ((o_M a m_length m_at m_lines m_x m_y m_mode m_feed m_state m_pulses m_last m_shown m_relative m_ending m_time m_pause m_kind m_made m_all m_fromX m_fromY m_wayX m_wayY m_points m_centreX m_centreY (m_there ||| ((1 : Int32) <<< (x1 &&& 31))) m_newMode m_newWay m_newFeed m_ends) :: e1 :: e2 :: e3 :: (o_mn a K mn) :: tl) H := hP
          have hD : va_D A ((o_M a m_length m_at m_lines m_x m_y m_mode m_feed m_state m_pulses m_last m_shown m_relative m_ending m_time m_pause m_kind m_made m_all m_fromX m_fromY m_wayX m_wayY m_points m_centreX m_centreY (m_there ||| ((1 : Int32) <<< (x1 &&& 31))) m_newMode m_newWay m_newFeed m_ends) :: e1 :: e2 :: e3 :: (o_mn a K mn) :: tl) := hD
          refine lv_aload_n hx hb d_M_keep_168 rfl (lv_at hl 0 rfl) ?_
          refine g_M_number hx hb hts hown hK hP 0 rfl rfl d_M_keep_169 ?_
          refine lv_iload_n hx hb d_M_keep_172 rfl (lv_at hl 1 rfl) ?_
          refine lv_iload_n hx hb d_M_keep_173 rfl (lv_at hl 2 rfl) ?_
          refine va_iast hx hb hK hP hD hS 4 8 rfl rfl hw.1 d_M_keep_174 (fun H locs hP hD hS => ?_)
          replace hw := hw.2
          have hP : va_P D cls ((o_M a m_length m_at m_lines m_x m_y m_mode m_feed m_state m_pulses m_last m_shown m_relative m_ending m_time m_pause m_kind m_made m_all m_fromX m_fromY m_wayX m_wayY m_points m_centreX m_centreY (m_there ||| ((1 : Int32) <<< (x1 &&& 31))) m_newMode m_newWay m_newFeed m_ends) :: e1 :: e2 :: e3 :: (o_mn a K (upd mn x1.toNatClampNeg x2)) :: tl) H := hP
          have hD : va_D A ((o_M a m_length m_at m_lines m_x m_y m_mode m_feed m_state m_pulses m_last m_shown m_relative m_ending m_time m_pause m_kind m_made m_all m_fromX m_fromY m_wayX m_wayY m_points m_centreX m_centreY (m_there ||| ((1 : Int32) <<< (x1 &&& 31))) m_newMode m_newWay m_newFeed m_ends) :: e1 :: e2 :: e3 :: (o_mn a K (upd mn x1.toNatClampNeg x2)) :: tl) := hD
          refine lv_iconst (v := (0 : Int32)) hx hb d_M_keep_175 (by decide) ?_
          exact hret H locs ls 176 ((0 : Int32)) ((m_there ||| ((1 : Int32) <<< (x1 &&& 31)), m_newMode, m_newWay, m_newFeed, m_ends, upd mn x1.toNatClampNeg x2)) d_M_keep_176 hP hD hS hw
        · replace hw := hw.2 hc
          refine lv_bipush (v := (103 : Int32)) hx hb d_M_keep_153 (by decide) ?_
          exact hret H locs ls 155 ((103 : Int32)) ((m_there, m_newMode, m_newWay, m_newFeed, m_ends, mn)) d_M_keep_155 hP hD hS hw
      · replace hw := hw.2 hc
        refine lv_aload_n hx hb d_M_keep_109 rfl (lv_at hl 0 rfl) ?_
        refine g_M_newFeed hx hb hts hown hK hP 0 rfl rfl d_M_keep_110 ?_
        refine lv_if_lt (tgt := 119) hx hb d_M_keep_113 (by decide) (fun hc => ?_) (fun hc => ?_)
        · replace hw := hw.1 hc
          refine lv_iload_n hx hb d_M_keep_119 rfl (lv_at hl 2 rfl) ?_
          refine lv_iconst (v := (1 : Int32)) hx hb d_M_keep_120 (by decide) ?_
          refine lv_icmp_lt (tgt := 131) hx hb d_M_keep_121 (by decide) (fun hc => ?_) (fun hc => ?_)
          · replace hw := hw.1 hc
            refine lv_bipush (v := (105 : Int32)) hx hb d_M_keep_131 (by decide) ?_
            exact hret H locs ls 133 ((105 : Int32)) ((m_there, m_newMode, m_newWay, m_newFeed, m_ends, mn)) d_M_keep_133 hP hD hS hw
          · replace hw := hw.2 hc
            refine lv_iload_n hx hb d_M_keep_124 rfl (lv_at hl 2 rfl) ?_
            refine lv_sipush (v := (10000 : Int32)) hx hb d_M_keep_125 (by decide) ?_
            refine lv_icmp_le (tgt := 134) hx hb d_M_keep_128 (by decide) (fun hc => ?_) (fun hc => ?_)
            · replace hw := hw.1 hc
              refine lv_aload_n hx hb d_M_keep_134 rfl (lv_at hl 0 rfl) ?_
              refine lv_iload_n hx hb d_M_keep_135 rfl (lv_at hl 2 rfl) ?_
              refine u_M_newFeed hx hb hts hown hK hP hD hS 0 rfl rfl d_M_keep_136 (fun H locs hP hD hS => ?_)
              have hP : va_P D cls ((o_M a m_length m_at m_lines m_x m_y m_mode m_feed m_state m_pulses m_last m_shown m_relative m_ending m_time m_pause m_kind m_made m_all m_fromX m_fromY m_wayX m_wayY m_points m_centreX m_centreY m_there m_newMode m_newWay x2 m_ends) :: e1 :: e2 :: e3 :: (o_mn a K mn) :: tl) H := hP
              have hD : va_D A ((o_M a m_length m_at m_lines m_x m_y m_mode m_feed m_state m_pulses m_last m_shown m_relative m_ending m_time m_pause m_kind m_made m_all m_fromX m_fromY m_wayX m_wayY m_points m_centreX m_centreY m_there m_newMode m_newWay x2 m_ends) :: e1 :: e2 :: e3 :: (o_mn a K mn) :: tl) := hD
              refine lv_iconst (v := (0 : Int32)) hx hb d_M_keep_139 (by decide) ?_
              exact hret H locs ls 140 ((0 : Int32)) ((m_there, m_newMode, m_newWay, x2, m_ends, mn)) d_M_keep_140 hP hD hS hw
            · replace hw := hw.2 hc
              refine lv_bipush (v := (105 : Int32)) hx hb d_M_keep_131 (by decide) ?_
              exact hret H locs ls 133 ((105 : Int32)) ((m_there, m_newMode, m_newWay, m_newFeed, m_ends, mn)) d_M_keep_133 hP hD hS hw
        · replace hw := hw.2 hc
          refine lv_bipush (v := (103 : Int32)) hx hb d_M_keep_116 (by decide) ?_
          exact hret H locs ls 118 ((103 : Int32)) ((m_there, m_newMode, m_newWay, m_newFeed, m_ends, mn)) d_M_keep_118 hP hD hS hw
    · replace hw := hw.2 hc
      refine lv_iload_n hx hb d_M_keep_79 rfl (lv_at hl 2 rfl) ?_
      refine lv_iconst (v := (2 : Int32)) hx hb d_M_keep_80 (by decide) ?_
      refine lv_icmp_eq (tgt := 87) hx hb d_M_keep_81 (by decide) (fun hc => ?_) (fun hc => ?_)
      · replace hw := hw.1 hc
        refine lv_aload_n hx hb d_M_keep_87 rfl (lv_at hl 0 rfl) ?_
        refine g_M_ends hx hb hts hown hK hP 0 rfl rfl d_M_keep_88 ?_
        refine lv_if_lt (tgt := 97) hx hb d_M_keep_91 (by decide) (fun hc => ?_) (fun hc => ?_)
        · replace hw := hw.1 hc
          refine lv_aload_n hx hb d_M_keep_97 rfl (lv_at hl 0 rfl) ?_
          refine lv_iconst (v := (1 : Int32)) hx hb d_M_keep_98 (by decide) ?_
          refine u_M_ends hx hb hts hown hK hP hD hS 0 rfl rfl d_M_keep_99 (fun H locs hP hD hS => ?_)
          have hP : va_P D cls ((o_M a m_length m_at m_lines m_x m_y m_mode m_feed m_state m_pulses m_last m_shown m_relative m_ending m_time m_pause m_kind m_made m_all m_fromX m_fromY m_wayX m_wayY m_points m_centreX m_centreY m_there m_newMode m_newWay m_newFeed (1 : Int32)) :: e1 :: e2 :: e3 :: (o_mn a K mn) :: tl) H := hP
          have hD : va_D A ((o_M a m_length m_at m_lines m_x m_y m_mode m_feed m_state m_pulses m_last m_shown m_relative m_ending m_time m_pause m_kind m_made m_all m_fromX m_fromY m_wayX m_wayY m_points m_centreX m_centreY m_there m_newMode m_newWay m_newFeed (1 : Int32)) :: e1 :: e2 :: e3 :: (o_mn a K mn) :: tl) := hD
          refine lv_iconst (v := (0 : Int32)) hx hb d_M_keep_102 (by decide) ?_
          exact hret H locs ls 103 ((0 : Int32)) ((m_there, m_newMode, m_newWay, m_newFeed, (1 : Int32), mn)) d_M_keep_103 hP hD hS hw
        · replace hw := hw.2 hc
          refine lv_bipush (v := (103 : Int32)) hx hb d_M_keep_94 (by decide) ?_
          exact hret H locs ls 96 ((103 : Int32)) ((m_there, m_newMode, m_newWay, m_newFeed, m_ends, mn)) d_M_keep_96 hP hD hS hw
      · replace hw := hw.2 hc
        refine lv_bipush (v := (102 : Int32)) hx hb d_M_keep_84 (by decide) ?_
        exact hret H locs ls 86 ((102 : Int32)) ((m_there, m_newMode, m_newWay, m_newFeed, m_ends, mn)) d_M_keep_86 hP hD hS hw
  · replace hw := hw.2 hc
    refine lv_iload_n hx hb d_M_keep_5 rfl (lv_at hl 2 rfl) ?_
    refine lv_iconst (v := (3 : Int32)) hx hb d_M_keep_6 (by decide) ?_
    refine lv_icmp_le (tgt := 25) hx hb d_M_keep_7 (by decide) (fun hc => ?_) (fun hc => ?_)
    · replace hw := hw.1 hc
      exact J25 H locs ls x2 m_there m_newMode m_newWay m_newFeed m_ends mn hP hD hS (lv_sub hl [0, 2] rfl) hw
    · replace hw := hw.2 hc
      refine lv_iload_n hx hb d_M_keep_10 rfl (lv_at hl 2 rfl) ?_
      refine lv_bipush (v := (90 : Int32)) hx hb d_M_keep_11 (by decide) ?_
      refine lv_icmp_eq (tgt := 25) hx hb d_M_keep_13 (by decide) (fun hc => ?_) (fun hc => ?_)
      · replace hw := hw.1 hc
        exact J25 H locs ls x2 m_there m_newMode m_newWay m_newFeed m_ends mn hP hD hS (lv_sub hl [0, 2] rfl) hw
      · replace hw := hw.2 hc
        refine lv_iload_n hx hb d_M_keep_16 rfl (lv_at hl 2 rfl) ?_
        refine lv_bipush (v := (91 : Int32)) hx hb d_M_keep_17 (by decide) ?_
        refine lv_icmp_eq (tgt := 25) hx hb d_M_keep_19 (by decide) (fun hc => ?_) (fun hc => ?_)
        · replace hw := hw.1 hc
          exact J25 H locs ls x2 m_there m_newMode m_newWay m_newFeed m_ends mn hP hD hS (lv_sub hl [0, 2] rfl) hw
        · replace hw := hw.2 hc
          refine lv_bipush (v := (102 : Int32)) hx hb d_M_keep_22 (by decide) ?_
          exact hret H locs ls 24 ((102 : Int32)) ((m_there, m_newMode, m_newWay, m_newFeed, m_ends, mn)) d_M_keep_24 hP hD hS hw
def wq_M_read_273 (Q : Int32 → Int32 → Int32 → Int32 → Int32 → Int32 → (Nat → Int32) → Prop) (K35 : Int32 → Int32 → Int32 → Int32 → Int32 → Int32 → Int32 → Int32 → (Nat → Int32) → Prop) (mt : Nat → Int32) (x2 x3 x4 s1 s2 m_there m_newMode m_newWay m_newFeed m_ends : Int32) (mn : Nat → Int32) : Prop := (wp_M_keep s1 s2 m_there m_newMode m_newWay m_newFeed m_ends mn (fun r273 m_there_273 m_newMode_273 m_newWay_273 m_newFeed_273 m_ends_273 mn_273 => ((r273 ≤ 0 → (K35 x2 x3 (x4 + (1 : Int32)) m_there_273 m_newMode_273 m_newWay_273 m_newFeed_273 m_ends_273 mn_273)) ∧ (¬ r273 ≤ 0 → (Q r273 m_there_273 m_newMode_273 m_newWay_273 m_newFeed_273 m_ends_273 mn_273)))))
def wq_M_read_239 (Q : Int32 → Int32 → Int32 → Int32 → Int32 → Int32 → (Nat → Int32) → Prop) (K35 : Int32 → Int32 → Int32 → Int32 → Int32 → Int32 → Int32 → Int32 → (Nat → Int32) → Prop) (mt : Nat → Int32) (x2 x3 x4 x5 x6 x8 x9 s0 m_there m_newMode m_newWay m_newFeed m_ends : Int32) (mn : Nat → Int32) : Prop := ((x9 < (1 : Int32) → (Q (101 : Int32) m_there m_newMode m_newWay m_newFeed m_ends mn)) ∧ (¬ x9 < (1 : Int32) → ((x9 ≤ s0 → ((x6 = 0 → (wq_M_read_273 Q K35 mt x2 x3 x4 x5 x8 m_there m_newMode m_newWay m_newFeed m_ends mn)) ∧ (¬ x6 = 0 → (wq_M_read_273 Q K35 mt x2 x3 x4 x5 (-x8) m_there m_newMode m_newWay m_newFeed m_ends mn)))) ∧ (¬ x9 ≤ s0 → (Q (101 : Int32) m_there m_newMode m_newWay m_newFeed m_ends mn)))))
def wq_M_read_218 (Q : Int32 → Int32 → Int32 → Int32 → Int32 → Int32 → (Nat → Int32) → Prop) (K35 : Int32 → Int32 → Int32 → Int32 → Int32 → Int32 → Int32 → Int32 → (Nat → Int32) → Prop) (mt : Nat → Int32) (x2 x3 x4 x5 x6 x8 x9 m_there m_newMode m_newWay m_newFeed m_ends : Int32) (mn : Nat → Int32) : Prop := (((4 : Int32) ≤ x5 → ((¬ x5 = (4 : Int32) → (wq_M_read_239 Q K35 mt x2 x3 x4 x5 x6 x8 x9 (2 : Int32) m_there m_newMode m_newWay m_newFeed m_ends mn)) ∧ (x5 = (4 : Int32) → (wq_M_read_239 Q K35 mt x2 x3 x4 x5 x6 x8 x9 (5 : Int32) m_there m_newMode m_newWay m_newFeed m_ends mn)))) ∧ (¬ (4 : Int32) ≤ x5 → (wq_M_read_239 Q K35 mt x2 x3 x4 x5 x6 x8 x9 (4 : Int32) m_there m_newMode m_newWay m_newFeed m_ends mn)))
def wq_M_read_200 (Q : Int32 → Int32 → Int32 → Int32 → Int32 → Int32 → (Nat → Int32) → Prop) (K35 : Int32 → Int32 → Int32 → Int32 → Int32 → Int32 → Int32 → Int32 → (Nat → Int32) → Prop) (K159 : Int32 → Int32 → Int32 → Int32 → Int32 → Int32 → Int32 → Int32 → Int32 → Int32 → Int32 → Int32 → (Nat → Int32) → Prop) (mt : Nat → Int32) (x2 x3 x4 x5 x6 x8 x9 m_there m_newMode m_newWay m_newFeed m_ends : Int32) (mn : Nat → Int32) : Prop := (wp_M_skip (x3 + (1 : Int32)) x2 mt (fun r211 => (K159 x2 r211 x4 x5 x6 x8 (x9 + (1 : Int32)) m_there m_newMode m_newWay m_newFeed m_ends mn)))
def wq_M_read_159 (Q : Int32 → Int32 → Int32 → Int32 → Int32 → Int32 → (Nat → Int32) → Prop) (K35 : Int32 → Int32 → Int32 → Int32 → Int32 → Int32 → Int32 → Int32 → (Nat → Int32) → Prop) (mt : Nat → Int32) : Nat → Int32 → Int32 → Int32 → Int32 → Int32 → Int32 → Int32 → Int32 → Int32 → Int32 → Int32 → Int32 → (Nat → Int32) → Prop
  | 0, _, _, _, _, _, _, _, _, _, _, _, _, _ => False
  | n159 + 1, x2, x3, x4, x5, x6, x8, x9, m_there, m_newMode, m_newWay, m_newFeed, m_ends, mn => ((x2 ≤ x3 → (wq_M_read_218 Q K35 mt x2 x3 x4 x5 x6 x8 x9 m_there m_newMode m_newWay m_newFeed m_ends mn)) ∧ (¬ x2 ≤ x3 → (vp_in x3 400 ∧ (wp_M_digit (mt x3.toNatClampNeg) (fun r170 => ((r170 = 0 → (wq_M_read_218 Q K35 mt x2 x3 x4 x5 x6 x8 x9 m_there m_newMode m_newWay m_newFeed m_ends mn)) ∧ (¬ r170 = 0 → (((6 : Int32) ≤ x9 → (wq_M_read_200 Q K35 (fun x2 x3 x4 x5 x6 x8 x9 m_there m_newMode m_newWay m_newFeed m_ends mn => wq_M_read_159 Q K35 mt n159 x2 x3 x4 x5 x6 x8 x9 m_there m_newMode m_newWay m_newFeed m_ends mn) mt x2 x3 x4 x5 x6 x8 x9 m_there m_newMode m_newWay m_newFeed m_ends mn)) ∧ (¬ (6 : Int32) ≤ x9 → (vp_in x3 400 ∧ (wq_M_read_200 Q K35 (fun x2 x3 x4 x5 x6 x8 x9 m_there m_newMode m_newWay m_newFeed m_ends mn => wq_M_read_159 Q K35 mt n159 x2 x3 x4 x5 x6 x8 x9 m_there m_newMode m_newWay m_newFeed m_ends mn) mt x2 x3 x4 x5 x6 ((((10 : Int32) * x8) + (mt x3.toNatClampNeg)) - (48 : Int32)) x9 m_there m_newMode m_newWay m_newFeed m_ends mn)))))))))))
def wq_M_read_153 (Q : Int32 → Int32 → Int32 → Int32 → Int32 → Int32 → (Nat → Int32) → Prop) (K35 : Int32 → Int32 → Int32 → Int32 → Int32 → Int32 → Int32 → Int32 → (Nat → Int32) → Prop) (mt : Nat → Int32) (x2 x3 x4 x5 x6 m_there m_newMode m_newWay m_newFeed m_ends : Int32) (mn : Nat → Int32) : Prop := (∃ n159 : Nat, wq_M_read_159 Q K35 mt n159 x2 x3 x4 x5 x6 (0 : Int32) (0 : Int32) m_there m_newMode m_newWay m_newFeed m_ends mn)
def wq_M_read_144 (Q : Int32 → Int32 → Int32 → Int32 → Int32 → Int32 → (Nat → Int32) → Prop) (K35 : Int32 → Int32 → Int32 → Int32 → Int32 → Int32 → Int32 → Int32 → (Nat → Int32) → Prop) (mt : Nat → Int32) (x2 x3 x4 x5 x6 m_there m_newMode m_newWay m_newFeed m_ends : Int32) (mn : Nat → Int32) : Prop := (wp_M_skip (x3 + (1 : Int32)) x2 mt (fun r149 => (wq_M_read_153 Q K35 mt x2 r149 x4 x5 x6 m_there m_newMode m_newWay m_newFeed m_ends mn)))
def wq_M_read_132 (Q : Int32 → Int32 → Int32 → Int32 → Int32 → Int32 → (Nat → Int32) → Prop) (K35 : Int32 → Int32 → Int32 → Int32 → Int32 → Int32 → Int32 → Int32 → (Nat → Int32) → Prop) (mt : Nat → Int32) (x2 x3 x4 x5 x6 s0 m_there m_newMode m_newWay m_newFeed m_ends : Int32) (mn : Nat → Int32) : Prop := ((¬ x6 = 0 → (wq_M_read_144 Q K35 mt x2 x3 x4 x5 x6 m_there m_newMode m_newWay m_newFeed m_ends mn)) ∧ (x6 = 0 → ((s0 = 0 → (wq_M_read_153 Q K35 mt x2 x3 x4 x5 x6 m_there m_newMode m_newWay m_newFeed m_ends mn)) ∧ (¬ s0 = 0 → (wq_M_read_144 Q K35 mt x2 x3 x4 x5 x6 m_there m_newMode m_newWay m_newFeed m_ends mn)))))
def wq_M_read_131 (Q : Int32 → Int32 → Int32 → Int32 → Int32 → Int32 → (Nat → Int32) → Prop) (K35 : Int32 → Int32 → Int32 → Int32 → Int32 → Int32 → Int32 → Int32 → (Nat → Int32) → Prop) (mt : Nat → Int32) (x2 x3 x4 x5 x6 m_there m_newMode m_newWay m_newFeed m_ends : Int32) (mn : Nat → Int32) : Prop := (wq_M_read_132 Q K35 mt x2 x3 x4 x5 x6 (0 : Int32) m_there m_newMode m_newWay m_newFeed m_ends mn)
def wq_M_read_103 (Q : Int32 → Int32 → Int32 → Int32 → Int32 → Int32 → (Nat → Int32) → Prop) (K35 : Int32 → Int32 → Int32 → Int32 → Int32 → Int32 → Int32 → Int32 → (Nat → Int32) → Prop) (mt : Nat → Int32) (x2 x3 x4 x5 s0 m_there m_newMode m_newWay m_newFeed m_ends : Int32) (mn : Nat → Int32) : Prop := ((x2 ≤ x3 → (wq_M_read_131 Q K35 mt x2 x3 x4 x5 s0 m_there m_newMode m_newWay m_newFeed m_ends mn)) ∧ (¬ x2 ≤ x3 → (vp_in x3 400 ∧ ((¬ (mt x3.toNatClampNeg) = (43 : Int32) → (wq_M_read_131 Q K35 mt x2 x3 x4 x5 s0 m_there m_newMode m_newWay m_newFeed m_ends mn)) ∧ ((mt x3.toNatClampNeg) = (43 : Int32) → (((4 : Int32) ≤ x5 → (wq_M_read_131 Q K35 mt x2 x3 x4 x5 s0 m_there m_newMode m_newWay m_newFeed m_ends mn)) ∧ (¬ (4 : Int32) ≤ x5 → (wq_M_read_132 Q K35 mt x2 x3 x4 x5 s0 (1 : Int32) m_there m_newMode m_newWay m_newFeed m_ends mn))))))))
def wq_M_read_102 (Q : Int32 → Int32 → Int32 → Int32 → Int32 → Int32 → (Nat → Int32) → Prop) (K35 : Int32 → Int32 → Int32 → Int32 → Int32 → Int32 → Int32 → Int32 → (Nat → Int32) → Prop) (mt : Nat → Int32) (x2 x3 x4 x5 m_there m_newMode m_newWay m_newFeed m_ends : Int32) (mn : Nat → Int32) : Prop := (wq_M_read_103 Q K35 mt x2 x3 x4 x5 (0 : Int32) m_there m_newMode m_newWay m_newFeed m_ends mn)
def wq_M_read_35 (Q : Int32 → Int32 → Int32 → Int32 → Int32 → Int32 → (Nat → Int32) → Prop) (mt : Nat → Int32) : Nat → Int32 → Int32 → Int32 → Int32 → Int32 → Int32 → Int32 → Int32 → (Nat → Int32) → Prop
  | 0, _, _, _, _, _, _, _, _, _ => False
  | n35 + 1, x2, x3, x4, m_there, m_newMode, m_newWay, m_newFeed, m_ends, mn => (((400 : Int32) ≤ x4 → (Q (0 : Int32) m_there m_newMode m_newWay m_newFeed m_ends mn)) ∧ (¬ (400 : Int32) ≤ x4 → ((x2 ≤ x3 → (Q (0 : Int32) m_there m_newMode m_newWay m_newFeed m_ends mn)) ∧ (¬ x2 ≤ x3 → (vp_in x3 400 ∧ (wp_M_letter (mt x3.toNatClampNeg) (fun r54 => ((0 ≤ r54 → (wp_M_skip (x3 + (1 : Int32)) x2 mt (fun r72 => ((x2 ≤ r72 → (wq_M_read_102 Q (fun x2 x3 x4 m_there m_newMode m_newWay m_newFeed m_ends mn => wq_M_read_35 Q mt n35 x2 x3 x4 m_there m_newMode m_newWay m_newFeed m_ends mn) mt x2 r72 x4 r54 m_there m_newMode m_newWay m_newFeed m_ends mn)) ∧ (¬ x2 ≤ r72 → (vp_in r72 400 ∧ ((¬ (mt r72.toNatClampNeg) = (45 : Int32) → (wq_M_read_102 Q (fun x2 x3 x4 m_there m_newMode m_newWay m_newFeed m_ends mn => wq_M_read_35 Q mt n35 x2 x3 x4 m_there m_newMode m_newWay m_newFeed m_ends mn) mt x2 r72 x4 r54 m_there m_newMode m_newWay m_newFeed m_ends mn)) ∧ ((mt r72.toNatClampNeg) = (45 : Int32) → (((4 : Int32) ≤ r54 → (wq_M_read_102 Q (fun x2 x3 x4 m_there m_newMode m_newWay m_newFeed m_ends mn => wq_M_read_35 Q mt n35 x2 x3 x4 m_there m_newMode m_newWay m_newFeed m_ends mn) mt x2 r72 x4 r54 m_there m_newMode m_newWay m_newFeed m_ends mn)) ∧ (¬ (4 : Int32) ≤ r54 → (wq_M_read_103 Q (fun x2 x3 x4 m_there m_newMode m_newWay m_newFeed m_ends mn => wq_M_read_35 Q mt n35 x2 x3 x4 m_there m_newMode m_newWay m_newFeed m_ends mn) mt x2 r72 x4 r54 (1 : Int32) m_there m_newMode m_newWay m_newFeed m_ends mn))))))))))) ∧ (¬ 0 ≤ r54 → (Q (101 : Int32) m_there m_newMode m_newWay m_newFeed m_ends mn))))))))))
def wp_M_read (x1 x2 m_there m_newMode m_newWay m_newFeed m_ends : Int32) (mt mn : Nat → Int32) (Q : Int32 → Int32 → Int32 → Int32 → Int32 → Int32 → (Nat → Int32) → Prop) : Prop := (wp_M_skip x1 x2 mt (fun r28 => (∃ n35 : Nat, wq_M_read_35 Q mt n35 x2 r28 (0 : Int32) (0 : Int32) (-1 : Int32) (-1 : Int32) (-1 : Int32) (-1 : Int32) mn)))
abbrev rm_M_read : Room := { frames := 1, cells := 0, slots := 0, locals := 23 }
set_option maxRecDepth 100000 in
set_option maxHeartbeats 4000000 in
theorem c_M_read (l : Launch) {D : va_G} {X : xT} {a : Nat → Nat} {K : Nat → ClassId} {tl : va_W} {e2 e3 : Nat × va_E} {x1 x2 m_length m_at m_lines m_x m_y m_mode m_feed m_state m_pulses m_last m_shown m_relative m_ending : Int32} {m_time m_pause : Int64} {m_kind m_made m_all m_fromX m_fromY m_wayX m_wayY m_points m_centreX m_centreY m_there m_newMode m_newWay m_newFeed m_ends : Int32} {mt mn : Nat → Int32} {Q : Int32 → Int32 → Int32 → Int32 → Int32 → Int32 → (Nat → Int32) → Prop} : MI l y_M_read b_M_read 12 rm_M_read D cls (tys K) X [.ref (a 10), .int x1, .int x2] ((o_M a m_length m_at m_lines m_x m_y m_mode m_feed m_state m_pulses m_last m_shown m_relative m_ending m_time m_pause m_kind m_made m_all m_fromX m_fromY m_wayX m_wayY m_points m_centreX m_centreY m_there m_newMode m_newWay m_newFeed m_ends) :: (o_mt a K mt) :: e2 :: e3 :: (o_mn a K mn) :: tl) (fun u : Int32 × Int32 × Int32 × Int32 × Int32 × (Nat → Int32) => (o_M a m_length m_at m_lines m_x m_y m_mode m_feed m_state m_pulses m_last m_shown m_relative m_ending m_time m_pause m_kind m_made m_all m_fromX m_fromY m_wayX m_wayY m_points m_centreX m_centreY u.1 u.2.1 u.2.2.1 u.2.2.2.1 u.2.2.2.2.1) :: (o_mt a K mt) :: e2 :: e3 :: (o_mn a K u.2.2.2.2.2) :: tl) (wp_M_read x1 x2 m_there m_newMode m_newWay m_newFeed m_ends mt mn Q) (fun r u => Q r u.1 u.2.1 u.2.2.1 u.2.2.2.1 u.2.2.2.2.1 u.2.2.2.2.2) := by
  refine my_of_I (by decide +kernel) (Nat.le_of_ble_eq_true rfl) (fun p e s m args below meth c A QQ H locs ls hx hb hts hown hml hK hX hA hP hD hS hl hw hret => ?_)
  replace hl : lv_has ls 12 [(0, .ref (a 10)), (1, .int x1), (2, .int x2)] := hl
  have J273 : ∀ (K35 : Int32 → Int32 → Int32 → Int32 → Int32 → Int32 → Int32 → Int32 → (Nat → Int32) → Prop) (hK35 : ∀ (H : Heap) (locs : List Loc) (ls : Array Slot) (x2 x3 x4 m_there m_newMode m_newWay m_newFeed m_ends : Int32) (mn : Nat → Int32), va_P D cls ((o_M a m_length m_at m_lines m_x m_y m_mode m_feed m_state m_pulses m_last m_shown m_relative m_ending m_time m_pause m_kind m_made m_all m_fromX m_fromY m_wayX m_wayY m_points m_centreX m_centreY m_there m_newMode m_newWay m_newFeed m_ends) :: (o_mt a K mt) :: e2 :: e3 :: (o_mn a K mn) :: tl) H → va_D A ((o_M a m_length m_at m_lines m_x m_y m_mode m_feed m_state m_pulses m_last m_shown m_relative m_ending m_time m_pause m_kind m_made m_all m_fromX m_fromY m_wayX m_wayY m_points m_centreX m_centreY m_there m_newMode m_newWay m_newFeed m_ends) :: (o_mt a K mt) :: e2 :: e3 :: (o_mn a K mn) :: tl) → va_S A s.heap H locs → lv_has ls 12 [(0, .ref (a 10)), (2, .int x2), (3, .int x3), (4, .int x4)] → K35 x2 x3 x4 m_there m_newMode m_newWay m_newFeed m_ends mn → W p l e rm_M_read s m args below meth c H locs 0 0 QQ (F0 m 35 ls [])) (H : Heap) (locs : List Loc) (ls : Array Slot) (x2 x3 x4 s1 s2 m_there m_newMode m_newWay m_newFeed m_ends : Int32) (mn : Nat → Int32), va_P D cls ((o_M a m_length m_at m_lines m_x m_y m_mode m_feed m_state m_pulses m_last m_shown m_relative m_ending m_time m_pause m_kind m_made m_all m_fromX m_fromY m_wayX m_wayY m_points m_centreX m_centreY m_there m_newMode m_newWay m_newFeed m_ends) :: (o_mt a K mt) :: e2 :: e3 :: (o_mn a K mn) :: tl) H → va_D A ((o_M a m_length m_at m_lines m_x m_y m_mode m_feed m_state m_pulses m_last m_shown m_relative m_ending m_time m_pause m_kind m_made m_all m_fromX m_fromY m_wayX m_wayY m_points m_centreX m_centreY m_there m_newMode m_newWay m_newFeed m_ends) :: (o_mt a K mt) :: e2 :: e3 :: (o_mn a K mn) :: tl) → va_S A s.heap H locs → lv_has ls 12 [(0, .ref (a 10)), (2, .int x2), (3, .int x3), (4, .int x4)] → wq_M_read_273 Q K35 mt x2 x3 x4 s1 s2 m_there m_newMode m_newWay m_newFeed m_ends mn → W p l e rm_M_read s m args below meth c H locs 0 0 QQ (F0 m 273 ls [.int s2, .int s1, .ref (a 10)]) := by
    intro K35 hK35 H locs ls x2 x3 x4 s1 s2 m_there m_newMode m_newWay m_newFeed m_ends mn hP hD hS hl hw
    unfold wq_M_read_273 at hw
    refine my_calli (va_runV (As := [.int s1, .int s2]) (rest := []) ⟨hx, hb, hml, hown, hts⟩ (c_M_keep l H.size) (cw_M_103 hts ⟨Nat.le_of_ble_eq_true rfl, Nat.le_of_ble_eq_true rfl⟩) (my_preV hK hP hX hD hS hA 0 rfl rfl hw) rfl rfl hl.1 rfl (lv_room (Nat.le_of_ble_eq_true rfl)) d_M_read_273 ⟨Nat.le_refl _, Nat.le_refl _⟩) hD hS hA (fun r273 u H locs hw hP hD hS => ?_)
    obtain ⟨m_there_273, m_newMode_273, m_newWay_273, m_newFeed_273, m_ends_273, mn_273⟩ := u
    dsimp only at hw
    have hP : va_P D cls ((o_M a m_length m_at m_lines m_x m_y m_mode m_feed m_state m_pulses m_last m_shown m_relative m_ending m_time m_pause m_kind m_made m_all m_fromX m_fromY m_wayX m_wayY m_points m_centreX m_centreY m_there_273 m_newMode_273 m_newWay_273 m_newFeed_273 m_ends_273) :: (o_mt a K mt) :: e2 :: e3 :: (o_mn a K mn_273) :: tl) H := hP
    have hD : va_D A ((o_M a m_length m_at m_lines m_x m_y m_mode m_feed m_state m_pulses m_last m_shown m_relative m_ending m_time m_pause m_kind m_made m_all m_fromX m_fromY m_wayX m_wayY m_points m_centreX m_centreY m_there_273 m_newMode_273 m_newWay_273 m_newFeed_273 m_ends_273) :: (o_mt a K mt) :: e2 :: e3 :: (o_mn a K mn_273) :: tl) := hD
    refine lv_istore (lv' := [(11, .int r273), (0, .ref (a 10)), (2, .int x2), (3, .int x3), (4, .int x4)]) hx hb d_M_read_276 hl (Nat.le_of_ble_eq_true rfl) rfl (fun ls hl => ?_)
    refine lv_iload hx hb d_M_read_278 (lv_at hl 0 rfl) ?_
    refine lv_if_le (tgt := 286) hx hb d_M_read_280 (by decide) (fun hc => ?_) (fun hc => ?_)
    · replace hw := hw.1 hc
      refine lv_iinc (k := 4) (v := x4 + (1 : Int32)) (lv' := [(4, .int (x4 + (1 : Int32))), (11, .int r273), (0, .ref (a 10)), (2, .int x2), (3, .int x3)]) hx hb d_M_read_286 hl rfl (iinc_1 _) (Nat.le_of_ble_eq_true rfl) rfl (fun ls hl => ?_)
      refine lv_goto (tgt := 35) hx hb d_M_read_289 (by decide) ?_
      exact hK35 H locs ls x2 x3 (x4 + (1 : Int32)) m_there_273 m_newMode_273 m_newWay_273 m_newFeed_273 m_ends_273 mn_273 hP hD hS (lv_sub hl [2, 3, 4, 0] rfl) hw
    · replace hw := hw.2 hc
      refine lv_iload hx hb d_M_read_283 (lv_at hl 0 rfl) ?_
      exact hret H locs ls 285 (r273) ((m_there_273, m_newMode_273, m_newWay_273, m_newFeed_273, m_ends_273, mn_273)) d_M_read_285 hP hD hS hw
  have J239 : ∀ (K35 : Int32 → Int32 → Int32 → Int32 → Int32 → Int32 → Int32 → Int32 → (Nat → Int32) → Prop) (hK35 : ∀ (H : Heap) (locs : List Loc) (ls : Array Slot) (x2 x3 x4 m_there m_newMode m_newWay m_newFeed m_ends : Int32) (mn : Nat → Int32), va_P D cls ((o_M a m_length m_at m_lines m_x m_y m_mode m_feed m_state m_pulses m_last m_shown m_relative m_ending m_time m_pause m_kind m_made m_all m_fromX m_fromY m_wayX m_wayY m_points m_centreX m_centreY m_there m_newMode m_newWay m_newFeed m_ends) :: (o_mt a K mt) :: e2 :: e3 :: (o_mn a K mn) :: tl) H → va_D A ((o_M a m_length m_at m_lines m_x m_y m_mode m_feed m_state m_pulses m_last m_shown m_relative m_ending m_time m_pause m_kind m_made m_all m_fromX m_fromY m_wayX m_wayY m_points m_centreX m_centreY m_there m_newMode m_newWay m_newFeed m_ends) :: (o_mt a K mt) :: e2 :: e3 :: (o_mn a K mn) :: tl) → va_S A s.heap H locs → lv_has ls 12 [(0, .ref (a 10)), (2, .int x2), (3, .int x3), (4, .int x4)] → K35 x2 x3 x4 m_there m_newMode m_newWay m_newFeed m_ends mn → W p l e rm_M_read s m args below meth c H locs 0 0 QQ (F0 m 35 ls [])) (H : Heap) (locs : List Loc) (ls : Array Slot) (x2 x3 x4 x5 x6 x8 x9 s0 m_there m_newMode m_newWay m_newFeed m_ends : Int32) (mn : Nat → Int32), va_P D cls ((o_M a m_length m_at m_lines m_x m_y m_mode m_feed m_state m_pulses m_last m_shown m_relative m_ending m_time m_pause m_kind m_made m_all m_fromX m_fromY m_wayX m_wayY m_points m_centreX m_centreY m_there m_newMode m_newWay m_newFeed m_ends) :: (o_mt a K mt) :: e2 :: e3 :: (o_mn a K mn) :: tl) H → va_D A ((o_M a m_length m_at m_lines m_x m_y m_mode m_feed m_state m_pulses m_last m_shown m_relative m_ending m_time m_pause m_kind m_made m_all m_fromX m_fromY m_wayX m_wayY m_points m_centreX m_centreY m_there m_newMode m_newWay m_newFeed m_ends) :: (o_mt a K mt) :: e2 :: e3 :: (o_mn a K mn) :: tl) → va_S A s.heap H locs → lv_has ls 12 [(0, .ref (a 10)), (2, .int x2), (3, .int x3), (4, .int x4), (5, .int x5), (6, .int x6), (8, .int x8), (9, .int x9)] → wq_M_read_239 Q K35 mt x2 x3 x4 x5 x6 x8 x9 s0 m_there m_newMode m_newWay m_newFeed m_ends mn → W p l e rm_M_read s m args below meth c H locs 0 0 QQ (F0 m 239 ls [.int s0]) := by
    intro K35 hK35 H locs ls x2 x3 x4 x5 x6 x8 x9 s0 m_there m_newMode m_newWay m_newFeed m_ends mn hP hD hS hl hw
    unfold wq_M_read_239 at hw
    refine lv_istore (lv' := [(10, .int s0), (0, .ref (a 10)), (2, .int x2), (3, .int x3), (4, .int x4), (5, .int x5), (6, .int x6), (8, .int x8), (9, .int x9)]) hx hb d_M_read_239 hl (Nat.le_of_ble_eq_true rfl) rfl (fun ls hl => ?_)
    refine lv_iload hx hb d_M_read_241 (lv_at hl 8 rfl) ?_
    refine lv_iconst (v := (1 : Int32)) hx hb d_M_read_243 (by decide) ?_
    refine lv_icmp_lt (tgt := 254) hx hb d_M_read_244 (by decide) (fun hc => ?_) (fun hc => ?_)
    · replace hw := hw.1 hc
      refine lv_bipush (v := (101 : Int32)) hx hb d_M_read_254 (by decide) ?_
      exact hret H locs ls 256 ((101 : Int32)) ((m_there, m_newMode, m_newWay, m_newFeed, m_ends, mn)) d_M_read_256 hP hD hS hw
    · replace hw := hw.2 hc
      refine lv_iload hx hb d_M_read_247 (lv_at hl 8 rfl) ?_
      refine lv_iload hx hb d_M_read_249 (lv_at hl 0 rfl) ?_
      refine lv_icmp_le (tgt := 257) hx hb d_M_read_251 (by decide) (fun hc => ?_) (fun hc => ?_)
      · replace hw := hw.1 hc
        refine lv_aload_n hx hb d_M_read_257 rfl (lv_at hl 1 rfl) ?_
        refine lv_iload hx hb d_M_read_258 (lv_at hl 5 rfl) ?_
        refine lv_iload hx hb d_M_read_260 (lv_at hl 6 rfl) ?_
        refine lv_if_eq (tgt := 271) hx hb d_M_read_262 (by decide) (fun hc => ?_) (fun hc => ?_)
        · replace hw := hw.1 hc
          refine lv_iload hx hb d_M_read_271 (lv_at hl 7 rfl) ?_
          exact J273 K35 hK35 H locs ls x2 x3 x4 x5 x8 m_there m_newMode m_newWay m_newFeed m_ends mn hP hD hS (lv_sub hl [1, 2, 3, 4] rfl) hw
        · replace hw := hw.2 hc
          refine lv_iload hx hb d_M_read_265 (lv_at hl 7 rfl) ?_
          refine lv_ineg hx hb d_M_read_267 ?_
          refine lv_goto (tgt := 273) hx hb d_M_read_268 (by decide) ?_
          exact J273 K35 hK35 H locs ls x2 x3 x4 x5 (-x8) m_there m_newMode m_newWay m_newFeed m_ends mn hP hD hS (lv_sub hl [1, 2, 3, 4] rfl) hw
      · replace hw := hw.2 hc
        refine lv_bipush (v := (101 : Int32)) hx hb d_M_read_254 (by decide) ?_
        exact hret H locs ls 256 ((101 : Int32)) ((m_there, m_newMode, m_newWay, m_newFeed, m_ends, mn)) d_M_read_256 hP hD hS hw
  have J218 : ∀ (K35 : Int32 → Int32 → Int32 → Int32 → Int32 → Int32 → Int32 → Int32 → (Nat → Int32) → Prop) (hK35 : ∀ (H : Heap) (locs : List Loc) (ls : Array Slot) (x2 x3 x4 m_there m_newMode m_newWay m_newFeed m_ends : Int32) (mn : Nat → Int32), va_P D cls ((o_M a m_length m_at m_lines m_x m_y m_mode m_feed m_state m_pulses m_last m_shown m_relative m_ending m_time m_pause m_kind m_made m_all m_fromX m_fromY m_wayX m_wayY m_points m_centreX m_centreY m_there m_newMode m_newWay m_newFeed m_ends) :: (o_mt a K mt) :: e2 :: e3 :: (o_mn a K mn) :: tl) H → va_D A ((o_M a m_length m_at m_lines m_x m_y m_mode m_feed m_state m_pulses m_last m_shown m_relative m_ending m_time m_pause m_kind m_made m_all m_fromX m_fromY m_wayX m_wayY m_points m_centreX m_centreY m_there m_newMode m_newWay m_newFeed m_ends) :: (o_mt a K mt) :: e2 :: e3 :: (o_mn a K mn) :: tl) → va_S A s.heap H locs → lv_has ls 12 [(0, .ref (a 10)), (2, .int x2), (3, .int x3), (4, .int x4)] → K35 x2 x3 x4 m_there m_newMode m_newWay m_newFeed m_ends mn → W p l e rm_M_read s m args below meth c H locs 0 0 QQ (F0 m 35 ls [])) (H : Heap) (locs : List Loc) (ls : Array Slot) (x2 x3 x4 x5 x6 x8 x9 m_there m_newMode m_newWay m_newFeed m_ends : Int32) (mn : Nat → Int32), va_P D cls ((o_M a m_length m_at m_lines m_x m_y m_mode m_feed m_state m_pulses m_last m_shown m_relative m_ending m_time m_pause m_kind m_made m_all m_fromX m_fromY m_wayX m_wayY m_points m_centreX m_centreY m_there m_newMode m_newWay m_newFeed m_ends) :: (o_mt a K mt) :: e2 :: e3 :: (o_mn a K mn) :: tl) H → va_D A ((o_M a m_length m_at m_lines m_x m_y m_mode m_feed m_state m_pulses m_last m_shown m_relative m_ending m_time m_pause m_kind m_made m_all m_fromX m_fromY m_wayX m_wayY m_points m_centreX m_centreY m_there m_newMode m_newWay m_newFeed m_ends) :: (o_mt a K mt) :: e2 :: e3 :: (o_mn a K mn) :: tl) → va_S A s.heap H locs → lv_has ls 12 [(0, .ref (a 10)), (2, .int x2), (3, .int x3), (4, .int x4), (5, .int x5), (6, .int x6), (8, .int x8), (9, .int x9)] → wq_M_read_218 Q K35 mt x2 x3 x4 x5 x6 x8 x9 m_there m_newMode m_newWay m_newFeed m_ends mn → W p l e rm_M_read s m args below meth c H locs 0 0 QQ (F0 m 218 ls []) := by
    intro K35 hK35 H locs ls x2 x3 x4 x5 x6 x8 x9 m_there m_newMode m_newWay m_newFeed m_ends mn hP hD hS hl hw
    unfold wq_M_read_218 at hw
    refine lv_iload hx hb d_M_read_218 (lv_at hl 4 rfl) ?_
    refine lv_iconst (v := (4 : Int32)) hx hb d_M_read_220 (by decide) ?_
    refine lv_icmp_ge (tgt := 228) hx hb d_M_read_221 (by decide) (fun hc => ?_) (fun hc => ?_)
    · replace hw := hw.1 hc
      refine lv_iload hx hb d_M_read_228 (lv_at hl 4 rfl) ?_
      refine lv_iconst (v := (4 : Int32)) hx hb d_M_read_230 (by decide) ?_
      refine lv_icmp_ne (tgt := 238) hx hb d_M_read_231 (by decide) (fun hc => ?_) (fun hc => ?_)
      · replace hw := hw.1 hc
        refine lv_iconst (v := (2 : Int32)) hx hb d_M_read_238 (by decide) ?_
        exact J239 K35 hK35 H locs ls x2 x3 x4 x5 x6 x8 x9 (2 : Int32) m_there m_newMode m_newWay m_newFeed m_ends mn hP hD hS (lv_sub hl [0, 1, 2, 3, 4, 5, 6, 7] rfl) hw
      · replace hw := hw.2 hc
        refine lv_iconst (v := (5 : Int32)) hx hb d_M_read_234 (by decide) ?_
        refine lv_goto (tgt := 239) hx hb d_M_read_235 (by decide) ?_
        exact J239 K35 hK35 H locs ls x2 x3 x4 x5 x6 x8 x9 (5 : Int32) m_there m_newMode m_newWay m_newFeed m_ends mn hP hD hS (lv_sub hl [0, 1, 2, 3, 4, 5, 6, 7] rfl) hw
    · replace hw := hw.2 hc
      refine lv_iconst (v := (4 : Int32)) hx hb d_M_read_224 (by decide) ?_
      refine lv_goto (tgt := 239) hx hb d_M_read_225 (by decide) ?_
      exact J239 K35 hK35 H locs ls x2 x3 x4 x5 x6 x8 x9 (4 : Int32) m_there m_newMode m_newWay m_newFeed m_ends mn hP hD hS (lv_sub hl [0, 1, 2, 3, 4, 5, 6, 7] rfl) hw
  have J200 : ∀ (K35 : Int32 → Int32 → Int32 → Int32 → Int32 → Int32 → Int32 → Int32 → (Nat → Int32) → Prop) (hK35 : ∀ (H : Heap) (locs : List Loc) (ls : Array Slot) (x2 x3 x4 m_there m_newMode m_newWay m_newFeed m_ends : Int32) (mn : Nat → Int32), va_P D cls ((o_M a m_length m_at m_lines m_x m_y m_mode m_feed m_state m_pulses m_last m_shown m_relative m_ending m_time m_pause m_kind m_made m_all m_fromX m_fromY m_wayX m_wayY m_points m_centreX m_centreY m_there m_newMode m_newWay m_newFeed m_ends) :: (o_mt a K mt) :: e2 :: e3 :: (o_mn a K mn) :: tl) H → va_D A ((o_M a m_length m_at m_lines m_x m_y m_mode m_feed m_state m_pulses m_last m_shown m_relative m_ending m_time m_pause m_kind m_made m_all m_fromX m_fromY m_wayX m_wayY m_points m_centreX m_centreY m_there m_newMode m_newWay m_newFeed m_ends) :: (o_mt a K mt) :: e2 :: e3 :: (o_mn a K mn) :: tl) → va_S A s.heap H locs → lv_has ls 12 [(0, .ref (a 10)), (2, .int x2), (3, .int x3), (4, .int x4)] → K35 x2 x3 x4 m_there m_newMode m_newWay m_newFeed m_ends mn → W p l e rm_M_read s m args below meth c H locs 0 0 QQ (F0 m 35 ls [])) (K159 : Int32 → Int32 → Int32 → Int32 → Int32 → Int32 → Int32 → Int32 → Int32 → Int32 → Int32 → Int32 → (Nat → Int32) → Prop) (hK159 : ∀ (H : Heap) (locs : List Loc) (ls : Array Slot) (x2 x3 x4 x5 x6 x8 x9 m_there m_newMode m_newWay m_newFeed m_ends : Int32) (mn : Nat → Int32), va_P D cls ((o_M a m_length m_at m_lines m_x m_y m_mode m_feed m_state m_pulses m_last m_shown m_relative m_ending m_time m_pause m_kind m_made m_all m_fromX m_fromY m_wayX m_wayY m_points m_centreX m_centreY m_there m_newMode m_newWay m_newFeed m_ends) :: (o_mt a K mt) :: e2 :: e3 :: (o_mn a K mn) :: tl) H → va_D A ((o_M a m_length m_at m_lines m_x m_y m_mode m_feed m_state m_pulses m_last m_shown m_relative m_ending m_time m_pause m_kind m_made m_all m_fromX m_fromY m_wayX m_wayY m_points m_centreX m_centreY m_there m_newMode m_newWay m_newFeed m_ends) :: (o_mt a K mt) :: e2 :: e3 :: (o_mn a K mn) :: tl) → va_S A s.heap H locs → lv_has ls 12 [(0, .ref (a 10)), (2, .int x2), (3, .int x3), (4, .int x4), (5, .int x5), (6, .int x6), (8, .int x8), (9, .int x9)] → K159 x2 x3 x4 x5 x6 x8 x9 m_there m_newMode m_newWay m_newFeed m_ends mn → W p l e rm_M_read s m args below meth c H locs 0 0 QQ (F0 m 159 ls [])) (H : Heap) (locs : List Loc) (ls : Array Slot) (x2 x3 x4 x5 x6 x8 x9 m_there m_newMode m_newWay m_newFeed m_ends : Int32) (mn : Nat → Int32), va_P D cls ((o_M a m_length m_at m_lines m_x m_y m_mode m_feed m_state m_pulses m_last m_shown m_relative m_ending m_time m_pause m_kind m_made m_all m_fromX m_fromY m_wayX m_wayY m_points m_centreX m_centreY m_there m_newMode m_newWay m_newFeed m_ends) :: (o_mt a K mt) :: e2 :: e3 :: (o_mn a K mn) :: tl) H → va_D A ((o_M a m_length m_at m_lines m_x m_y m_mode m_feed m_state m_pulses m_last m_shown m_relative m_ending m_time m_pause m_kind m_made m_all m_fromX m_fromY m_wayX m_wayY m_points m_centreX m_centreY m_there m_newMode m_newWay m_newFeed m_ends) :: (o_mt a K mt) :: e2 :: e3 :: (o_mn a K mn) :: tl) → va_S A s.heap H locs → lv_has ls 12 [(0, .ref (a 10)), (2, .int x2), (3, .int x3), (4, .int x4), (5, .int x5), (6, .int x6), (8, .int x8), (9, .int x9)] → wq_M_read_200 Q K35 K159 mt x2 x3 x4 x5 x6 x8 x9 m_there m_newMode m_newWay m_newFeed m_ends mn → W p l e rm_M_read s m args below meth c H locs 0 0 QQ (F0 m 200 ls []) := by
    intro K35 hK35 K159 hK159 H locs ls x2 x3 x4 x5 x6 x8 x9 m_there m_newMode m_newWay m_newFeed m_ends mn hP hD hS hl hw
    unfold wq_M_read_200 at hw
    refine lv_iload hx hb d_M_read_200 (lv_at hl 7 rfl) ?_
    refine lv_iconst (v := (1 : Int32)) hx hb d_M_read_202 (by decide) ?_
    refine lv_iadd hx hb d_M_read_203 ?_
    refine lv_istore (lv' := [(9, .int (x9 + (1 : Int32))), (0, .ref (a 10)), (2, .int x2), (3, .int x3), (4, .int x4), (5, .int x5), (6, .int x6), (8, .int x8)]) hx hb d_M_read_204 hl (Nat.le_of_ble_eq_true rfl) rfl (fun ls hl => ?_)
    refine lv_aload_n hx hb d_M_read_206 rfl (lv_at hl 1 rfl) ?_
    refine lv_iload_n hx hb d_M_read_207 rfl (lv_at hl 3 rfl) ?_
    refine lv_iconst (v := (1 : Int32)) hx hb d_M_read_208 (by decide) ?_
    refine lv_iadd hx hb d_M_read_209 ?_
    refine lv_iload_n hx hb d_M_read_210 rfl (lv_at hl 2 rfl) ?_
    refine my_calli (va_runV (As := [.int (x3 + (1 : Int32)), .int x2]) (rest := []) ⟨hx, hb, hml, hown, hts⟩ (c_M_skip l H.size) (cw_M_91 hts ⟨Nat.le_of_ble_eq_true rfl, Nat.le_of_ble_eq_true rfl⟩) (my_preV hK hP hX hD hS hA 0 rfl rfl hw) rfl rfl hl.1 rfl (lv_room (Nat.le_of_ble_eq_true rfl)) d_M_read_211 ⟨Nat.le_refl _, Nat.le_refl _⟩) hD hS hA (fun r211 _ H locs hw hP hD hS => ?_)
    have hP : va_P D cls ((o_M a m_length m_at m_lines m_x m_y m_mode m_feed m_state m_pulses m_last m_shown m_relative m_ending m_time m_pause m_kind m_made m_all m_fromX m_fromY m_wayX m_wayY m_points m_centreX m_centreY m_there m_newMode m_newWay m_newFeed m_ends) :: (o_mt a K mt) :: e2 :: e3 :: (o_mn a K mn) :: tl) H := hP
    have hD : va_D A ((o_M a m_length m_at m_lines m_x m_y m_mode m_feed m_state m_pulses m_last m_shown m_relative m_ending m_time m_pause m_kind m_made m_all m_fromX m_fromY m_wayX m_wayY m_points m_centreX m_centreY m_there m_newMode m_newWay m_newFeed m_ends) :: (o_mt a K mt) :: e2 :: e3 :: (o_mn a K mn) :: tl) := hD
    refine lv_istore_n (lv' := [(3, .int r211), (9, .int (x9 + (1 : Int32))), (0, .ref (a 10)), (2, .int x2), (4, .int x4), (5, .int x5), (6, .int x6), (8, .int x8)]) hx hb d_M_read_214 rfl hl (Nat.le_of_ble_eq_true rfl) rfl (fun ls hl => ?_)
    refine lv_goto (tgt := 159) hx hb d_M_read_215 (by decide) ?_
    exact hK159 H locs ls x2 r211 x4 x5 x6 x8 (x9 + (1 : Int32)) m_there m_newMode m_newWay m_newFeed m_ends mn hP hD hS (lv_sub hl [2, 3, 0, 4, 5, 6, 7, 1] rfl) hw
  have J159 : ∀ (K35 : Int32 → Int32 → Int32 → Int32 → Int32 → Int32 → Int32 → Int32 → (Nat → Int32) → Prop) (hK35 : ∀ (H : Heap) (locs : List Loc) (ls : Array Slot) (x2 x3 x4 m_there m_newMode m_newWay m_newFeed m_ends : Int32) (mn : Nat → Int32), va_P D cls ((o_M a m_length m_at m_lines m_x m_y m_mode m_feed m_state m_pulses m_last m_shown m_relative m_ending m_time m_pause m_kind m_made m_all m_fromX m_fromY m_wayX m_wayY m_points m_centreX m_centreY m_there m_newMode m_newWay m_newFeed m_ends) :: (o_mt a K mt) :: e2 :: e3 :: (o_mn a K mn) :: tl) H → va_D A ((o_M a m_length m_at m_lines m_x m_y m_mode m_feed m_state m_pulses m_last m_shown m_relative m_ending m_time m_pause m_kind m_made m_all m_fromX m_fromY m_wayX m_wayY m_points m_centreX m_centreY m_there m_newMode m_newWay m_newFeed m_ends) :: (o_mt a K mt) :: e2 :: e3 :: (o_mn a K mn) :: tl) → va_S A s.heap H locs → lv_has ls 12 [(0, .ref (a 10)), (2, .int x2), (3, .int x3), (4, .int x4)] → K35 x2 x3 x4 m_there m_newMode m_newWay m_newFeed m_ends mn → W p l e rm_M_read s m args below meth c H locs 0 0 QQ (F0 m 35 ls [])) (n159 : Nat) (H : Heap) (locs : List Loc) (ls : Array Slot) (x2 x3 x4 x5 x6 x8 x9 m_there m_newMode m_newWay m_newFeed m_ends : Int32) (mn : Nat → Int32), va_P D cls ((o_M a m_length m_at m_lines m_x m_y m_mode m_feed m_state m_pulses m_last m_shown m_relative m_ending m_time m_pause m_kind m_made m_all m_fromX m_fromY m_wayX m_wayY m_points m_centreX m_centreY m_there m_newMode m_newWay m_newFeed m_ends) :: (o_mt a K mt) :: e2 :: e3 :: (o_mn a K mn) :: tl) H → va_D A ((o_M a m_length m_at m_lines m_x m_y m_mode m_feed m_state m_pulses m_last m_shown m_relative m_ending m_time m_pause m_kind m_made m_all m_fromX m_fromY m_wayX m_wayY m_points m_centreX m_centreY m_there m_newMode m_newWay m_newFeed m_ends) :: (o_mt a K mt) :: e2 :: e3 :: (o_mn a K mn) :: tl) → va_S A s.heap H locs → lv_has ls 12 [(0, .ref (a 10)), (2, .int x2), (3, .int x3), (4, .int x4), (5, .int x5), (6, .int x6), (8, .int x8), (9, .int x9)] → wq_M_read_159 Q K35 mt n159 x2 x3 x4 x5 x6 x8 x9 m_there m_newMode m_newWay m_newFeed m_ends mn → W p l e rm_M_read s m args below meth c H locs 0 0 QQ (F0 m 159 ls []) := by
    intro K35 hK35 n159
    induction n159 with
    | zero => intro H locs ls x2 x3 x4 x5 x6 x8 x9 m_there m_newMode m_newWay m_newFeed m_ends mn hP hD hS hl hw; exact False.elim hw
    | succ n159 ih =>
      intro H locs ls x2 x3 x4 x5 x6 x8 x9 m_there m_newMode m_newWay m_newFeed m_ends mn hP hD hS hl hw
      unfold wq_M_read_159 at hw
      refine lv_iload_n hx hb d_M_read_159 rfl (lv_at hl 2 rfl) ?_
      refine lv_iload_n hx hb d_M_read_160 rfl (lv_at hl 1 rfl) ?_
      refine lv_icmp_ge (tgt := 218) hx hb d_M_read_161 (by decide) (fun hc => ?_) (fun hc => ?_)
      · replace hw := hw.1 hc
        exact J218 K35 hK35 H locs ls x2 x3 x4 x5 x6 x8 x9 m_there m_newMode m_newWay m_newFeed m_ends mn hP hD hS (lv_sub hl [0, 1, 2, 3, 4, 5, 6, 7] rfl) hw
      · replace hw := hw.2 hc
        refine lv_aload_n hx hb d_M_read_164 rfl (lv_at hl 0 rfl) ?_
        refine g_M_text hx hb hts hown hK hP 0 rfl rfl d_M_read_165 ?_
        refine lv_iload_n hx hb d_M_read_168 rfl (lv_at hl 2 rfl) ?_
        refine va_iald hx hb hK hP 1 5 rfl rfl hw.1 d_M_read_169 ?_
        replace hw := hw.2
        refine my_calli (va_runS (As := [.int (mt x3.toNatClampNeg)]) (rest := []) ⟨hx, hb, hml, hown, hts⟩ (c_M_digit l H.size) (cw_M_99 hts ⟨Nat.le_of_ble_eq_true rfl, Nat.le_of_ble_eq_true rfl⟩) (my_preS hK hP hX hD hS hA hw) rfl rfl hl.1 rfl (lv_room (Nat.le_of_ble_eq_true rfl)) d_M_read_170 ⟨Nat.le_refl _, Nat.le_refl _⟩) hD hS hA (fun r170 _ H locs hw hP hD hS => ?_)
        have hP : va_P D cls ((o_M a m_length m_at m_lines m_x m_y m_mode m_feed m_state m_pulses m_last m_shown m_relative m_ending m_time m_pause m_kind m_made m_all m_fromX m_fromY m_wayX m_wayY m_points m_centreX m_centreY m_there m_newMode m_newWay m_newFeed m_ends) :: (o_mt a K mt) :: e2 :: e3 :: (o_mn a K mn) :: tl) H := hP
        have hD : va_D A ((o_M a m_length m_at m_lines m_x m_y m_mode m_feed m_state m_pulses m_last m_shown m_relative m_ending m_time m_pause m_kind m_made m_all m_fromX m_fromY m_wayX m_wayY m_points m_centreX m_centreY m_there m_newMode m_newWay m_newFeed m_ends) :: (o_mt a K mt) :: e2 :: e3 :: (o_mn a K mn) :: tl) := hD
        refine lv_if_eq (tgt := 218) hx hb d_M_read_173 (by decide) (fun hc => ?_) (fun hc => ?_)
        · replace hw := hw.1 hc
          exact J218 K35 hK35 H locs ls x2 x3 x4 x5 x6 x8 x9 m_there m_newMode m_newWay m_newFeed m_ends mn hP hD hS (lv_sub hl [0, 1, 2, 3, 4, 5, 6, 7] rfl) hw
        · replace hw := hw.2 hc
          refine lv_iload hx hb d_M_read_176 (lv_at hl 7 rfl) ?_
          refine lv_bipush (v := (6 : Int32)) hx hb d_M_read_178 (by decide) ?_
          refine lv_icmp_ge (tgt := 200) hx hb d_M_read_180 (by decide) (fun hc => ?_) (fun hc => ?_)
          · replace hw := hw.1 hc
            exact J200 K35 hK35 (fun x2 x3 x4 x5 x6 x8 x9 m_there m_newMode m_newWay m_newFeed m_ends mn => wq_M_read_159 Q K35 mt n159 x2 x3 x4 x5 x6 x8 x9 m_there m_newMode m_newWay m_newFeed m_ends mn) ih H locs ls x2 x3 x4 x5 x6 x8 x9 m_there m_newMode m_newWay m_newFeed m_ends mn hP hD hS (lv_sub hl [0, 1, 2, 3, 4, 5, 6, 7] rfl) hw
          · replace hw := hw.2 hc
            refine lv_bipush (v := (10 : Int32)) hx hb d_M_read_183 (by decide) ?_
            refine lv_iload hx hb d_M_read_185 (lv_at hl 6 rfl) ?_
            refine lv_imul hx hb d_M_read_187 ?_
            refine lv_aload_n hx hb d_M_read_188 rfl (lv_at hl 0 rfl) ?_
            refine g_M_text hx hb hts hown hK hP 0 rfl rfl d_M_read_189 ?_
            refine lv_iload_n hx hb d_M_read_192 rfl (lv_at hl 2 rfl) ?_
            refine va_iald hx hb hK hP 1 5 rfl rfl hw.1 d_M_read_193 ?_
            replace hw := hw.2
            refine lv_iadd hx hb d_M_read_194 ?_
            refine lv_bipush (v := (48 : Int32)) hx hb d_M_read_195 (by decide) ?_
            refine lv_isub hx hb d_M_read_197 ?_
            refine lv_istore (lv' := [(8, .int ((((10 : Int32) * x8) + (mt x3.toNatClampNeg)) - (48 : Int32))), (0, .ref (a 10)), (2, .int x2), (3, .int x3), (4, .int x4), (5, .int x5), (6, .int x6), (9, .int x9)]) hx hb d_M_read_198 hl (Nat.le_of_ble_eq_true rfl) rfl (fun ls hl => ?_)
            exact J200 K35 hK35 (fun x2 x3 x4 x5 x6 x8 x9 m_there m_newMode m_newWay m_newFeed m_ends mn => wq_M_read_159 Q K35 mt n159 x2 x3 x4 x5 x6 x8 x9 m_there m_newMode m_newWay m_newFeed m_ends mn) ih H locs ls x2 x3 x4 x5 x6 ((((10 : Int32) * x8) + (mt x3.toNatClampNeg)) - (48 : Int32)) x9 m_there m_newMode m_newWay m_newFeed m_ends mn hP hD hS (lv_sub hl [1, 2, 3, 4, 5, 6, 0, 7] rfl) hw
  have J153 : ∀ (K35 : Int32 → Int32 → Int32 → Int32 → Int32 → Int32 → Int32 → Int32 → (Nat → Int32) → Prop) (hK35 : ∀ (H : Heap) (locs : List Loc) (ls : Array Slot) (x2 x3 x4 m_there m_newMode m_newWay m_newFeed m_ends : Int32) (mn : Nat → Int32), va_P D cls ((o_M a m_length m_at m_lines m_x m_y m_mode m_feed m_state m_pulses m_last m_shown m_relative m_ending m_time m_pause m_kind m_made m_all m_fromX m_fromY m_wayX m_wayY m_points m_centreX m_centreY m_there m_newMode m_newWay m_newFeed m_ends) :: (o_mt a K mt) :: e2 :: e3 :: (o_mn a K mn) :: tl) H → va_D A ((o_M a m_length m_at m_lines m_x m_y m_mode m_feed m_state m_pulses m_last m_shown m_relative m_ending m_time m_pause m_kind m_made m_all m_fromX m_fromY m_wayX m_wayY m_points m_centreX m_centreY m_there m_newMode m_newWay m_newFeed m_ends) :: (o_mt a K mt) :: e2 :: e3 :: (o_mn a K mn) :: tl) → va_S A s.heap H locs → lv_has ls 12 [(0, .ref (a 10)), (2, .int x2), (3, .int x3), (4, .int x4)] → K35 x2 x3 x4 m_there m_newMode m_newWay m_newFeed m_ends mn → W p l e rm_M_read s m args below meth c H locs 0 0 QQ (F0 m 35 ls [])) (H : Heap) (locs : List Loc) (ls : Array Slot) (x2 x3 x4 x5 x6 m_there m_newMode m_newWay m_newFeed m_ends : Int32) (mn : Nat → Int32), va_P D cls ((o_M a m_length m_at m_lines m_x m_y m_mode m_feed m_state m_pulses m_last m_shown m_relative m_ending m_time m_pause m_kind m_made m_all m_fromX m_fromY m_wayX m_wayY m_points m_centreX m_centreY m_there m_newMode m_newWay m_newFeed m_ends) :: (o_mt a K mt) :: e2 :: e3 :: (o_mn a K mn) :: tl) H → va_D A ((o_M a m_length m_at m_lines m_x m_y m_mode m_feed m_state m_pulses m_last m_shown m_relative m_ending m_time m_pause m_kind m_made m_all m_fromX m_fromY m_wayX m_wayY m_points m_centreX m_centreY m_there m_newMode m_newWay m_newFeed m_ends) :: (o_mt a K mt) :: e2 :: e3 :: (o_mn a K mn) :: tl) → va_S A s.heap H locs → lv_has ls 12 [(0, .ref (a 10)), (2, .int x2), (3, .int x3), (4, .int x4), (5, .int x5), (6, .int x6)] → wq_M_read_153 Q K35 mt x2 x3 x4 x5 x6 m_there m_newMode m_newWay m_newFeed m_ends mn → W p l e rm_M_read s m args below meth c H locs 0 0 QQ (F0 m 153 ls []) := by
    intro K35 hK35 H locs ls x2 x3 x4 x5 x6 m_there m_newMode m_newWay m_newFeed m_ends mn hP hD hS hl hw
    unfold wq_M_read_153 at hw
    refine lv_iconst (v := (0 : Int32)) hx hb d_M_read_153 (by decide) ?_
    refine lv_istore (lv' := [(8, .int (0 : Int32)), (0, .ref (a 10)), (2, .int x2), (3, .int x3), (4, .int x4), (5, .int x5), (6, .int x6)]) hx hb d_M_read_154 hl (Nat.le_of_ble_eq_true rfl) rfl (fun ls hl => ?_)
    refine lv_iconst (v := (0 : Int32)) hx hb d_M_read_156 (by decide) ?_
    refine lv_istore (lv' := [(9, .int (0 : Int32)), (8, .int (0 : Int32)), (0, .ref (a 10)), (2, .int x2), (3, .int x3), (4, .int x4), (5, .int x5), (6, .int x6)]) hx hb d_M_read_157 hl (Nat.le_of_ble_eq_true rfl) rfl (fun ls hl => ?_)
    obtain ⟨n159, hw⟩ := hw
    exact J159 K35 hK35 n159 H locs ls x2 x3 x4 x5 x6 (0 : Int32) (0 : Int32) m_there m_newMode m_newWay m_newFeed m_ends mn hP hD hS (lv_sub hl [2, 3, 4, 5, 6, 7, 1, 0] rfl) hw
  have J144 : ∀ (K35 : Int32 → Int32 → Int32 → Int32 → Int32 → Int32 → Int32 → Int32 → (Nat → Int32) → Prop) (hK35 : ∀ (H : Heap) (locs : List Loc) (ls : Array Slot) (x2 x3 x4 m_there m_newMode m_newWay m_newFeed m_ends : Int32) (mn : Nat → Int32), va_P D cls ((o_M a m_length m_at m_lines m_x m_y m_mode m_feed m_state m_pulses m_last m_shown m_relative m_ending m_time m_pause m_kind m_made m_all m_fromX m_fromY m_wayX m_wayY m_points m_centreX m_centreY m_there m_newMode m_newWay m_newFeed m_ends) :: (o_mt a K mt) :: e2 :: e3 :: (o_mn a K mn) :: tl) H → va_D A ((o_M a m_length m_at m_lines m_x m_y m_mode m_feed m_state m_pulses m_last m_shown m_relative m_ending m_time m_pause m_kind m_made m_all m_fromX m_fromY m_wayX m_wayY m_points m_centreX m_centreY m_there m_newMode m_newWay m_newFeed m_ends) :: (o_mt a K mt) :: e2 :: e3 :: (o_mn a K mn) :: tl) → va_S A s.heap H locs → lv_has ls 12 [(0, .ref (a 10)), (2, .int x2), (3, .int x3), (4, .int x4)] → K35 x2 x3 x4 m_there m_newMode m_newWay m_newFeed m_ends mn → W p l e rm_M_read s m args below meth c H locs 0 0 QQ (F0 m 35 ls [])) (H : Heap) (locs : List Loc) (ls : Array Slot) (x2 x3 x4 x5 x6 m_there m_newMode m_newWay m_newFeed m_ends : Int32) (mn : Nat → Int32), va_P D cls ((o_M a m_length m_at m_lines m_x m_y m_mode m_feed m_state m_pulses m_last m_shown m_relative m_ending m_time m_pause m_kind m_made m_all m_fromX m_fromY m_wayX m_wayY m_points m_centreX m_centreY m_there m_newMode m_newWay m_newFeed m_ends) :: (o_mt a K mt) :: e2 :: e3 :: (o_mn a K mn) :: tl) H → va_D A ((o_M a m_length m_at m_lines m_x m_y m_mode m_feed m_state m_pulses m_last m_shown m_relative m_ending m_time m_pause m_kind m_made m_all m_fromX m_fromY m_wayX m_wayY m_points m_centreX m_centreY m_there m_newMode m_newWay m_newFeed m_ends) :: (o_mt a K mt) :: e2 :: e3 :: (o_mn a K mn) :: tl) → va_S A s.heap H locs → lv_has ls 12 [(0, .ref (a 10)), (2, .int x2), (3, .int x3), (4, .int x4), (5, .int x5), (6, .int x6)] → wq_M_read_144 Q K35 mt x2 x3 x4 x5 x6 m_there m_newMode m_newWay m_newFeed m_ends mn → W p l e rm_M_read s m args below meth c H locs 0 0 QQ (F0 m 144 ls []) := by
    intro K35 hK35 H locs ls x2 x3 x4 x5 x6 m_there m_newMode m_newWay m_newFeed m_ends mn hP hD hS hl hw
    unfold wq_M_read_144 at hw
    refine lv_aload_n hx hb d_M_read_144 rfl (lv_at hl 0 rfl) ?_
    refine lv_iload_n hx hb d_M_read_145 rfl (lv_at hl 2 rfl) ?_
    refine lv_iconst (v := (1 : Int32)) hx hb d_M_read_146 (by decide) ?_
    refine lv_iadd hx hb d_M_read_147 ?_
    refine lv_iload_n hx hb d_M_read_148 rfl (lv_at hl 1 rfl) ?_
    refine my_calli (va_runV (As := [.int (x3 + (1 : Int32)), .int x2]) (rest := []) ⟨hx, hb, hml, hown, hts⟩ (c_M_skip l H.size) (cw_M_91 hts ⟨Nat.le_of_ble_eq_true rfl, Nat.le_of_ble_eq_true rfl⟩) (my_preV hK hP hX hD hS hA 0 rfl rfl hw) rfl rfl hl.1 rfl (lv_room (Nat.le_of_ble_eq_true rfl)) d_M_read_149 ⟨Nat.le_refl _, Nat.le_refl _⟩) hD hS hA (fun r149 _ H locs hw hP hD hS => ?_)
    have hP : va_P D cls ((o_M a m_length m_at m_lines m_x m_y m_mode m_feed m_state m_pulses m_last m_shown m_relative m_ending m_time m_pause m_kind m_made m_all m_fromX m_fromY m_wayX m_wayY m_points m_centreX m_centreY m_there m_newMode m_newWay m_newFeed m_ends) :: (o_mt a K mt) :: e2 :: e3 :: (o_mn a K mn) :: tl) H := hP
    have hD : va_D A ((o_M a m_length m_at m_lines m_x m_y m_mode m_feed m_state m_pulses m_last m_shown m_relative m_ending m_time m_pause m_kind m_made m_all m_fromX m_fromY m_wayX m_wayY m_points m_centreX m_centreY m_there m_newMode m_newWay m_newFeed m_ends) :: (o_mt a K mt) :: e2 :: e3 :: (o_mn a K mn) :: tl) := hD
    refine lv_istore_n (lv' := [(3, .int r149), (0, .ref (a 10)), (2, .int x2), (4, .int x4), (5, .int x5), (6, .int x6)]) hx hb d_M_read_152 rfl hl (Nat.le_of_ble_eq_true rfl) rfl (fun ls hl => ?_)
    exact J153 K35 hK35 H locs ls x2 r149 x4 x5 x6 m_there m_newMode m_newWay m_newFeed m_ends mn hP hD hS (lv_sub hl [1, 2, 0, 3, 4, 5] rfl) hw
  have J132 : ∀ (K35 : Int32 → Int32 → Int32 → Int32 → Int32 → Int32 → Int32 → Int32 → (Nat → Int32) → Prop) (hK35 : ∀ (H : Heap) (locs : List Loc) (ls : Array Slot) (x2 x3 x4 m_there m_newMode m_newWay m_newFeed m_ends : Int32) (mn : Nat → Int32), va_P D cls ((o_M a m_length m_at m_lines m_x m_y m_mode m_feed m_state m_pulses m_last m_shown m_relative m_ending m_time m_pause m_kind m_made m_all m_fromX m_fromY m_wayX m_wayY m_points m_centreX m_centreY m_there m_newMode m_newWay m_newFeed m_ends) :: (o_mt a K mt) :: e2 :: e3 :: (o_mn a K mn) :: tl) H → va_D A ((o_M a m_length m_at m_lines m_x m_y m_mode m_feed m_state m_pulses m_last m_shown m_relative m_ending m_time m_pause m_kind m_made m_all m_fromX m_fromY m_wayX m_wayY m_points m_centreX m_centreY m_there m_newMode m_newWay m_newFeed m_ends) :: (o_mt a K mt) :: e2 :: e3 :: (o_mn a K mn) :: tl) → va_S A s.heap H locs → lv_has ls 12 [(0, .ref (a 10)), (2, .int x2), (3, .int x3), (4, .int x4)] → K35 x2 x3 x4 m_there m_newMode m_newWay m_newFeed m_ends mn → W p l e rm_M_read s m args below meth c H locs 0 0 QQ (F0 m 35 ls [])) (H : Heap) (locs : List Loc) (ls : Array Slot) (x2 x3 x4 x5 x6 s0 m_there m_newMode m_newWay m_newFeed m_ends : Int32) (mn : Nat → Int32), va_P D cls ((o_M a m_length m_at m_lines m_x m_y m_mode m_feed m_state m_pulses m_last m_shown m_relative m_ending m_time m_pause m_kind m_made m_all m_fromX m_fromY m_wayX m_wayY m_points m_centreX m_centreY m_there m_newMode m_newWay m_newFeed m_ends) :: (o_mt a K mt) :: e2 :: e3 :: (o_mn a K mn) :: tl) H → va_D A ((o_M a m_length m_at m_lines m_x m_y m_mode m_feed m_state m_pulses m_last m_shown m_relative m_ending m_time m_pause m_kind m_made m_all m_fromX m_fromY m_wayX m_wayY m_points m_centreX m_centreY m_there m_newMode m_newWay m_newFeed m_ends) :: (o_mt a K mt) :: e2 :: e3 :: (o_mn a K mn) :: tl) → va_S A s.heap H locs → lv_has ls 12 [(0, .ref (a 10)), (2, .int x2), (3, .int x3), (4, .int x4), (5, .int x5), (6, .int x6)] → wq_M_read_132 Q K35 mt x2 x3 x4 x5 x6 s0 m_there m_newMode m_newWay m_newFeed m_ends mn → W p l e rm_M_read s m args below meth c H locs 0 0 QQ (F0 m 132 ls [.int s0]) := by
    intro K35 hK35 H locs ls x2 x3 x4 x5 x6 s0 m_there m_newMode m_newWay m_newFeed m_ends mn hP hD hS hl hw
    unfold wq_M_read_132 at hw
    refine lv_istore (lv' := [(7, .int s0), (0, .ref (a 10)), (2, .int x2), (3, .int x3), (4, .int x4), (5, .int x5), (6, .int x6)]) hx hb d_M_read_132 hl (Nat.le_of_ble_eq_true rfl) rfl (fun ls hl => ?_)
    refine lv_iload hx hb d_M_read_134 (lv_at hl 6 rfl) ?_
    refine lv_if_ne (tgt := 144) hx hb d_M_read_136 (by decide) (fun hc => ?_) (fun hc => ?_)
    · replace hw := hw.1 hc
      exact J144 K35 hK35 H locs ls x2 x3 x4 x5 x6 m_there m_newMode m_newWay m_newFeed m_ends mn hP hD hS (lv_sub hl [1, 2, 3, 4, 5, 6] rfl) hw
    · replace hw := hw.2 hc
      refine lv_iload hx hb d_M_read_139 (lv_at hl 0 rfl) ?_
      refine lv_if_eq (tgt := 153) hx hb d_M_read_141 (by decide) (fun hc => ?_) (fun hc => ?_)
      · replace hw := hw.1 hc
        exact J153 K35 hK35 H locs ls x2 x3 x4 x5 x6 m_there m_newMode m_newWay m_newFeed m_ends mn hP hD hS (lv_sub hl [1, 2, 3, 4, 5, 6] rfl) hw
      · replace hw := hw.2 hc
        exact J144 K35 hK35 H locs ls x2 x3 x4 x5 x6 m_there m_newMode m_newWay m_newFeed m_ends mn hP hD hS (lv_sub hl [1, 2, 3, 4, 5, 6] rfl) hw
  have J131 : ∀ (K35 : Int32 → Int32 → Int32 → Int32 → Int32 → Int32 → Int32 → Int32 → (Nat → Int32) → Prop) (hK35 : ∀ (H : Heap) (locs : List Loc) (ls : Array Slot) (x2 x3 x4 m_there m_newMode m_newWay m_newFeed m_ends : Int32) (mn : Nat → Int32), va_P D cls ((o_M a m_length m_at m_lines m_x m_y m_mode m_feed m_state m_pulses m_last m_shown m_relative m_ending m_time m_pause m_kind m_made m_all m_fromX m_fromY m_wayX m_wayY m_points m_centreX m_centreY m_there m_newMode m_newWay m_newFeed m_ends) :: (o_mt a K mt) :: e2 :: e3 :: (o_mn a K mn) :: tl) H → va_D A ((o_M a m_length m_at m_lines m_x m_y m_mode m_feed m_state m_pulses m_last m_shown m_relative m_ending m_time m_pause m_kind m_made m_all m_fromX m_fromY m_wayX m_wayY m_points m_centreX m_centreY m_there m_newMode m_newWay m_newFeed m_ends) :: (o_mt a K mt) :: e2 :: e3 :: (o_mn a K mn) :: tl) → va_S A s.heap H locs → lv_has ls 12 [(0, .ref (a 10)), (2, .int x2), (3, .int x3), (4, .int x4)] → K35 x2 x3 x4 m_there m_newMode m_newWay m_newFeed m_ends mn → W p l e rm_M_read s m args below meth c H locs 0 0 QQ (F0 m 35 ls [])) (H : Heap) (locs : List Loc) (ls : Array Slot) (x2 x3 x4 x5 x6 m_there m_newMode m_newWay m_newFeed m_ends : Int32) (mn : Nat → Int32), va_P D cls ((o_M a m_length m_at m_lines m_x m_y m_mode m_feed m_state m_pulses m_last m_shown m_relative m_ending m_time m_pause m_kind m_made m_all m_fromX m_fromY m_wayX m_wayY m_points m_centreX m_centreY m_there m_newMode m_newWay m_newFeed m_ends) :: (o_mt a K mt) :: e2 :: e3 :: (o_mn a K mn) :: tl) H → va_D A ((o_M a m_length m_at m_lines m_x m_y m_mode m_feed m_state m_pulses m_last m_shown m_relative m_ending m_time m_pause m_kind m_made m_all m_fromX m_fromY m_wayX m_wayY m_points m_centreX m_centreY m_there m_newMode m_newWay m_newFeed m_ends) :: (o_mt a K mt) :: e2 :: e3 :: (o_mn a K mn) :: tl) → va_S A s.heap H locs → lv_has ls 12 [(0, .ref (a 10)), (2, .int x2), (3, .int x3), (4, .int x4), (5, .int x5), (6, .int x6)] → wq_M_read_131 Q K35 mt x2 x3 x4 x5 x6 m_there m_newMode m_newWay m_newFeed m_ends mn → W p l e rm_M_read s m args below meth c H locs 0 0 QQ (F0 m 131 ls []) := by
    intro K35 hK35 H locs ls x2 x3 x4 x5 x6 m_there m_newMode m_newWay m_newFeed m_ends mn hP hD hS hl hw
    unfold wq_M_read_131 at hw
    refine lv_iconst (v := (0 : Int32)) hx hb d_M_read_131 (by decide) ?_
    exact J132 K35 hK35 H locs ls x2 x3 x4 x5 x6 (0 : Int32) m_there m_newMode m_newWay m_newFeed m_ends mn hP hD hS (lv_sub hl [0, 1, 2, 3, 4, 5] rfl) hw
  have J103 : ∀ (K35 : Int32 → Int32 → Int32 → Int32 → Int32 → Int32 → Int32 → Int32 → (Nat → Int32) → Prop) (hK35 : ∀ (H : Heap) (locs : List Loc) (ls : Array Slot) (x2 x3 x4 m_there m_newMode m_newWay m_newFeed m_ends : Int32) (mn : Nat → Int32), va_P D cls ((o_M a m_length m_at m_lines m_x m_y m_mode m_feed m_state m_pulses m_last m_shown m_relative m_ending m_time m_pause m_kind m_made m_all m_fromX m_fromY m_wayX m_wayY m_points m_centreX m_centreY m_there m_newMode m_newWay m_newFeed m_ends) :: (o_mt a K mt) :: e2 :: e3 :: (o_mn a K mn) :: tl) H → va_D A ((o_M a m_length m_at m_lines m_x m_y m_mode m_feed m_state m_pulses m_last m_shown m_relative m_ending m_time m_pause m_kind m_made m_all m_fromX m_fromY m_wayX m_wayY m_points m_centreX m_centreY m_there m_newMode m_newWay m_newFeed m_ends) :: (o_mt a K mt) :: e2 :: e3 :: (o_mn a K mn) :: tl) → va_S A s.heap H locs → lv_has ls 12 [(0, .ref (a 10)), (2, .int x2), (3, .int x3), (4, .int x4)] → K35 x2 x3 x4 m_there m_newMode m_newWay m_newFeed m_ends mn → W p l e rm_M_read s m args below meth c H locs 0 0 QQ (F0 m 35 ls [])) (H : Heap) (locs : List Loc) (ls : Array Slot) (x2 x3 x4 x5 s0 m_there m_newMode m_newWay m_newFeed m_ends : Int32) (mn : Nat → Int32), va_P D cls ((o_M a m_length m_at m_lines m_x m_y m_mode m_feed m_state m_pulses m_last m_shown m_relative m_ending m_time m_pause m_kind m_made m_all m_fromX m_fromY m_wayX m_wayY m_points m_centreX m_centreY m_there m_newMode m_newWay m_newFeed m_ends) :: (o_mt a K mt) :: e2 :: e3 :: (o_mn a K mn) :: tl) H → va_D A ((o_M a m_length m_at m_lines m_x m_y m_mode m_feed m_state m_pulses m_last m_shown m_relative m_ending m_time m_pause m_kind m_made m_all m_fromX m_fromY m_wayX m_wayY m_points m_centreX m_centreY m_there m_newMode m_newWay m_newFeed m_ends) :: (o_mt a K mt) :: e2 :: e3 :: (o_mn a K mn) :: tl) → va_S A s.heap H locs → lv_has ls 12 [(0, .ref (a 10)), (2, .int x2), (3, .int x3), (4, .int x4), (5, .int x5)] → wq_M_read_103 Q K35 mt x2 x3 x4 x5 s0 m_there m_newMode m_newWay m_newFeed m_ends mn → W p l e rm_M_read s m args below meth c H locs 0 0 QQ (F0 m 103 ls [.int s0]) := by
    intro K35 hK35 H locs ls x2 x3 x4 x5 s0 m_there m_newMode m_newWay m_newFeed m_ends mn hP hD hS hl hw
    unfold wq_M_read_103 at hw
    refine lv_istore (lv' := [(6, .int s0), (0, .ref (a 10)), (2, .int x2), (3, .int x3), (4, .int x4), (5, .int x5)]) hx hb d_M_read_103 hl (Nat.le_of_ble_eq_true rfl) rfl (fun ls hl => ?_)
    refine lv_iload_n hx hb d_M_read_105 rfl (lv_at hl 3 rfl) ?_
    refine lv_iload_n hx hb d_M_read_106 rfl (lv_at hl 2 rfl) ?_
    refine lv_icmp_ge (tgt := 131) hx hb d_M_read_107 (by decide) (fun hc => ?_) (fun hc => ?_)
    · replace hw := hw.1 hc
      exact J131 K35 hK35 H locs ls x2 x3 x4 x5 s0 m_there m_newMode m_newWay m_newFeed m_ends mn hP hD hS (lv_sub hl [1, 2, 3, 4, 5, 0] rfl) hw
    · replace hw := hw.2 hc
      refine lv_aload_n hx hb d_M_read_110 rfl (lv_at hl 1 rfl) ?_
      refine g_M_text hx hb hts hown hK hP 0 rfl rfl d_M_read_111 ?_
      refine lv_iload_n hx hb d_M_read_114 rfl (lv_at hl 3 rfl) ?_
      refine va_iald hx hb hK hP 1 5 rfl rfl hw.1 d_M_read_115 ?_
      replace hw := hw.2
      refine lv_bipush (v := (43 : Int32)) hx hb d_M_read_116 (by decide) ?_
      refine lv_icmp_ne (tgt := 131) hx hb d_M_read_118 (by decide) (fun hc => ?_) (fun hc => ?_)
      · replace hw := hw.1 hc
        exact J131 K35 hK35 H locs ls x2 x3 x4 x5 s0 m_there m_newMode m_newWay m_newFeed m_ends mn hP hD hS (lv_sub hl [1, 2, 3, 4, 5, 0] rfl) hw
      · replace hw := hw.2 hc
        refine lv_iload hx hb d_M_read_121 (lv_at hl 5 rfl) ?_
        refine lv_iconst (v := (4 : Int32)) hx hb d_M_read_123 (by decide) ?_
        refine lv_icmp_ge (tgt := 131) hx hb d_M_read_124 (by decide) (fun hc => ?_) (fun hc => ?_)
        · replace hw := hw.1 hc
          exact J131 K35 hK35 H locs ls x2 x3 x4 x5 s0 m_there m_newMode m_newWay m_newFeed m_ends mn hP hD hS (lv_sub hl [1, 2, 3, 4, 5, 0] rfl) hw
        · replace hw := hw.2 hc
          refine lv_iconst (v := (1 : Int32)) hx hb d_M_read_127 (by decide) ?_
          refine lv_goto (tgt := 132) hx hb d_M_read_128 (by decide) ?_
          exact J132 K35 hK35 H locs ls x2 x3 x4 x5 s0 (1 : Int32) m_there m_newMode m_newWay m_newFeed m_ends mn hP hD hS (lv_sub hl [1, 2, 3, 4, 5, 0] rfl) hw
  have J102 : ∀ (K35 : Int32 → Int32 → Int32 → Int32 → Int32 → Int32 → Int32 → Int32 → (Nat → Int32) → Prop) (hK35 : ∀ (H : Heap) (locs : List Loc) (ls : Array Slot) (x2 x3 x4 m_there m_newMode m_newWay m_newFeed m_ends : Int32) (mn : Nat → Int32), va_P D cls ((o_M a m_length m_at m_lines m_x m_y m_mode m_feed m_state m_pulses m_last m_shown m_relative m_ending m_time m_pause m_kind m_made m_all m_fromX m_fromY m_wayX m_wayY m_points m_centreX m_centreY m_there m_newMode m_newWay m_newFeed m_ends) :: (o_mt a K mt) :: e2 :: e3 :: (o_mn a K mn) :: tl) H → va_D A ((o_M a m_length m_at m_lines m_x m_y m_mode m_feed m_state m_pulses m_last m_shown m_relative m_ending m_time m_pause m_kind m_made m_all m_fromX m_fromY m_wayX m_wayY m_points m_centreX m_centreY m_there m_newMode m_newWay m_newFeed m_ends) :: (o_mt a K mt) :: e2 :: e3 :: (o_mn a K mn) :: tl) → va_S A s.heap H locs → lv_has ls 12 [(0, .ref (a 10)), (2, .int x2), (3, .int x3), (4, .int x4)] → K35 x2 x3 x4 m_there m_newMode m_newWay m_newFeed m_ends mn → W p l e rm_M_read s m args below meth c H locs 0 0 QQ (F0 m 35 ls [])) (H : Heap) (locs : List Loc) (ls : Array Slot) (x2 x3 x4 x5 m_there m_newMode m_newWay m_newFeed m_ends : Int32) (mn : Nat → Int32), va_P D cls ((o_M a m_length m_at m_lines m_x m_y m_mode m_feed m_state m_pulses m_last m_shown m_relative m_ending m_time m_pause m_kind m_made m_all m_fromX m_fromY m_wayX m_wayY m_points m_centreX m_centreY m_there m_newMode m_newWay m_newFeed m_ends) :: (o_mt a K mt) :: e2 :: e3 :: (o_mn a K mn) :: tl) H → va_D A ((o_M a m_length m_at m_lines m_x m_y m_mode m_feed m_state m_pulses m_last m_shown m_relative m_ending m_time m_pause m_kind m_made m_all m_fromX m_fromY m_wayX m_wayY m_points m_centreX m_centreY m_there m_newMode m_newWay m_newFeed m_ends) :: (o_mt a K mt) :: e2 :: e3 :: (o_mn a K mn) :: tl) → va_S A s.heap H locs → lv_has ls 12 [(0, .ref (a 10)), (2, .int x2), (3, .int x3), (4, .int x4), (5, .int x5)] → wq_M_read_102 Q K35 mt x2 x3 x4 x5 m_there m_newMode m_newWay m_newFeed m_ends mn → W p l e rm_M_read s m args below meth c H locs 0 0 QQ (F0 m 102 ls []) := by
    intro K35 hK35 H locs ls x2 x3 x4 x5 m_there m_newMode m_newWay m_newFeed m_ends mn hP hD hS hl hw
    unfold wq_M_read_102 at hw
    refine lv_iconst (v := (0 : Int32)) hx hb d_M_read_102 (by decide) ?_
    exact J103 K35 hK35 H locs ls x2 x3 x4 x5 (0 : Int32) m_there m_newMode m_newWay m_newFeed m_ends mn hP hD hS (lv_sub hl [0, 1, 2, 3, 4] rfl) hw
  have J35 : ∀ (n35 : Nat) (H : Heap) (locs : List Loc) (ls : Array Slot) (x2 x3 x4 m_there m_newMode m_newWay m_newFeed m_ends : Int32) (mn : Nat → Int32), va_P D cls ((o_M a m_length m_at m_lines m_x m_y m_mode m_feed m_state m_pulses m_last m_shown m_relative m_ending m_time m_pause m_kind m_made m_all m_fromX m_fromY m_wayX m_wayY m_points m_centreX m_centreY m_there m_newMode m_newWay m_newFeed m_ends) :: (o_mt a K mt) :: e2 :: e3 :: (o_mn a K mn) :: tl) H → va_D A ((o_M a m_length m_at m_lines m_x m_y m_mode m_feed m_state m_pulses m_last m_shown m_relative m_ending m_time m_pause m_kind m_made m_all m_fromX m_fromY m_wayX m_wayY m_points m_centreX m_centreY m_there m_newMode m_newWay m_newFeed m_ends) :: (o_mt a K mt) :: e2 :: e3 :: (o_mn a K mn) :: tl) → va_S A s.heap H locs → lv_has ls 12 [(0, .ref (a 10)), (2, .int x2), (3, .int x3), (4, .int x4)] → wq_M_read_35 Q mt n35 x2 x3 x4 m_there m_newMode m_newWay m_newFeed m_ends mn → W p l e rm_M_read s m args below meth c H locs 0 0 QQ (F0 m 35 ls []) := by
    intro n35
    induction n35 with
    | zero => intro H locs ls x2 x3 x4 m_there m_newMode m_newWay m_newFeed m_ends mn hP hD hS hl hw; exact False.elim hw
    | succ n35 ih =>
      intro H locs ls x2 x3 x4 m_there m_newMode m_newWay m_newFeed m_ends mn hP hD hS hl hw
      unfold wq_M_read_35 at hw
      refine lv_iload hx hb d_M_read_35 (lv_at hl 3 rfl) ?_
      refine lv_sipush (v := (400 : Int32)) hx hb d_M_read_37 (by decide) ?_
      refine lv_icmp_ge (tgt := 292) hx hb d_M_read_40 (by decide) (fun hc => ?_) (fun hc => ?_)
      · replace hw := hw.1 hc
        refine lv_iconst (v := (0 : Int32)) hx hb d_M_read_292 (by decide) ?_
        exact hret H locs ls 293 ((0 : Int32)) ((m_there, m_newMode, m_newWay, m_newFeed, m_ends, mn)) d_M_read_293 hP hD hS hw
      · replace hw := hw.2 hc
        refine lv_iload_n hx hb d_M_read_43 rfl (lv_at hl 2 rfl) ?_
        refine lv_iload_n hx hb d_M_read_44 rfl (lv_at hl 1 rfl) ?_
        refine lv_icmp_ge (tgt := 292) hx hb d_M_read_45 (by decide) (fun hc => ?_) (fun hc => ?_)
        · replace hw := hw.1 hc
          refine lv_iconst (v := (0 : Int32)) hx hb d_M_read_292 (by decide) ?_
          exact hret H locs ls 293 ((0 : Int32)) ((m_there, m_newMode, m_newWay, m_newFeed, m_ends, mn)) d_M_read_293 hP hD hS hw
        · replace hw := hw.2 hc
          refine lv_aload_n hx hb d_M_read_48 rfl (lv_at hl 0 rfl) ?_
          refine g_M_text hx hb hts hown hK hP 0 rfl rfl d_M_read_49 ?_
          refine lv_iload_n hx hb d_M_read_52 rfl (lv_at hl 2 rfl) ?_
          refine va_iald hx hb hK hP 1 5 rfl rfl hw.1 d_M_read_53 ?_
          replace hw := hw.2
          refine my_calli (va_runS (As := [.int (mt x3.toNatClampNeg)]) (rest := []) ⟨hx, hb, hml, hown, hts⟩ (c_M_letter l H.size) (cw_M_95 hts ⟨Nat.le_of_ble_eq_true rfl, Nat.le_of_ble_eq_true rfl⟩) (my_preS hK hP hX hD hS hA hw) rfl rfl hl.1 rfl (lv_room (Nat.le_of_ble_eq_true rfl)) d_M_read_54 ⟨Nat.le_refl _, Nat.le_refl _⟩) hD hS hA (fun r54 _ H locs hw hP hD hS => ?_)
          have hP : va_P D cls ((o_M a m_length m_at m_lines m_x m_y m_mode m_feed m_state m_pulses m_last m_shown m_relative m_ending m_time m_pause m_kind m_made m_all m_fromX m_fromY m_wayX m_wayY m_points m_centreX m_centreY m_there m_newMode m_newWay m_newFeed m_ends) :: (o_mt a K mt) :: e2 :: e3 :: (o_mn a K mn) :: tl) H := hP
          have hD : va_D A ((o_M a m_length m_at m_lines m_x m_y m_mode m_feed m_state m_pulses m_last m_shown m_relative m_ending m_time m_pause m_kind m_made m_all m_fromX m_fromY m_wayX m_wayY m_points m_centreX m_centreY m_there m_newMode m_newWay m_newFeed m_ends) :: (o_mt a K mt) :: e2 :: e3 :: (o_mn a K mn) :: tl) := hD
          refine lv_istore (lv' := [(5, .int r54), (0, .ref (a 10)), (2, .int x2), (3, .int x3), (4, .int x4)]) hx hb d_M_read_57 hl (Nat.le_of_ble_eq_true rfl) rfl (fun ls hl => ?_)
          refine lv_iload hx hb d_M_read_59 (lv_at hl 0 rfl) ?_
          refine lv_if_ge (tgt := 67) hx hb d_M_read_61 (by decide) (fun hc => ?_) (fun hc => ?_)
          · replace hw := hw.1 hc
            refine lv_aload_n hx hb d_M_read_67 rfl (lv_at hl 1 rfl) ?_
            refine lv_iload_n hx hb d_M_read_68 rfl (lv_at hl 3 rfl) ?_
            refine lv_iconst (v := (1 : Int32)) hx hb d_M_read_69 (by decide) ?_
            refine lv_iadd hx hb d_M_read_70 ?_
            refine lv_iload_n hx hb d_M_read_71 rfl (lv_at hl 2 rfl) ?_
            refine my_calli (va_runV (As := [.int (x3 + (1 : Int32)), .int x2]) (rest := []) ⟨hx, hb, hml, hown, hts⟩ (c_M_skip l H.size) (cw_M_91 hts ⟨Nat.le_of_ble_eq_true rfl, Nat.le_of_ble_eq_true rfl⟩) (my_preV hK hP hX hD hS hA 0 rfl rfl hw) rfl rfl hl.1 rfl (lv_room (Nat.le_of_ble_eq_true rfl)) d_M_read_72 ⟨Nat.le_refl _, Nat.le_refl _⟩) hD hS hA (fun r72 _ H locs hw hP hD hS => ?_)
            have hP : va_P D cls ((o_M a m_length m_at m_lines m_x m_y m_mode m_feed m_state m_pulses m_last m_shown m_relative m_ending m_time m_pause m_kind m_made m_all m_fromX m_fromY m_wayX m_wayY m_points m_centreX m_centreY m_there m_newMode m_newWay m_newFeed m_ends) :: (o_mt a K mt) :: e2 :: e3 :: (o_mn a K mn) :: tl) H := hP
            have hD : va_D A ((o_M a m_length m_at m_lines m_x m_y m_mode m_feed m_state m_pulses m_last m_shown m_relative m_ending m_time m_pause m_kind m_made m_all m_fromX m_fromY m_wayX m_wayY m_points m_centreX m_centreY m_there m_newMode m_newWay m_newFeed m_ends) :: (o_mt a K mt) :: e2 :: e3 :: (o_mn a K mn) :: tl) := hD
            refine lv_istore_n (lv' := [(3, .int r72), (5, .int r54), (0, .ref (a 10)), (2, .int x2), (4, .int x4)]) hx hb d_M_read_75 rfl hl (Nat.le_of_ble_eq_true rfl) rfl (fun ls hl => ?_)
            refine lv_iload_n hx hb d_M_read_76 rfl (lv_at hl 0 rfl) ?_
            refine lv_iload_n hx hb d_M_read_77 rfl (lv_at hl 3 rfl) ?_
            refine lv_icmp_ge (tgt := 102) hx hb d_M_read_78 (by decide) (fun hc => ?_) (fun hc => ?_)
            · replace hw := hw.1 hc
              exact J102 (fun x2 x3 x4 m_there m_newMode m_newWay m_newFeed m_ends mn => wq_M_read_35 Q mt n35 x2 x3 x4 m_there m_newMode m_newWay m_newFeed m_ends mn) ih H locs ls x2 r72 x4 r54 m_there m_newMode m_newWay m_newFeed m_ends mn hP hD hS (lv_sub hl [2, 3, 0, 4, 1] rfl) hw
            · replace hw := hw.2 hc
              refine lv_aload_n hx hb d_M_read_81 rfl (lv_at hl 2 rfl) ?_
              refine g_M_text hx hb hts hown hK hP 0 rfl rfl d_M_read_82 ?_
              refine lv_iload_n hx hb d_M_read_85 rfl (lv_at hl 0 rfl) ?_
              refine va_iald hx hb hK hP 1 5 rfl rfl hw.1 d_M_read_86 ?_
              replace hw := hw.2
              refine lv_bipush (v := (45 : Int32)) hx hb d_M_read_87 (by decide) ?_
              refine lv_icmp_ne (tgt := 102) hx hb d_M_read_89 (by decide) (fun hc => ?_) (fun hc => ?_)
              · replace hw := hw.1 hc
                exact J102 (fun x2 x3 x4 m_there m_newMode m_newWay m_newFeed m_ends mn => wq_M_read_35 Q mt n35 x2 x3 x4 m_there m_newMode m_newWay m_newFeed m_ends mn) ih H locs ls x2 r72 x4 r54 m_there m_newMode m_newWay m_newFeed m_ends mn hP hD hS (lv_sub hl [2, 3, 0, 4, 1] rfl) hw
              · replace hw := hw.2 hc
                refine lv_iload hx hb d_M_read_92 (lv_at hl 1 rfl) ?_
                refine lv_iconst (v := (4 : Int32)) hx hb d_M_read_94 (by decide) ?_
                refine lv_icmp_ge (tgt := 102) hx hb d_M_read_95 (by decide) (fun hc => ?_) (fun hc => ?_)
                · replace hw := hw.1 hc
                  exact J102 (fun x2 x3 x4 m_there m_newMode m_newWay m_newFeed m_ends mn => wq_M_read_35 Q mt n35 x2 x3 x4 m_there m_newMode m_newWay m_newFeed m_ends mn) ih H locs ls x2 r72 x4 r54 m_there m_newMode m_newWay m_newFeed m_ends mn hP hD hS (lv_sub hl [2, 3, 0, 4, 1] rfl) hw
                · replace hw := hw.2 hc
                  refine lv_iconst (v := (1 : Int32)) hx hb d_M_read_98 (by decide) ?_
                  refine lv_goto (tgt := 103) hx hb d_M_read_99 (by decide) ?_
                  exact J103 (fun x2 x3 x4 m_there m_newMode m_newWay m_newFeed m_ends mn => wq_M_read_35 Q mt n35 x2 x3 x4 m_there m_newMode m_newWay m_newFeed m_ends mn) ih H locs ls x2 r72 x4 r54 (1 : Int32) m_there m_newMode m_newWay m_newFeed m_ends mn hP hD hS (lv_sub hl [2, 3, 0, 4, 1] rfl) hw
          · replace hw := hw.2 hc
            refine lv_bipush (v := (101 : Int32)) hx hb d_M_read_64 (by decide) ?_
            exact hret H locs ls 66 ((101 : Int32)) ((m_there, m_newMode, m_newWay, m_newFeed, m_ends, mn)) d_M_read_66 hP hD hS hw
  unfold wp_M_read at hw
  refine lv_aload_n hx hb d_M_read_0 rfl (lv_at hl 0 rfl) ?_
  refine lv_iconst (v := (0 : Int32)) hx hb d_M_read_1 (by decide) ?_
  refine u_M_there hx hb hts hown hK hP hD hS 0 rfl rfl d_M_read_2 (fun H locs hP hD hS => ?_)
  have hP : va_P D cls ((o_M a m_length m_at m_lines m_x m_y m_mode m_feed m_state m_pulses m_last m_shown m_relative m_ending m_time m_pause m_kind m_made m_all m_fromX m_fromY m_wayX m_wayY m_points m_centreX m_centreY (0 : Int32) m_newMode m_newWay m_newFeed m_ends) :: (o_mt a K mt) :: e2 :: e3 :: (o_mn a K mn) :: tl) H := hP
  have hD : va_D A ((o_M a m_length m_at m_lines m_x m_y m_mode m_feed m_state m_pulses m_last m_shown m_relative m_ending m_time m_pause m_kind m_made m_all m_fromX m_fromY m_wayX m_wayY m_points m_centreX m_centreY (0 : Int32) m_newMode m_newWay m_newFeed m_ends) :: (o_mt a K mt) :: e2 :: e3 :: (o_mn a K mn) :: tl) := hD
  refine lv_aload_n hx hb d_M_read_5 rfl (lv_at hl 0 rfl) ?_
  refine lv_iconst (v := (-1 : Int32)) hx hb d_M_read_6 (by decide) ?_
  refine u_M_newMode hx hb hts hown hK hP hD hS 0 rfl rfl d_M_read_7 (fun H locs hP hD hS => ?_)
  have hP : va_P D cls ((o_M a m_length m_at m_lines m_x m_y m_mode m_feed m_state m_pulses m_last m_shown m_relative m_ending m_time m_pause m_kind m_made m_all m_fromX m_fromY m_wayX m_wayY m_points m_centreX m_centreY (0 : Int32) (-1 : Int32) m_newWay m_newFeed m_ends) :: (o_mt a K mt) :: e2 :: e3 :: (o_mn a K mn) :: tl) H := hP
  have hD : va_D A ((o_M a m_length m_at m_lines m_x m_y m_mode m_feed m_state m_pulses m_last m_shown m_relative m_ending m_time m_pause m_kind m_made m_all m_fromX m_fromY m_wayX m_wayY m_points m_centreX m_centreY (0 : Int32) (-1 : Int32) m_newWay m_newFeed m_ends) :: (o_mt a K mt) :: e2 :: e3 :: (o_mn a K mn) :: tl) := hD
  refine lv_aload_n hx hb d_M_read_10 rfl (lv_at hl 0 rfl) ?_
  refine lv_iconst (v := (-1 : Int32)) hx hb d_M_read_11 (by decide) ?_
  refine u_M_newWay hx hb hts hown hK hP hD hS 0 rfl rfl d_M_read_12 (fun H locs hP hD hS => ?_)
  have hP : va_P D cls ((o_M a m_length m_at m_lines m_x m_y m_mode m_feed m_state m_pulses m_last m_shown m_relative m_ending m_time m_pause m_kind m_made m_all m_fromX m_fromY m_wayX m_wayY m_points m_centreX m_centreY (0 : Int32) (-1 : Int32) (-1 : Int32) m_newFeed m_ends) :: (o_mt a K mt) :: e2 :: e3 :: (o_mn a K mn) :: tl) H := hP
  have hD : va_D A ((o_M a m_length m_at m_lines m_x m_y m_mode m_feed m_state m_pulses m_last m_shown m_relative m_ending m_time m_pause m_kind m_made m_all m_fromX m_fromY m_wayX m_wayY m_points m_centreX m_centreY (0 : Int32) (-1 : Int32) (-1 : Int32) m_newFeed m_ends) :: (o_mt a K mt) :: e2 :: e3 :: (o_mn a K mn) :: tl) := hD
  refine lv_aload_n hx hb d_M_read_15 rfl (lv_at hl 0 rfl) ?_
  refine lv_iconst (v := (-1 : Int32)) hx hb d_M_read_16 (by decide) ?_
  refine u_M_newFeed hx hb hts hown hK hP hD hS 0 rfl rfl d_M_read_17 (fun H locs hP hD hS => ?_)
  have hP : va_P D cls ((o_M a m_length m_at m_lines m_x m_y m_mode m_feed m_state m_pulses m_last m_shown m_relative m_ending m_time m_pause m_kind m_made m_all m_fromX m_fromY m_wayX m_wayY m_points m_centreX m_centreY (0 : Int32) (-1 : Int32) (-1 : Int32) (-1 : Int32) m_ends) :: (o_mt a K mt) :: e2 :: e3 :: (o_mn a K mn) :: tl) H := hP
  have hD : va_D A ((o_M a m_length m_at m_lines m_x m_y m_mode m_feed m_state m_pulses m_last m_shown m_relative m_ending m_time m_pause m_kind m_made m_all m_fromX m_fromY m_wayX m_wayY m_points m_centreX m_centreY (0 : Int32) (-1 : Int32) (-1 : Int32) (-1 : Int32) m_ends) :: (o_mt a K mt) :: e2 :: e3 :: (o_mn a K mn) :: tl) := hD
  refine lv_aload_n hx hb d_M_read_20 rfl (lv_at hl 0 rfl) ?_
  refine lv_iconst (v := (-1 : Int32)) hx hb d_M_read_21 (by decide) ?_
  refine u_M_ends hx hb hts hown hK hP hD hS 0 rfl rfl d_M_read_22 (fun H locs hP hD hS => ?_)
  have hP : va_P D cls ((o_M a m_length m_at m_lines m_x m_y m_mode m_feed m_state m_pulses m_last m_shown m_relative m_ending m_time m_pause m_kind m_made m_all m_fromX m_fromY m_wayX m_wayY m_points m_centreX m_centreY (0 : Int32) (-1 : Int32) (-1 : Int32) (-1 : Int32) (-1 : Int32)) :: (o_mt a K mt) :: e2 :: e3 :: (o_mn a K mn) :: tl) H := hP
  have hD : va_D A ((o_M a m_length m_at m_lines m_x m_y m_mode m_feed m_state m_pulses m_last m_shown m_relative m_ending m_time m_pause m_kind m_made m_all m_fromX m_fromY m_wayX m_wayY m_points m_centreX m_centreY (0 : Int32) (-1 : Int32) (-1 : Int32) (-1 : Int32) (-1 : Int32)) :: (o_mt a K mt) :: e2 :: e3 :: (o_mn a K mn) :: tl) := hD
  refine lv_aload_n hx hb d_M_read_25 rfl (lv_at hl 0 rfl) ?_
  refine lv_iload_n hx hb d_M_read_26 rfl (lv_at hl 1 rfl) ?_
  refine lv_iload_n hx hb d_M_read_27 rfl (lv_at hl 2 rfl) ?_
  refine my_calli (va_runV (As := [.int x1, .int x2]) (rest := []) ⟨hx, hb, hml, hown, hts⟩ (c_M_skip l H.size) (cw_M_91 hts ⟨Nat.le_of_ble_eq_true rfl, Nat.le_of_ble_eq_true rfl⟩) (my_preV hK hP hX hD hS hA 0 rfl rfl hw) rfl rfl hl.1 rfl (lv_room (Nat.le_of_ble_eq_true rfl)) d_M_read_28 ⟨Nat.le_refl _, Nat.le_refl _⟩) hD hS hA (fun r28 _ H locs hw hP hD hS => ?_)
  have hP : va_P D cls ((o_M a m_length m_at m_lines m_x m_y m_mode m_feed m_state m_pulses m_last m_shown m_relative m_ending m_time m_pause m_kind m_made m_all m_fromX m_fromY m_wayX m_wayY m_points m_centreX m_centreY (0 : Int32) (-1 : Int32) (-1 : Int32) (-1 : Int32) (-1 : Int32)) :: (o_mt a K mt) :: e2 :: e3 :: (o_mn a K mn) :: tl) H := hP
  have hD : va_D A ((o_M a m_length m_at m_lines m_x m_y m_mode m_feed m_state m_pulses m_last m_shown m_relative m_ending m_time m_pause m_kind m_made m_all m_fromX m_fromY m_wayX m_wayY m_points m_centreX m_centreY (0 : Int32) (-1 : Int32) (-1 : Int32) (-1 : Int32) (-1 : Int32)) :: (o_mt a K mt) :: e2 :: e3 :: (o_mn a K mn) :: tl) := hD
  refine lv_istore_n (lv' := [(3, .int r28), (0, .ref (a 10)), (1, .int x1), (2, .int x2)]) hx hb d_M_read_31 rfl hl (Nat.le_of_ble_eq_true rfl) rfl (fun ls hl => ?_)
  refine lv_iconst (v := (0 : Int32)) hx hb d_M_read_32 (by decide) ?_
  refine lv_istore (lv' := [(4, .int (0 : Int32)), (3, .int r28), (0, .ref (a 10)), (1, .int x1), (2, .int x2)]) hx hb d_M_read_33 hl (Nat.le_of_ble_eq_true rfl) rfl (fun ls hl => ?_)
  obtain ⟨n35, hw⟩ := hw
  exact J35 n35 H locs ls x2 r28 (0 : Int32) (0 : Int32) (-1 : Int32) (-1 : Int32) (-1 : Int32) (-1 : Int32) mn hP hD hS (lv_sub hl [2, 4, 1, 0] rfl) hw
def wp_M_goal (x1 x2 m_relative m_there : Int32) (mn : Nat → Int32) (Q : Int32 → Prop) : Prop := ((¬ ((m_there >>> (x1 &&& 31)) &&& (1 : Int32)) = 0 → ((m_relative = 0 → (vp_in x1 4 ∧ (Q (mn x1.toNatClampNeg)))) ∧ (¬ m_relative = 0 → (vp_in x1 4 ∧ (Q (x2 + (mn x1.toNatClampNeg))))))) ∧ (((m_there >>> (x1 &&& 31)) &&& (1 : Int32)) = 0 → (Q x2)))
abbrev rm_M_goal : Room := { frames := 0, cells := 0, slots := 0, locals := 0 }
set_option maxRecDepth 100000 in
set_option maxHeartbeats 4000000 in
theorem c_M_goal (l : Launch) {D : va_G} {X : xT} {a : Nat → Nat} {K : Nat → ClassId} {tl : va_W} {e1 e2 e3 : Nat × va_E} {x1 x2 m_length m_at m_lines m_x m_y m_mode m_feed m_state m_pulses m_last m_shown m_relative m_ending : Int32} {m_time m_pause : Int64} {m_kind m_made m_all m_fromX m_fromY m_wayX m_wayY m_points m_centreX m_centreY m_there m_newMode m_newWay m_newFeed m_ends : Int32} {mn : Nat → Int32} {Q : Int32 → Prop} : MI l y_M_goal b_M_goal 3 rm_M_goal D cls (tys K) X [.ref (a 10), .int x1, .int x2] ((o_M a m_length m_at m_lines m_x m_y m_mode m_feed m_state m_pulses m_last m_shown m_relative m_ending m_time m_pause m_kind m_made m_all m_fromX m_fromY m_wayX m_wayY m_points m_centreX m_centreY m_there m_newMode m_newWay m_newFeed m_ends) :: e1 :: e2 :: e3 :: (o_mn a K mn) :: tl) (fun _ : Unit => (o_M a m_length m_at m_lines m_x m_y m_mode m_feed m_state m_pulses m_last m_shown m_relative m_ending m_time m_pause m_kind m_made m_all m_fromX m_fromY m_wayX m_wayY m_points m_centreX m_centreY m_there m_newMode m_newWay m_newFeed m_ends) :: e1 :: e2 :: e3 :: (o_mn a K mn) :: tl) (wp_M_goal x1 x2 m_relative m_there mn Q) (fun r _ => Q r) := by
  refine my_of_I (by decide +kernel) (Nat.le_of_ble_eq_true rfl) (fun p e s m args below meth c A QQ H locs ls hx hb hts hown hml hK hX hA hP hD hS hl hw hret => ?_)
  replace hl : lv_has ls 3 [(0, .ref (a 10)), (1, .int x1), (2, .int x2)] := hl
  unfold wp_M_goal at hw
  refine lv_aload_n hx hb d_M_goal_0 rfl (lv_at hl 0 rfl) ?_
  refine g_M_there hx hb hts hown hK hP 0 rfl rfl d_M_goal_1 ?_
  refine lv_iload_n hx hb d_M_goal_4 rfl (lv_at hl 1 rfl) ?_
  refine lv_ishr hx hb d_M_goal_5 ?_
  refine lv_iconst (v := (1 : Int32)) hx hb d_M_goal_6 (by decide) ?_
  refine lv_iand hx hb d_M_goal_7 ?_
  refine lv_if_ne (tgt := 13) hx hb d_M_goal_8 (by decide) (fun hc => ?_) (fun hc => ?_)
  · replace hw := hw.1 hc
    refine lv_aload_n hx hb d_M_goal_13 rfl (lv_at hl 0 rfl) ?_
    refine g_M_relative hx hb hts hown hK hP 0 rfl rfl d_M_goal_14 ?_
    refine lv_if_eq (tgt := 31) hx hb d_M_goal_17 (by decide) (fun hc => ?_) (fun hc => ?_)
    · replace hw := hw.1 hc
      refine lv_aload_n hx hb d_M_goal_31 rfl (lv_at hl 0 rfl) ?_
      refine g_M_number hx hb hts hown hK hP 0 rfl rfl d_M_goal_32 ?_
      refine lv_iload_n hx hb d_M_goal_35 rfl (lv_at hl 1 rfl) ?_
      refine va_iald hx hb hK hP 4 8 rfl rfl hw.1 d_M_goal_36 ?_
      replace hw := hw.2
      exact hret H locs ls 37 (mn x1.toNatClampNeg) (()) d_M_goal_37 hP hD hS hw
    · replace hw := hw.2 hc
      refine lv_iload_n hx hb d_M_goal_20 rfl (lv_at hl 2 rfl) ?_
      refine lv_aload_n hx hb d_M_goal_21 rfl (lv_at hl 0 rfl) ?_
      refine g_M_number hx hb hts hown hK hP 0 rfl rfl d_M_goal_22 ?_
      refine lv_iload_n hx hb d_M_goal_25 rfl (lv_at hl 1 rfl) ?_
      refine va_iald hx hb hK hP 4 8 rfl rfl hw.1 d_M_goal_26 ?_
      replace hw := hw.2
      refine lv_iadd hx hb d_M_goal_27 ?_
      refine lv_goto (tgt := 37) hx hb d_M_goal_28 (by decide) ?_
      exact hret H locs ls 37 (x2 + (mn x1.toNatClampNeg)) (()) d_M_goal_37 hP hD hS hw
  · replace hw := hw.2 hc
    refine lv_iload_n hx hb d_M_goal_11 rfl (lv_at hl 2 rfl) ?_
    exact hret H locs ls 12 (x2) (()) d_M_goal_12 hP hD hS hw
def wp_M_inLimits (x0 : Int32) (Q : Int32 → Prop) : Prop := ((x0 < (-200 : Int32) → (Q (0 : Int32))) ∧ (¬ x0 < (-200 : Int32) → (((200 : Int32) < x0 → (Q (0 : Int32))) ∧ (¬ (200 : Int32) < x0 → (Q (1 : Int32))))))
abbrev rm_M_inLimits : Room := { frames := 0, cells := 0, slots := 0, locals := 0 }
set_option maxRecDepth 100000 in
set_option maxHeartbeats 4000000 in
theorem c_M_inLimits (l : Launch) {D : va_G} {X : xT} {K : Nat → ClassId} {tl : va_W} {x0 : Int32} {Q : Int32 → Prop} : MZ l y_M_inLimits b_M_inLimits 1 rm_M_inLimits D cls (tys K) X [.int x0] (tl) (fun _ : Unit => tl) (wp_M_inLimits x0 Q) (fun r _ => Q r) := by
  refine my_of_Z (by decide +kernel) (Nat.le_of_ble_eq_true rfl) (fun p e s m args below meth c A QQ H locs ls hx hb hts hown hml hK hX hA hP hD hS hl hw hret => ?_)
  replace hl : lv_has ls 1 [(0, .int x0)] := hl
  unfold wp_M_inLimits at hw
  refine lv_iload_n hx hb d_M_inLimits_0 rfl (lv_at hl 0 rfl) ?_
  refine lv_sipush (v := (-200 : Int32)) hx hb d_M_inLimits_1 (by decide) ?_
  refine lv_icmp_lt (tgt := 18) hx hb d_M_inLimits_4 (by decide) (fun hc => ?_) (fun hc => ?_)
  · replace hw := hw.1 hc
    refine lv_iconst (v := (0 : Int32)) hx hb d_M_inLimits_18 (by decide) ?_
    exact hret H locs ls 19 ((0 : Int32)) (()) d_M_inLimits_19 (Or.inl rfl) hP hD hS hw
  · replace hw := hw.2 hc
    refine lv_iload_n hx hb d_M_inLimits_7 rfl (lv_at hl 0 rfl) ?_
    refine lv_sipush (v := (200 : Int32)) hx hb d_M_inLimits_8 (by decide) ?_
    refine lv_icmp_gt (tgt := 18) hx hb d_M_inLimits_11 (by decide) (fun hc => ?_) (fun hc => ?_)
    · replace hw := hw.1 hc
      refine lv_iconst (v := (0 : Int32)) hx hb d_M_inLimits_18 (by decide) ?_
      exact hret H locs ls 19 ((0 : Int32)) (()) d_M_inLimits_19 (Or.inl rfl) hP hD hS hw
    · replace hw := hw.2 hc
      refine lv_iconst (v := (1 : Int32)) hx hb d_M_inLimits_14 (by decide) ?_
      refine lv_goto (tgt := 19) hx hb d_M_inLimits_15 (by decide) ?_
      exact hret H locs ls 19 ((1 : Int32)) (()) d_M_inLimits_19 (Or.inr rfl) hP hD hS hw
def wq_M_over_40 (Q : Int32 → Prop) (K13 : Int32 → Int32 → Int32 → Prop) (x2 x3 x4 : Int32) : Prop := (K13 x2 x3 (x4 + (1 : Int32)))
def wq_M_over_13 (Q : Int32 → Prop)  : Nat → Int32 → Int32 → Int32 → Prop
  | 0, _, _, _ => False
  | n13 + 1, x2, x3, x4 => (((500 : Int32) ≤ x4 → (Q x3)) ∧ (¬ (500 : Int32) ≤ x4 → ((x2 < ((((2 : Int32) * x3) + (1 : Int32)) * (((2 : Int32) * x3) + (1 : Int32))) → (wq_M_over_40 Q (fun x2 x3 x4 => wq_M_over_13 Q n13 x2 x3 x4) x2 x3 x4)) ∧ (¬ x2 < ((((2 : Int32) * x3) + (1 : Int32)) * (((2 : Int32) * x3) + (1 : Int32))) → (wq_M_over_40 Q (fun x2 x3 x4 => wq_M_over_13 Q n13 x2 x3 x4) x2 (x3 + (1 : Int32)) x4)))))
def wp_M_over (x0 x1 : Int32) (Q : Int32 → Prop) : Prop := (∃ n13 : Nat, wq_M_over_13 Q n13 ((4 : Int32) * (x0 - (x1 * x1))) (0 : Int32) (0 : Int32))
abbrev rm_M_over : Room := { frames := 0, cells := 0, slots := 0, locals := 0 }
set_option maxRecDepth 100000 in
set_option maxHeartbeats 4000000 in
theorem c_M_over (l : Launch) {D : va_G} {X : xT} {K : Nat → ClassId} {tl : va_W} {x0 x1 : Int32} {Q : Int32 → Prop} : MI l y_M_over b_M_over 5 rm_M_over D cls (tys K) X [.int x0, .int x1] (tl) (fun _ : Unit => tl) (wp_M_over x0 x1 Q) (fun r _ => Q r) := by
  refine my_of_I (by decide +kernel) (Nat.le_of_ble_eq_true rfl) (fun p e s m args below meth c A QQ H locs ls hx hb hts hown hml hK hX hA hP hD hS hl hw hret => ?_)
  replace hl : lv_has ls 5 [(0, .int x0), (1, .int x1)] := hl
  have J40 : ∀ (K13 : Int32 → Int32 → Int32 → Prop) (hK13 : ∀ (H : Heap) (locs : List Loc) (ls : Array Slot) (x2 x3 x4 : Int32), va_P D cls (tl) H → va_D A (tl) → va_S A s.heap H locs → lv_has ls 5 [(2, .int x2), (3, .int x3), (4, .int x4)] → K13 x2 x3 x4 → W p l e rm_M_over s m args below meth c H locs 0 0 QQ (F0 m 13 ls [])) (H : Heap) (locs : List Loc) (ls : Array Slot) (x2 x3 x4 : Int32), va_P D cls (tl) H → va_D A (tl) → va_S A s.heap H locs → lv_has ls 5 [(2, .int x2), (3, .int x3), (4, .int x4)] → wq_M_over_40 Q K13 x2 x3 x4 → W p l e rm_M_over s m args below meth c H locs 0 0 QQ (F0 m 40 ls []) := by
    intro K13 hK13 H locs ls x2 x3 x4 hP hD hS hl hw
    unfold wq_M_over_40 at hw
    refine lv_iinc (k := 2) (v := x4 + (1 : Int32)) (lv' := [(4, .int (x4 + (1 : Int32))), (2, .int x2), (3, .int x3)]) hx hb d_M_over_40 hl rfl (iinc_1 _) (Nat.le_of_ble_eq_true rfl) rfl (fun ls hl => ?_)
    refine lv_goto (tgt := 13) hx hb d_M_over_43 (by decide) ?_
    exact hK13 H locs ls x2 x3 (x4 + (1 : Int32)) hP hD hS (lv_sub hl [1, 2, 0] rfl) hw
  have J13 : ∀ (n13 : Nat) (H : Heap) (locs : List Loc) (ls : Array Slot) (x2 x3 x4 : Int32), va_P D cls (tl) H → va_D A (tl) → va_S A s.heap H locs → lv_has ls 5 [(2, .int x2), (3, .int x3), (4, .int x4)] → wq_M_over_13 Q n13 x2 x3 x4 → W p l e rm_M_over s m args below meth c H locs 0 0 QQ (F0 m 13 ls []) := by
    intro n13
    induction n13 with
    | zero => intro H locs ls x2 x3 x4 hP hD hS hl hw; exact False.elim hw
    | succ n13 ih =>
      intro H locs ls x2 x3 x4 hP hD hS hl hw
      unfold wq_M_over_13 at hw
      refine lv_iload hx hb d_M_over_13 (lv_at hl 2 rfl) ?_
      refine lv_sipush (v := (500 : Int32)) hx hb d_M_over_15 (by decide) ?_
      refine lv_icmp_ge (tgt := 46) hx hb d_M_over_18 (by decide) (fun hc => ?_) (fun hc => ?_)
      · replace hw := hw.1 hc
        refine lv_iload_n hx hb d_M_over_46 rfl (lv_at hl 1 rfl) ?_
        exact hret H locs ls 47 (x3) (()) d_M_over_47 hP hD hS hw
      · replace hw := hw.2 hc
        refine lv_iload_n hx hb d_M_over_21 rfl (lv_at hl 0 rfl) ?_
        refine lv_iconst (v := (2 : Int32)) hx hb d_M_over_22 (by decide) ?_
        refine lv_iload_n hx hb d_M_over_23 rfl (lv_at hl 1 rfl) ?_
        refine lv_imul hx hb d_M_over_24 ?_
        refine lv_iconst (v := (1 : Int32)) hx hb d_M_over_25 (by decide) ?_
        refine lv_iadd hx hb d_M_over_26 ?_
        refine lv_iconst (v := (2 : Int32)) hx hb d_M_over_27 (by decide) ?_
        refine lv_iload_n hx hb d_M_over_28 rfl (lv_at hl 1 rfl) ?_
        refine lv_imul hx hb d_M_over_29 ?_
        refine lv_iconst (v := (1 : Int32)) hx hb d_M_over_30 (by decide) ?_
        refine lv_iadd hx hb d_M_over_31 ?_
        refine lv_imul hx hb d_M_over_32 ?_
        refine lv_icmp_lt (tgt := 40) hx hb d_M_over_33 (by decide) (fun hc => ?_) (fun hc => ?_)
        · replace hw := hw.1 hc
          exact J40 (fun x2 x3 x4 => wq_M_over_13 Q n13 x2 x3 x4) ih H locs ls x2 x3 x4 hP hD hS (lv_sub hl [0, 1, 2] rfl) hw
        · replace hw := hw.2 hc
          refine lv_iload_n hx hb d_M_over_36 rfl (lv_at hl 1 rfl) ?_
          refine lv_iconst (v := (1 : Int32)) hx hb d_M_over_37 (by decide) ?_
          refine lv_iadd hx hb d_M_over_38 ?_
          refine lv_istore_n (lv' := [(3, .int (x3 + (1 : Int32))), (2, .int x2), (4, .int x4)]) hx hb d_M_over_39 rfl hl (Nat.le_of_ble_eq_true rfl) rfl (fun ls hl => ?_)
          exact J40 (fun x2 x3 x4 => wq_M_over_13 Q n13 x2 x3 x4) ih H locs ls x2 (x3 + (1 : Int32)) x4 hP hD hS (lv_sub hl [1, 0, 2] rfl) hw
  unfold wp_M_over at hw
  refine lv_iconst (v := (4 : Int32)) hx hb d_M_over_0 (by decide) ?_
  refine lv_iload_n hx hb d_M_over_1 rfl (lv_at hl 0 rfl) ?_
  refine lv_iload_n hx hb d_M_over_2 rfl (lv_at hl 1 rfl) ?_
  refine lv_iload_n hx hb d_M_over_3 rfl (lv_at hl 1 rfl) ?_
  refine lv_imul hx hb d_M_over_4 ?_
  refine lv_isub hx hb d_M_over_5 ?_
  refine lv_imul hx hb d_M_over_6 ?_
  refine lv_istore_n (lv' := [(2, .int ((4 : Int32) * (x0 - (x1 * x1)))), (0, .int x0), (1, .int x1)]) hx hb d_M_over_7 rfl hl (Nat.le_of_ble_eq_true rfl) rfl (fun ls hl => ?_)
  refine lv_iconst (v := (0 : Int32)) hx hb d_M_over_8 (by decide) ?_
  refine lv_istore_n (lv' := [(3, .int (0 : Int32)), (2, .int ((4 : Int32) * (x0 - (x1 * x1)))), (0, .int x0), (1, .int x1)]) hx hb d_M_over_9 rfl hl (Nat.le_of_ble_eq_true rfl) rfl (fun ls hl => ?_)
  refine lv_iconst (v := (0 : Int32)) hx hb d_M_over_10 (by decide) ?_
  refine lv_istore (lv' := [(4, .int (0 : Int32)), (3, .int (0 : Int32)), (2, .int ((4 : Int32) * (x0 - (x1 * x1)))), (0, .int x0), (1, .int x1)]) hx hb d_M_over_11 hl (Nat.le_of_ble_eq_true rfl) rfl (fun ls hl => ?_)
  obtain ⟨n13, hw⟩ := hw
  exact J13 n13 H locs ls ((4 : Int32) * (x0 - (x1 * x1))) (0 : Int32) (0 : Int32) hP hD hS (lv_sub hl [2, 1, 0] rfl) hw
def wq_M_point_31 (Q : Int32 → (Nat → Int32) → (Nat → Int32) → Prop) (K2 : Int32 → Int32 → Int32 → Int32 → (Nat → Int32) → (Nat → Int32) → Prop) (x1 x2 x3 m_points : Int32) (mx my : Nat → Int32) : Prop := (K2 x1 x2 (x3 + (1 : Int32)) m_points mx my)
def wq_M_point_2 (Q : Int32 → (Nat → Int32) → (Nat → Int32) → Prop)  : Nat → Int32 → Int32 → Int32 → Int32 → (Nat → Int32) → (Nat → Int32) → Prop
  | 0, _, _, _, _, _, _ => False
  | n2 + 1, x1, x2, x3, m_points, mx, my => ((m_points ≤ x3 → (vp_in m_points 2400 ∧ (vp_in m_points 2400 ∧ (Q (m_points + (1 : Int32)) (upd mx m_points.toNatClampNeg x1) (upd my m_points.toNatClampNeg x2))))) ∧ (¬ m_points ≤ x3 → (vp_in x3 2400 ∧ ((¬ (mx x3.toNatClampNeg) = x1 → (wq_M_point_31 Q (fun x1 x2 x3 m_points mx my => wq_M_point_2 Q n2 x1 x2 x3 m_points mx my) x1 x2 x3 m_points mx my)) ∧ ((mx x3.toNatClampNeg) = x1 → (vp_in x3 2400 ∧ ((¬ (my x3.toNatClampNeg) = x2 → (wq_M_point_31 Q (fun x1 x2 x3 m_points mx my => wq_M_point_2 Q n2 x1 x2 x3 m_points mx my) x1 x2 x3 m_points mx my)) ∧ ((my x3.toNatClampNeg) = x2 → (Q m_points mx my)))))))))
def wp_M_point (x1 x2 m_points : Int32) (mx my : Nat → Int32) (Q : Int32 → (Nat → Int32) → (Nat → Int32) → Prop) : Prop := (∃ n2 : Nat, wq_M_point_2 Q n2 x1 x2 (0 : Int32) m_points mx my)
abbrev rm_M_point : Room := { frames := 0, cells := 0, slots := 0, locals := 0 }
set_option maxRecDepth 100000 in
set_option maxHeartbeats 4000000 in
theorem c_M_point (l : Launch) {D : va_G} {X : xT} {a : Nat → Nat} {K : Nat → ClassId} {tl : va_W} {e1 : Nat × va_E} {x1 x2 m_length m_at m_lines m_x m_y m_mode m_feed m_state m_pulses m_last m_shown m_relative m_ending : Int32} {m_time m_pause : Int64} {m_kind m_made m_all m_fromX m_fromY m_wayX m_wayY m_points m_centreX m_centreY m_there m_newMode m_newWay m_newFeed m_ends : Int32} {mx my : Nat → Int32} {Q : Int32 → (Nat → Int32) → (Nat → Int32) → Prop} : MV l y_M_point b_M_point 4 rm_M_point D cls (tys K) X [.ref (a 10), .int x1, .int x2] ((o_M a m_length m_at m_lines m_x m_y m_mode m_feed m_state m_pulses m_last m_shown m_relative m_ending m_time m_pause m_kind m_made m_all m_fromX m_fromY m_wayX m_wayY m_points m_centreX m_centreY m_there m_newMode m_newWay m_newFeed m_ends) :: e1 :: (o_mx a K mx) :: (o_my a K my) :: tl) (fun u : Int32 × (Nat → Int32) × (Nat → Int32) => (o_M a m_length m_at m_lines m_x m_y m_mode m_feed m_state m_pulses m_last m_shown m_relative m_ending m_time m_pause m_kind m_made m_all m_fromX m_fromY m_wayX m_wayY u.1 m_centreX m_centreY m_there m_newMode m_newWay m_newFeed m_ends) :: e1 :: (o_mx a K u.2.1) :: (o_my a K u.2.2) :: tl) (wp_M_point x1 x2 m_points mx my Q) (fun u => Q u.1 u.2.1 u.2.2) := by
  refine my_of_V (by decide +kernel) (Nat.le_of_ble_eq_true rfl) (fun p e s m args below meth c A QQ H locs ls hx hb hts hown hml hK hX hA hP hD hS hl hw hret => ?_)
  replace hl : lv_has ls 4 [(0, .ref (a 10)), (1, .int x1), (2, .int x2)] := hl
  have J31 : ∀ (K2 : Int32 → Int32 → Int32 → Int32 → (Nat → Int32) → (Nat → Int32) → Prop) (hK2 : ∀ (H : Heap) (locs : List Loc) (ls : Array Slot) (x1 x2 x3 m_points : Int32) (mx my : Nat → Int32), va_P D cls ((o_M a m_length m_at m_lines m_x m_y m_mode m_feed m_state m_pulses m_last m_shown m_relative m_ending m_time m_pause m_kind m_made m_all m_fromX m_fromY m_wayX m_wayY m_points m_centreX m_centreY m_there m_newMode m_newWay m_newFeed m_ends) :: e1 :: (o_mx a K mx) :: (o_my a K my) :: tl) H → va_D A ((o_M a m_length m_at m_lines m_x m_y m_mode m_feed m_state m_pulses m_last m_shown m_relative m_ending m_time m_pause m_kind m_made m_all m_fromX m_fromY m_wayX m_wayY m_points m_centreX m_centreY m_there m_newMode m_newWay m_newFeed m_ends) :: e1 :: (o_mx a K mx) :: (o_my a K my) :: tl) → va_S A s.heap H locs → lv_has ls 4 [(0, .ref (a 10)), (1, .int x1), (2, .int x2), (3, .int x3)] → K2 x1 x2 x3 m_points mx my → W p l e rm_M_point s m args below meth c H locs 0 0 QQ (F0 m 2 ls [])) (H : Heap) (locs : List Loc) (ls : Array Slot) (x1 x2 x3 m_points : Int32) (mx my : Nat → Int32), va_P D cls ((o_M a m_length m_at m_lines m_x m_y m_mode m_feed m_state m_pulses m_last m_shown m_relative m_ending m_time m_pause m_kind m_made m_all m_fromX m_fromY m_wayX m_wayY m_points m_centreX m_centreY m_there m_newMode m_newWay m_newFeed m_ends) :: e1 :: (o_mx a K mx) :: (o_my a K my) :: tl) H → va_D A ((o_M a m_length m_at m_lines m_x m_y m_mode m_feed m_state m_pulses m_last m_shown m_relative m_ending m_time m_pause m_kind m_made m_all m_fromX m_fromY m_wayX m_wayY m_points m_centreX m_centreY m_there m_newMode m_newWay m_newFeed m_ends) :: e1 :: (o_mx a K mx) :: (o_my a K my) :: tl) → va_S A s.heap H locs → lv_has ls 4 [(0, .ref (a 10)), (1, .int x1), (2, .int x2), (3, .int x3)] → wq_M_point_31 Q K2 x1 x2 x3 m_points mx my → W p l e rm_M_point s m args below meth c H locs 0 0 QQ (F0 m 31 ls []) := by
    intro K2 hK2 H locs ls x1 x2 x3 m_points mx my hP hD hS hl hw
    unfold wq_M_point_31 at hw
    refine lv_iinc (k := 3) (v := x3 + (1 : Int32)) (lv' := [(3, .int (x3 + (1 : Int32))), (0, .ref (a 10)), (1, .int x1), (2, .int x2)]) hx hb d_M_point_31 hl rfl (iinc_1 _) (Nat.le_of_ble_eq_true rfl) rfl (fun ls hl => ?_)
    refine lv_goto (tgt := 2) hx hb d_M_point_34 (by decide) ?_
    exact hK2 H locs ls x1 x2 (x3 + (1 : Int32)) m_points mx my hP hD hS (lv_sub hl [1, 2, 3, 0] rfl) hw
  have J2 : ∀ (n2 : Nat) (H : Heap) (locs : List Loc) (ls : Array Slot) (x1 x2 x3 m_points : Int32) (mx my : Nat → Int32), va_P D cls ((o_M a m_length m_at m_lines m_x m_y m_mode m_feed m_state m_pulses m_last m_shown m_relative m_ending m_time m_pause m_kind m_made m_all m_fromX m_fromY m_wayX m_wayY m_points m_centreX m_centreY m_there m_newMode m_newWay m_newFeed m_ends) :: e1 :: (o_mx a K mx) :: (o_my a K my) :: tl) H → va_D A ((o_M a m_length m_at m_lines m_x m_y m_mode m_feed m_state m_pulses m_last m_shown m_relative m_ending m_time m_pause m_kind m_made m_all m_fromX m_fromY m_wayX m_wayY m_points m_centreX m_centreY m_there m_newMode m_newWay m_newFeed m_ends) :: e1 :: (o_mx a K mx) :: (o_my a K my) :: tl) → va_S A s.heap H locs → lv_has ls 4 [(0, .ref (a 10)), (1, .int x1), (2, .int x2), (3, .int x3)] → wq_M_point_2 Q n2 x1 x2 x3 m_points mx my → W p l e rm_M_point s m args below meth c H locs 0 0 QQ (F0 m 2 ls []) := by
    intro n2
    induction n2 with
    | zero => intro H locs ls x1 x2 x3 m_points mx my hP hD hS hl hw; exact False.elim hw
    | succ n2 ih =>
      intro H locs ls x1 x2 x3 m_points mx my hP hD hS hl hw
      unfold wq_M_point_2 at hw
      refine lv_iload_n hx hb d_M_point_2 rfl (lv_at hl 3 rfl) ?_
      refine lv_aload_n hx hb d_M_point_3 rfl (lv_at hl 0 rfl) ?_
      refine g_M_points hx hb hts hown hK hP 0 rfl rfl d_M_point_4 ?_
      refine lv_icmp_ge (tgt := 37) hx hb d_M_point_7 (by decide) (fun hc => ?_) (fun hc => ?_)
      · replace hw := hw.1 hc
        refine lv_aload_n hx hb d_M_point_37 rfl (lv_at hl 0 rfl) ?_
        refine g_M_px hx hb hts hown hK hP 0 rfl rfl d_M_point_38 ?_
        refine lv_aload_n hx hb d_M_point_41 rfl (lv_at hl 0 rfl) ?_
        refine g_M_points hx hb hts hown hK hP 0 rfl rfl d_M_point_42 ?_
        refine lv_iload_n hx hb d_M_point_45 rfl (lv_at hl 1 rfl) ?_
        refine va_iast hx hb hK hP hD hS 2 6 rfl rfl hw.1 d_M_point_46 (fun H locs hP hD hS => ?_)
        replace hw := hw.2
        have hP : va_P D cls ((o_M a m_length m_at m_lines m_x m_y m_mode m_feed m_state m_pulses m_last m_shown m_relative m_ending m_time m_pause m_kind m_made m_all m_fromX m_fromY m_wayX m_wayY m_points m_centreX m_centreY m_there m_newMode m_newWay m_newFeed m_ends) :: e1 :: (o_mx a K (upd mx m_points.toNatClampNeg x1)) :: (o_my a K my) :: tl) H := hP
        have hD : va_D A ((o_M a m_length m_at m_lines m_x m_y m_mode m_feed m_state m_pulses m_last m_shown m_relative m_ending m_time m_pause m_kind m_made m_all m_fromX m_fromY m_wayX m_wayY m_points m_centreX m_centreY m_there m_newMode m_newWay m_newFeed m_ends) :: e1 :: (o_mx a K (upd mx m_points.toNatClampNeg x1)) :: (o_my a K my) :: tl) := hD
        refine lv_aload_n hx hb d_M_point_47 rfl (lv_at hl 0 rfl) ?_
        refine g_M_py hx hb hts hown hK hP 0 rfl rfl d_M_point_48 ?_
        refine lv_aload_n hx hb d_M_point_51 rfl (lv_at hl 0 rfl) ?_
        refine g_M_points hx hb hts hown hK hP 0 rfl rfl d_M_point_52 ?_
        refine lv_iload_n hx hb d_M_point_55 rfl (lv_at hl 2 rfl) ?_
        refine va_iast hx hb hK hP hD hS 3 7 rfl rfl hw.1 d_M_point_56 (fun H locs hP hD hS => ?_)
        replace hw := hw.2
        have hP : va_P D cls ((o_M a m_length m_at m_lines m_x m_y m_mode m_feed m_state m_pulses m_last m_shown m_relative m_ending m_time m_pause m_kind m_made m_all m_fromX m_fromY m_wayX m_wayY m_points m_centreX m_centreY m_there m_newMode m_newWay m_newFeed m_ends) :: e1 :: (o_mx a K (upd mx m_points.toNatClampNeg x1)) :: (o_my a K (upd my m_points.toNatClampNeg x2)) :: tl) H := hP
        have hD : va_D A ((o_M a m_length m_at m_lines m_x m_y m_mode m_feed m_state m_pulses m_last m_shown m_relative m_ending m_time m_pause m_kind m_made m_all m_fromX m_fromY m_wayX m_wayY m_points m_centreX m_centreY m_there m_newMode m_newWay m_newFeed m_ends) :: e1 :: (o_mx a K (upd mx m_points.toNatClampNeg x1)) :: (o_my a K (upd my m_points.toNatClampNeg x2)) :: tl) := hD
        refine lv_aload_n hx hb d_M_point_57 rfl (lv_at hl 0 rfl) ?_
        refine lv_aload_n hx hb d_M_point_58 rfl (lv_at hl 0 rfl) ?_
        refine g_M_points hx hb hts hown hK hP 0 rfl rfl d_M_point_59 ?_
        refine lv_iconst (v := (1 : Int32)) hx hb d_M_point_62 (by decide) ?_
        refine lv_iadd hx hb d_M_point_63 ?_
        refine u_M_points hx hb hts hown hK hP hD hS 0 rfl rfl d_M_point_64 (fun H locs hP hD hS => ?_)
        have hP : va_P D cls ((o_M a m_length m_at m_lines m_x m_y m_mode m_feed m_state m_pulses m_last m_shown m_relative m_ending m_time m_pause m_kind m_made m_all m_fromX m_fromY m_wayX m_wayY (m_points + (1 : Int32)) m_centreX m_centreY m_there m_newMode m_newWay m_newFeed m_ends) :: e1 :: (o_mx a K (upd mx m_points.toNatClampNeg x1)) :: (o_my a K (upd my m_points.toNatClampNeg x2)) :: tl) H := hP
        have hD : va_D A ((o_M a m_length m_at m_lines m_x m_y m_mode m_feed m_state m_pulses m_last m_shown m_relative m_ending m_time m_pause m_kind m_made m_all m_fromX m_fromY m_wayX m_wayY (m_points + (1 : Int32)) m_centreX m_centreY m_there m_newMode m_newWay m_newFeed m_ends) :: e1 :: (o_mx a K (upd mx m_points.toNatClampNeg x1)) :: (o_my a K (upd my m_points.toNatClampNeg x2)) :: tl) := hD
        exact hret H locs ls 67 ((m_points + (1 : Int32), upd mx m_points.toNatClampNeg x1, upd my m_points.toNatClampNeg x2)) d_M_point_67 hP hD hS hw
      · replace hw := hw.2 hc
        refine lv_aload_n hx hb d_M_point_10 rfl (lv_at hl 0 rfl) ?_
        refine g_M_px hx hb hts hown hK hP 0 rfl rfl d_M_point_11 ?_
        refine lv_iload_n hx hb d_M_point_14 rfl (lv_at hl 3 rfl) ?_
        refine va_iald hx hb hK hP 2 6 rfl rfl hw.1 d_M_point_15 ?_
        replace hw := hw.2
        refine lv_iload_n hx hb d_M_point_16 rfl (lv_at hl 1 rfl) ?_
        refine lv_icmp_ne (tgt := 31) hx hb d_M_point_17 (by decide) (fun hc => ?_) (fun hc => ?_)
        · replace hw := hw.1 hc
          exact J31 (fun x1 x2 x3 m_points mx my => wq_M_point_2 Q n2 x1 x2 x3 m_points mx my) ih H locs ls x1 x2 x3 m_points mx my hP hD hS (lv_sub hl [0, 1, 2, 3] rfl) hw
        · replace hw := hw.2 hc
          refine lv_aload_n hx hb d_M_point_20 rfl (lv_at hl 0 rfl) ?_
          refine g_M_py hx hb hts hown hK hP 0 rfl rfl d_M_point_21 ?_
          refine lv_iload_n hx hb d_M_point_24 rfl (lv_at hl 3 rfl) ?_
          refine va_iald hx hb hK hP 3 7 rfl rfl hw.1 d_M_point_25 ?_
          replace hw := hw.2
          refine lv_iload_n hx hb d_M_point_26 rfl (lv_at hl 2 rfl) ?_
          refine lv_icmp_ne (tgt := 31) hx hb d_M_point_27 (by decide) (fun hc => ?_) (fun hc => ?_)
          · replace hw := hw.1 hc
            exact J31 (fun x1 x2 x3 m_points mx my => wq_M_point_2 Q n2 x1 x2 x3 m_points mx my) ih H locs ls x1 x2 x3 m_points mx my hP hD hS (lv_sub hl [0, 1, 2, 3] rfl) hw
          · replace hw := hw.2 hc
            exact hret H locs ls 30 ((m_points, mx, my)) d_M_point_30 hP hD hS hw
  unfold wp_M_point at hw
  refine lv_iconst (v := (0 : Int32)) hx hb d_M_point_0 (by decide) ?_
  refine lv_istore_n (lv' := [(3, .int (0 : Int32)), (0, .ref (a 10)), (1, .int x1), (2, .int x2)]) hx hb d_M_point_1 rfl hl (Nat.le_of_ble_eq_true rfl) rfl (fun ls hl => ?_)
  obtain ⟨n2, hw⟩ := hw
  exact J2 n2 H locs ls x1 x2 (0 : Int32) m_points mx my hP hD hS (lv_sub hl [1, 2, 3, 0] rfl) hw
def wq_M_lay_36 (Q : Int32 → (Nat → Int32) → (Nat → Int32) → Prop)  : Nat → Int32 → Int32 → Int32 → Int32 → (Nat → Int32) → (Nat → Int32) → Prop
  | 0, _, _, _, _, _, _ => False
  | n36 + 1, x1, x2, x3, m_points, mx, my => ((x2 < x3 → (wp_M_over x1 x2 (fun r86 => ((¬ r86 = (x2 + (2 : Int32)) → (Q m_points mx my)) ∧ (r86 = (x2 + (2 : Int32)) → (wp_M_point (x2 + (1 : Int32)) (x2 + (1 : Int32)) m_points mx my (fun m_points_102 mx_102 my_102 => (wp_M_point (x2 + (1 : Int32)) ((-x2) - (1 : Int32)) m_points_102 mx_102 my_102 (fun m_points_113 mx_113 my_113 => (wp_M_point ((-x2) - (1 : Int32)) (x2 + (1 : Int32)) m_points_113 mx_113 my_113 (fun m_points_124 mx_124 my_124 => (wp_M_point ((-x2) - (1 : Int32)) ((-x2) - (1 : Int32)) m_points_124 mx_124 my_124 (fun m_points_136 mx_136 my_136 => (Q m_points_136 mx_136 my_136)))))))))))))) ∧ (¬ x2 < x3 → (wp_M_over x1 x3 (fun r43 => (wp_M_point x3 r43 m_points mx my (fun m_points_52 mx_52 my_52 => (wp_M_point x3 (-r43) m_points_52 mx_52 my_52 (fun m_points_60 mx_60 my_60 => (wp_M_point r43 x3 m_points_60 mx_60 my_60 (fun m_points_67 mx_67 my_67 => (wp_M_point (-r43) x3 m_points_67 mx_67 my_67 (fun m_points_75 mx_75 my_75 => (wq_M_lay_36 Q n36 x1 x2 (x3 + (1 : Int32)) m_points_75 mx_75 my_75)))))))))))))
def wq_M_lay_27 (Q : Int32 → (Nat → Int32) → (Nat → Int32) → Prop) (K9 : Int32 → Int32 → Int32 → Int32 → (Nat → Int32) → (Nat → Int32) → Prop) (x1 x2 x3 m_points : Int32) (mx my : Nat → Int32) : Prop := (K9 x1 x2 (x3 + (1 : Int32)) m_points mx my)
def wq_M_lay_9 (Q : Int32 → (Nat → Int32) → (Nat → Int32) → Prop)  : Nat → Int32 → Int32 → Int32 → Int32 → (Nat → Int32) → (Nat → Int32) → Prop
  | 0, _, _, _, _, _, _ => False
  | n9 + 1, x1, x2, x3, m_points, mx, my => (((300 : Int32) ≤ x3 → (∃ n36 : Nat, wq_M_lay_36 Q n36 x1 x2 (-x2) m_points mx my)) ∧ (¬ (300 : Int32) ≤ x3 → ((x1 < (((2 : Int32) * x3) * x3) → (wq_M_lay_27 Q (fun x1 x2 x3 m_points mx my => wq_M_lay_9 Q n9 x1 x2 x3 m_points mx my) x1 x2 x3 m_points mx my)) ∧ (¬ x1 < (((2 : Int32) * x3) * x3) → (wq_M_lay_27 Q (fun x1 x2 x3 m_points mx my => wq_M_lay_9 Q n9 x1 x2 x3 m_points mx my) x1 x3 x3 m_points mx my)))))
def wp_M_lay (x1 m_points : Int32) (mx my : Nat → Int32) (Q : Int32 → (Nat → Int32) → (Nat → Int32) → Prop) : Prop := (∃ n9 : Nat, wq_M_lay_9 Q n9 x1 (0 : Int32) (0 : Int32) (0 : Int32) mx my)
abbrev rm_M_lay : Room := { frames := 1, cells := 0, slots := 0, locals := 24 }
set_option maxRecDepth 100000 in
set_option maxHeartbeats 4000000 in
theorem c_M_lay (l : Launch) {D : va_G} {X : xT} {a : Nat → Nat} {K : Nat → ClassId} {tl : va_W} {e1 : Nat × va_E} {x1 m_length m_at m_lines m_x m_y m_mode m_feed m_state m_pulses m_last m_shown m_relative m_ending : Int32} {m_time m_pause : Int64} {m_kind m_made m_all m_fromX m_fromY m_wayX m_wayY m_points m_centreX m_centreY m_there m_newMode m_newWay m_newFeed m_ends : Int32} {mx my : Nat → Int32} {Q : Int32 → (Nat → Int32) → (Nat → Int32) → Prop} : MV l y_M_lay b_M_lay 5 rm_M_lay D cls (tys K) X [.ref (a 10), .int x1] ((o_M a m_length m_at m_lines m_x m_y m_mode m_feed m_state m_pulses m_last m_shown m_relative m_ending m_time m_pause m_kind m_made m_all m_fromX m_fromY m_wayX m_wayY m_points m_centreX m_centreY m_there m_newMode m_newWay m_newFeed m_ends) :: e1 :: (o_mx a K mx) :: (o_my a K my) :: tl) (fun u : Int32 × (Nat → Int32) × (Nat → Int32) => (o_M a m_length m_at m_lines m_x m_y m_mode m_feed m_state m_pulses m_last m_shown m_relative m_ending m_time m_pause m_kind m_made m_all m_fromX m_fromY m_wayX m_wayY u.1 m_centreX m_centreY m_there m_newMode m_newWay m_newFeed m_ends) :: e1 :: (o_mx a K u.2.1) :: (o_my a K u.2.2) :: tl) (wp_M_lay x1 m_points mx my Q) (fun u => Q u.1 u.2.1 u.2.2) := by
  refine my_of_V (by decide +kernel) (Nat.le_of_ble_eq_true rfl) (fun p e s m args below meth c A QQ H locs ls hx hb hts hown hml hK hX hA hP hD hS hl hw hret => ?_)
  replace hl : lv_has ls 5 [(0, .ref (a 10)), (1, .int x1)] := hl
  have J36 : ∀ (n36 : Nat) (H : Heap) (locs : List Loc) (ls : Array Slot) (x1 x2 x3 m_points : Int32) (mx my : Nat → Int32), va_P D cls ((o_M a m_length m_at m_lines m_x m_y m_mode m_feed m_state m_pulses m_last m_shown m_relative m_ending m_time m_pause m_kind m_made m_all m_fromX m_fromY m_wayX m_wayY m_points m_centreX m_centreY m_there m_newMode m_newWay m_newFeed m_ends) :: e1 :: (o_mx a K mx) :: (o_my a K my) :: tl) H → va_D A ((o_M a m_length m_at m_lines m_x m_y m_mode m_feed m_state m_pulses m_last m_shown m_relative m_ending m_time m_pause m_kind m_made m_all m_fromX m_fromY m_wayX m_wayY m_points m_centreX m_centreY m_there m_newMode m_newWay m_newFeed m_ends) :: e1 :: (o_mx a K mx) :: (o_my a K my) :: tl) → va_S A s.heap H locs → lv_has ls 5 [(0, .ref (a 10)), (1, .int x1), (2, .int x2), (3, .int x3)] → wq_M_lay_36 Q n36 x1 x2 x3 m_points mx my → W p l e rm_M_lay s m args below meth c H locs 0 0 QQ (F0 m 36 ls []) := by
    intro n36
    induction n36 with
    | zero => intro H locs ls x1 x2 x3 m_points mx my hP hD hS hl hw; exact False.elim hw
    | succ n36 ih =>
      intro H locs ls x1 x2 x3 m_points mx my hP hD hS hl hw
      unfold wq_M_lay_36 at hw
      refine lv_iload_n hx hb d_M_lay_36 rfl (lv_at hl 3 rfl) ?_
      refine lv_iload_n hx hb d_M_lay_37 rfl (lv_at hl 2 rfl) ?_
      refine lv_icmp_gt (tgt := 84) hx hb d_M_lay_38 (by decide) (fun hc => ?_) (fun hc => ?_)
      · replace hw := hw.1 hc
        refine lv_iload_n hx hb d_M_lay_84 rfl (lv_at hl 1 rfl) ?_
        refine lv_iload_n hx hb d_M_lay_85 rfl (lv_at hl 2 rfl) ?_
        refine my_calli (va_runS (As := [.int x1, .int x2]) (rest := []) ⟨hx, hb, hml, hown, hts⟩ (c_M_over l H.size) (cw_M_155 hts ⟨Nat.le_of_ble_eq_true rfl, Nat.le_of_ble_eq_true rfl⟩) (my_preS hK hP hX hD hS hA hw) rfl rfl hl.1 rfl (lv_room (Nat.le_of_ble_eq_true rfl)) d_M_lay_86 ⟨Nat.le_refl _, Nat.le_refl _⟩) hD hS hA (fun r86 _ H locs hw hP hD hS => ?_)
        have hP : va_P D cls ((o_M a m_length m_at m_lines m_x m_y m_mode m_feed m_state m_pulses m_last m_shown m_relative m_ending m_time m_pause m_kind m_made m_all m_fromX m_fromY m_wayX m_wayY m_points m_centreX m_centreY m_there m_newMode m_newWay m_newFeed m_ends) :: e1 :: (o_mx a K mx) :: (o_my a K my) :: tl) H := hP
        have hD : va_D A ((o_M a m_length m_at m_lines m_x m_y m_mode m_feed m_state m_pulses m_last m_shown m_relative m_ending m_time m_pause m_kind m_made m_all m_fromX m_fromY m_wayX m_wayY m_points m_centreX m_centreY m_there m_newMode m_newWay m_newFeed m_ends) :: e1 :: (o_mx a K mx) :: (o_my a K my) :: tl) := hD
        refine lv_iload_n hx hb d_M_lay_89 rfl (lv_at hl 2 rfl) ?_
        refine lv_iconst (v := (2 : Int32)) hx hb d_M_lay_90 (by decide) ?_
        refine lv_iadd hx hb d_M_lay_91 ?_
        refine lv_icmp_ne (tgt := 139) hx hb d_M_lay_92 (by decide) (fun hc => ?_) (fun hc => ?_)
        · replace hw := hw.1 hc
          exact hret H locs ls 139 ((m_points, mx, my)) d_M_lay_139 hP hD hS hw
        · replace hw := hw.2 hc
          refine lv_aload_n hx hb d_M_lay_95 rfl (lv_at hl 0 rfl) ?_
          refine lv_iload_n hx hb d_M_lay_96 rfl (lv_at hl 2 rfl) ?_
          refine lv_iconst (v := (1 : Int32)) hx hb d_M_lay_97 (by decide) ?_
          refine lv_iadd hx hb d_M_lay_98 ?_
          refine lv_iload_n hx hb d_M_lay_99 rfl (lv_at hl 2 rfl) ?_
          refine lv_iconst (v := (1 : Int32)) hx hb d_M_lay_100 (by decide) ?_
          refine lv_iadd hx hb d_M_lay_101 ?_
          refine my_callv (va_runV (As := [.int (x2 + (1 : Int32)), .int (x2 + (1 : Int32))]) (rest := []) ⟨hx, hb, hml, hown, hts⟩ (c_M_point l H.size) (cw_M_158 hts ⟨Nat.le_of_ble_eq_true rfl, Nat.le_of_ble_eq_true rfl⟩) (my_preV hK hP hX hD hS hA 0 rfl rfl hw) rfl rfl hl.1 rfl (lv_room (Nat.le_of_ble_eq_true rfl)) d_M_lay_102 ⟨Nat.le_refl _, Nat.le_refl _⟩) hD hS hA (fun u H locs hw hP hD hS => ?_)
          obtain ⟨m_points_102, mx_102, my_102⟩ := u
          dsimp only at hw
          have hP : va_P D cls ((o_M a m_length m_at m_lines m_x m_y m_mode m_feed m_state m_pulses m_last m_shown m_relative m_ending m_time m_pause m_kind m_made m_all m_fromX m_fromY m_wayX m_wayY m_points_102 m_centreX m_centreY m_there m_newMode m_newWay m_newFeed m_ends) :: e1 :: (o_mx a K mx_102) :: (o_my a K my_102) :: tl) H := hP
          have hD : va_D A ((o_M a m_length m_at m_lines m_x m_y m_mode m_feed m_state m_pulses m_last m_shown m_relative m_ending m_time m_pause m_kind m_made m_all m_fromX m_fromY m_wayX m_wayY m_points_102 m_centreX m_centreY m_there m_newMode m_newWay m_newFeed m_ends) :: e1 :: (o_mx a K mx_102) :: (o_my a K my_102) :: tl) := hD
          refine lv_aload_n hx hb d_M_lay_105 rfl (lv_at hl 0 rfl) ?_
          refine lv_iload_n hx hb d_M_lay_106 rfl (lv_at hl 2 rfl) ?_
          refine lv_iconst (v := (1 : Int32)) hx hb d_M_lay_107 (by decide) ?_
          refine lv_iadd hx hb d_M_lay_108 ?_
          refine lv_iload_n hx hb d_M_lay_109 rfl (lv_at hl 2 rfl) ?_
          refine lv_ineg hx hb d_M_lay_110 ?_
          refine lv_iconst (v := (1 : Int32)) hx hb d_M_lay_111 (by decide) ?_
          refine lv_isub hx hb d_M_lay_112 ?_
          refine my_callv (va_runV (As := [.int (x2 + (1 : Int32)), .int ((-x2) - (1 : Int32))]) (rest := []) ⟨hx, hb, hml, hown, hts⟩ (c_M_point l H.size) (cw_M_158 hts ⟨Nat.le_of_ble_eq_true rfl, Nat.le_of_ble_eq_true rfl⟩) (my_preV hK hP hX hD hS hA 0 rfl rfl hw) rfl rfl hl.1 rfl (lv_room (Nat.le_of_ble_eq_true rfl)) d_M_lay_113 ⟨Nat.le_refl _, Nat.le_refl _⟩) hD hS hA (fun u H locs hw hP hD hS => ?_)
          obtain ⟨m_points_113, mx_113, my_113⟩ := u
          dsimp only at hw
          have hP : va_P D cls ((o_M a m_length m_at m_lines m_x m_y m_mode m_feed m_state m_pulses m_last m_shown m_relative m_ending m_time m_pause m_kind m_made m_all m_fromX m_fromY m_wayX m_wayY m_points_113 m_centreX m_centreY m_there m_newMode m_newWay m_newFeed m_ends) :: e1 :: (o_mx a K mx_113) :: (o_my a K my_113) :: tl) H := hP
          have hD : va_D A ((o_M a m_length m_at m_lines m_x m_y m_mode m_feed m_state m_pulses m_last m_shown m_relative m_ending m_time m_pause m_kind m_made m_all m_fromX m_fromY m_wayX m_wayY m_points_113 m_centreX m_centreY m_there m_newMode m_newWay m_newFeed m_ends) :: e1 :: (o_mx a K mx_113) :: (o_my a K my_113) :: tl) := hD
          refine lv_aload_n hx hb d_M_lay_116 rfl (lv_at hl 0 rfl) ?_
          refine lv_iload_n hx hb d_M_lay_117 rfl (lv_at hl 2 rfl) ?_
          refine lv_ineg hx hb d_M_lay_118 ?_
          refine lv_iconst (v := (1 : Int32)) hx hb d_M_lay_119 (by decide) ?_
          refine lv_isub hx hb d_M_lay_120 ?_
          refine lv_iload_n hx hb d_M_lay_121 rfl (lv_at hl 2 rfl) ?_
          refine lv_iconst (v := (1 : Int32)) hx hb d_M_lay_122 (by decide) ?_
          refine lv_iadd hx hb d_M_lay_123 ?_
          refine my_callv (va_runV (As := [.int ((-x2) - (1 : Int32)), .int (x2 + (1 : Int32))]) (rest := []) ⟨hx, hb, hml, hown, hts⟩ (c_M_point l H.size) (cw_M_158 hts ⟨Nat.le_of_ble_eq_true rfl, Nat.le_of_ble_eq_true rfl⟩) (my_preV hK hP hX hD hS hA 0 rfl rfl hw) rfl rfl hl.1 rfl (lv_room (Nat.le_of_ble_eq_true rfl)) d_M_lay_124 ⟨Nat.le_refl _, Nat.le_refl _⟩) hD hS hA (fun u H locs hw hP hD hS => ?_)
          obtain ⟨m_points_124, mx_124, my_124⟩ := u
          dsimp only at hw
          have hP : va_P D cls ((o_M a m_length m_at m_lines m_x m_y m_mode m_feed m_state m_pulses m_last m_shown m_relative m_ending m_time m_pause m_kind m_made m_all m_fromX m_fromY m_wayX m_wayY m_points_124 m_centreX m_centreY m_there m_newMode m_newWay m_newFeed m_ends) :: e1 :: (o_mx a K mx_124) :: (o_my a K my_124) :: tl) H := hP
          have hD : va_D A ((o_M a m_length m_at m_lines m_x m_y m_mode m_feed m_state m_pulses m_last m_shown m_relative m_ending m_time m_pause m_kind m_made m_all m_fromX m_fromY m_wayX m_wayY m_points_124 m_centreX m_centreY m_there m_newMode m_newWay m_newFeed m_ends) :: e1 :: (o_mx a K mx_124) :: (o_my a K my_124) :: tl) := hD
          refine lv_aload_n hx hb d_M_lay_127 rfl (lv_at hl 0 rfl) ?_
          refine lv_iload_n hx hb d_M_lay_128 rfl (lv_at hl 2 rfl) ?_
          refine lv_ineg hx hb d_M_lay_129 ?_
          refine lv_iconst (v := (1 : Int32)) hx hb d_M_lay_130 (by decide) ?_
          refine lv_isub hx hb d_M_lay_131 ?_
          refine lv_iload_n hx hb d_M_lay_132 rfl (lv_at hl 2 rfl) ?_
          refine lv_ineg hx hb d_M_lay_133 ?_
          refine lv_iconst (v := (1 : Int32)) hx hb d_M_lay_134 (by decide) ?_
          refine lv_isub hx hb d_M_lay_135 ?_
          refine my_callv (va_runV (As := [.int ((-x2) - (1 : Int32)), .int ((-x2) - (1 : Int32))]) (rest := []) ⟨hx, hb, hml, hown, hts⟩ (c_M_point l H.size) (cw_M_158 hts ⟨Nat.le_of_ble_eq_true rfl, Nat.le_of_ble_eq_true rfl⟩) (my_preV hK hP hX hD hS hA 0 rfl rfl hw) rfl rfl hl.1 rfl (lv_room (Nat.le_of_ble_eq_true rfl)) d_M_lay_136 ⟨Nat.le_refl _, Nat.le_refl _⟩) hD hS hA (fun u H locs hw hP hD hS => ?_)
          obtain ⟨m_points_136, mx_136, my_136⟩ := u
          dsimp only at hw
          have hP : va_P D cls ((o_M a m_length m_at m_lines m_x m_y m_mode m_feed m_state m_pulses m_last m_shown m_relative m_ending m_time m_pause m_kind m_made m_all m_fromX m_fromY m_wayX m_wayY m_points_136 m_centreX m_centreY m_there m_newMode m_newWay m_newFeed m_ends) :: e1 :: (o_mx a K mx_136) :: (o_my a K my_136) :: tl) H := hP
          have hD : va_D A ((o_M a m_length m_at m_lines m_x m_y m_mode m_feed m_state m_pulses m_last m_shown m_relative m_ending m_time m_pause m_kind m_made m_all m_fromX m_fromY m_wayX m_wayY m_points_136 m_centreX m_centreY m_there m_newMode m_newWay m_newFeed m_ends) :: e1 :: (o_mx a K mx_136) :: (o_my a K my_136) :: tl) := hD
          exact hret H locs ls 139 ((m_points_136, mx_136, my_136)) d_M_lay_139 hP hD hS hw
      · replace hw := hw.2 hc
        refine lv_iload_n hx hb d_M_lay_41 rfl (lv_at hl 1 rfl) ?_
        refine lv_iload_n hx hb d_M_lay_42 rfl (lv_at hl 3 rfl) ?_
        refine my_calli (va_runS (As := [.int x1, .int x3]) (rest := []) ⟨hx, hb, hml, hown, hts⟩ (c_M_over l H.size) (cw_M_155 hts ⟨Nat.le_of_ble_eq_true rfl, Nat.le_of_ble_eq_true rfl⟩) (my_preS hK hP hX hD hS hA hw) rfl rfl hl.1 rfl (lv_room (Nat.le_of_ble_eq_true rfl)) d_M_lay_43 ⟨Nat.le_refl _, Nat.le_refl _⟩) hD hS hA (fun r43 _ H locs hw hP hD hS => ?_)
        have hP : va_P D cls ((o_M a m_length m_at m_lines m_x m_y m_mode m_feed m_state m_pulses m_last m_shown m_relative m_ending m_time m_pause m_kind m_made m_all m_fromX m_fromY m_wayX m_wayY m_points m_centreX m_centreY m_there m_newMode m_newWay m_newFeed m_ends) :: e1 :: (o_mx a K mx) :: (o_my a K my) :: tl) H := hP
        have hD : va_D A ((o_M a m_length m_at m_lines m_x m_y m_mode m_feed m_state m_pulses m_last m_shown m_relative m_ending m_time m_pause m_kind m_made m_all m_fromX m_fromY m_wayX m_wayY m_points m_centreX m_centreY m_there m_newMode m_newWay m_newFeed m_ends) :: e1 :: (o_mx a K mx) :: (o_my a K my) :: tl) := hD
        refine lv_istore (lv' := [(4, .int r43), (0, .ref (a 10)), (1, .int x1), (2, .int x2), (3, .int x3)]) hx hb d_M_lay_46 hl (Nat.le_of_ble_eq_true rfl) rfl (fun ls hl => ?_)
        refine lv_aload_n hx hb d_M_lay_48 rfl (lv_at hl 1 rfl) ?_
        refine lv_iload_n hx hb d_M_lay_49 rfl (lv_at hl 4 rfl) ?_
        refine lv_iload hx hb d_M_lay_50 (lv_at hl 0 rfl) ?_
        refine my_callv (va_runV (As := [.int x3, .int r43]) (rest := []) ⟨hx, hb, hml, hown, hts⟩ (c_M_point l H.size) (cw_M_158 hts ⟨Nat.le_of_ble_eq_true rfl, Nat.le_of_ble_eq_true rfl⟩) (my_preV hK hP hX hD hS hA 0 rfl rfl hw) rfl rfl hl.1 rfl (lv_room (Nat.le_of_ble_eq_true rfl)) d_M_lay_52 ⟨Nat.le_refl _, Nat.le_refl _⟩) hD hS hA (fun u H locs hw hP hD hS => ?_)
        obtain ⟨m_points_52, mx_52, my_52⟩ := u
        dsimp only at hw
        have hP : va_P D cls ((o_M a m_length m_at m_lines m_x m_y m_mode m_feed m_state m_pulses m_last m_shown m_relative m_ending m_time m_pause m_kind m_made m_all m_fromX m_fromY m_wayX m_wayY m_points_52 m_centreX m_centreY m_there m_newMode m_newWay m_newFeed m_ends) :: e1 :: (o_mx a K mx_52) :: (o_my a K my_52) :: tl) H := hP
        have hD : va_D A ((o_M a m_length m_at m_lines m_x m_y m_mode m_feed m_state m_pulses m_last m_shown m_relative m_ending m_time m_pause m_kind m_made m_all m_fromX m_fromY m_wayX m_wayY m_points_52 m_centreX m_centreY m_there m_newMode m_newWay m_newFeed m_ends) :: e1 :: (o_mx a K mx_52) :: (o_my a K my_52) :: tl) := hD
        refine lv_aload_n hx hb d_M_lay_55 rfl (lv_at hl 1 rfl) ?_
        refine lv_iload_n hx hb d_M_lay_56 rfl (lv_at hl 4 rfl) ?_
        refine lv_iload hx hb d_M_lay_57 (lv_at hl 0 rfl) ?_
        refine lv_ineg hx hb d_M_lay_59 ?_
        refine my_callv (va_runV (As := [.int x3, .int (-r43)]) (rest := []) ⟨hx, hb, hml, hown, hts⟩ (c_M_point l H.size) (cw_M_158 hts ⟨Nat.le_of_ble_eq_true rfl, Nat.le_of_ble_eq_true rfl⟩) (my_preV hK hP hX hD hS hA 0 rfl rfl hw) rfl rfl hl.1 rfl (lv_room (Nat.le_of_ble_eq_true rfl)) d_M_lay_60 ⟨Nat.le_refl _, Nat.le_refl _⟩) hD hS hA (fun u H locs hw hP hD hS => ?_)
        obtain ⟨m_points_60, mx_60, my_60⟩ := u
        dsimp only at hw
        have hP : va_P D cls ((o_M a m_length m_at m_lines m_x m_y m_mode m_feed m_state m_pulses m_last m_shown m_relative m_ending m_time m_pause m_kind m_made m_all m_fromX m_fromY m_wayX m_wayY m_points_60 m_centreX m_centreY m_there m_newMode m_newWay m_newFeed m_ends) :: e1 :: (o_mx a K mx_60) :: (o_my a K my_60) :: tl) H := hP
        have hD : va_D A ((o_M a m_length m_at m_lines m_x m_y m_mode m_feed m_state m_pulses m_last m_shown m_relative m_ending m_time m_pause m_kind m_made m_all m_fromX m_fromY m_wayX m_wayY m_points_60 m_centreX m_centreY m_there m_newMode m_newWay m_newFeed m_ends) :: e1 :: (o_mx a K mx_60) :: (o_my a K my_60) :: tl) := hD
        refine lv_aload_n hx hb d_M_lay_63 rfl (lv_at hl 1 rfl) ?_
        refine lv_iload hx hb d_M_lay_64 (lv_at hl 0 rfl) ?_
        refine lv_iload_n hx hb d_M_lay_66 rfl (lv_at hl 4 rfl) ?_
        refine my_callv (va_runV (As := [.int r43, .int x3]) (rest := []) ⟨hx, hb, hml, hown, hts⟩ (c_M_point l H.size) (cw_M_158 hts ⟨Nat.le_of_ble_eq_true rfl, Nat.le_of_ble_eq_true rfl⟩) (my_preV hK hP hX hD hS hA 0 rfl rfl hw) rfl rfl hl.1 rfl (lv_room (Nat.le_of_ble_eq_true rfl)) d_M_lay_67 ⟨Nat.le_refl _, Nat.le_refl _⟩) hD hS hA (fun u H locs hw hP hD hS => ?_)
        obtain ⟨m_points_67, mx_67, my_67⟩ := u
        dsimp only at hw
        have hP : va_P D cls ((o_M a m_length m_at m_lines m_x m_y m_mode m_feed m_state m_pulses m_last m_shown m_relative m_ending m_time m_pause m_kind m_made m_all m_fromX m_fromY m_wayX m_wayY m_points_67 m_centreX m_centreY m_there m_newMode m_newWay m_newFeed m_ends) :: e1 :: (o_mx a K mx_67) :: (o_my a K my_67) :: tl) H := hP
        have hD : va_D A ((o_M a m_length m_at m_lines m_x m_y m_mode m_feed m_state m_pulses m_last m_shown m_relative m_ending m_time m_pause m_kind m_made m_all m_fromX m_fromY m_wayX m_wayY m_points_67 m_centreX m_centreY m_there m_newMode m_newWay m_newFeed m_ends) :: e1 :: (o_mx a K mx_67) :: (o_my a K my_67) :: tl) := hD
        refine lv_aload_n hx hb d_M_lay_70 rfl (lv_at hl 1 rfl) ?_
        refine lv_iload hx hb d_M_lay_71 (lv_at hl 0 rfl) ?_
        refine lv_ineg hx hb d_M_lay_73 ?_
        refine lv_iload_n hx hb d_M_lay_74 rfl (lv_at hl 4 rfl) ?_
        refine my_callv (va_runV (As := [.int (-r43), .int x3]) (rest := []) ⟨hx, hb, hml, hown, hts⟩ (c_M_point l H.size) (cw_M_158 hts ⟨Nat.le_of_ble_eq_true rfl, Nat.le_of_ble_eq_true rfl⟩) (my_preV hK hP hX hD hS hA 0 rfl rfl hw) rfl rfl hl.1 rfl (lv_room (Nat.le_of_ble_eq_true rfl)) d_M_lay_75 ⟨Nat.le_refl _, Nat.le_refl _⟩) hD hS hA (fun u H locs hw hP hD hS => ?_)
        obtain ⟨m_points_75, mx_75, my_75⟩ := u
        dsimp only at hw
        have hP : va_P D cls ((o_M a m_length m_at m_lines m_x m_y m_mode m_feed m_state m_pulses m_last m_shown m_relative m_ending m_time m_pause m_kind m_made m_all m_fromX m_fromY m_wayX m_wayY m_points_75 m_centreX m_centreY m_there m_newMode m_newWay m_newFeed m_ends) :: e1 :: (o_mx a K mx_75) :: (o_my a K my_75) :: tl) H := hP
        have hD : va_D A ((o_M a m_length m_at m_lines m_x m_y m_mode m_feed m_state m_pulses m_last m_shown m_relative m_ending m_time m_pause m_kind m_made m_all m_fromX m_fromY m_wayX m_wayY m_points_75 m_centreX m_centreY m_there m_newMode m_newWay m_newFeed m_ends) :: e1 :: (o_mx a K mx_75) :: (o_my a K my_75) :: tl) := hD
        refine lv_iinc (k := 4) (v := x3 + (1 : Int32)) (lv' := [(3, .int (x3 + (1 : Int32))), (4, .int r43), (0, .ref (a 10)), (1, .int x1), (2, .int x2)]) hx hb d_M_lay_78 hl rfl (iinc_1 _) (Nat.le_of_ble_eq_true rfl) rfl (fun ls hl => ?_)
        refine lv_goto (tgt := 36) hx hb d_M_lay_81 (by decide) ?_
        exact ih H locs ls x1 x2 (x3 + (1 : Int32)) m_points_75 mx_75 my_75 hP hD hS (lv_sub hl [2, 3, 4, 0] rfl) hw
  have J27 : ∀ (K9 : Int32 → Int32 → Int32 → Int32 → (Nat → Int32) → (Nat → Int32) → Prop) (hK9 : ∀ (H : Heap) (locs : List Loc) (ls : Array Slot) (x1 x2 x3 m_points : Int32) (mx my : Nat → Int32), va_P D cls ((o_M a m_length m_at m_lines m_x m_y m_mode m_feed m_state m_pulses m_last m_shown m_relative m_ending m_time m_pause m_kind m_made m_all m_fromX m_fromY m_wayX m_wayY m_points m_centreX m_centreY m_there m_newMode m_newWay m_newFeed m_ends) :: e1 :: (o_mx a K mx) :: (o_my a K my) :: tl) H → va_D A ((o_M a m_length m_at m_lines m_x m_y m_mode m_feed m_state m_pulses m_last m_shown m_relative m_ending m_time m_pause m_kind m_made m_all m_fromX m_fromY m_wayX m_wayY m_points m_centreX m_centreY m_there m_newMode m_newWay m_newFeed m_ends) :: e1 :: (o_mx a K mx) :: (o_my a K my) :: tl) → va_S A s.heap H locs → lv_has ls 5 [(0, .ref (a 10)), (1, .int x1), (2, .int x2), (3, .int x3)] → K9 x1 x2 x3 m_points mx my → W p l e rm_M_lay s m args below meth c H locs 0 0 QQ (F0 m 9 ls [])) (H : Heap) (locs : List Loc) (ls : Array Slot) (x1 x2 x3 m_points : Int32) (mx my : Nat → Int32), va_P D cls ((o_M a m_length m_at m_lines m_x m_y m_mode m_feed m_state m_pulses m_last m_shown m_relative m_ending m_time m_pause m_kind m_made m_all m_fromX m_fromY m_wayX m_wayY m_points m_centreX m_centreY m_there m_newMode m_newWay m_newFeed m_ends) :: e1 :: (o_mx a K mx) :: (o_my a K my) :: tl) H → va_D A ((o_M a m_length m_at m_lines m_x m_y m_mode m_feed m_state m_pulses m_last m_shown m_relative m_ending m_time m_pause m_kind m_made m_all m_fromX m_fromY m_wayX m_wayY m_points m_centreX m_centreY m_there m_newMode m_newWay m_newFeed m_ends) :: e1 :: (o_mx a K mx) :: (o_my a K my) :: tl) → va_S A s.heap H locs → lv_has ls 5 [(0, .ref (a 10)), (1, .int x1), (2, .int x2), (3, .int x3)] → wq_M_lay_27 Q K9 x1 x2 x3 m_points mx my → W p l e rm_M_lay s m args below meth c H locs 0 0 QQ (F0 m 27 ls []) := by
    intro K9 hK9 H locs ls x1 x2 x3 m_points mx my hP hD hS hl hw
    unfold wq_M_lay_27 at hw
    refine lv_iinc (k := 3) (v := x3 + (1 : Int32)) (lv' := [(3, .int (x3 + (1 : Int32))), (0, .ref (a 10)), (1, .int x1), (2, .int x2)]) hx hb d_M_lay_27 hl rfl (iinc_1 _) (Nat.le_of_ble_eq_true rfl) rfl (fun ls hl => ?_)
    refine lv_goto (tgt := 9) hx hb d_M_lay_30 (by decide) ?_
    exact hK9 H locs ls x1 x2 (x3 + (1 : Int32)) m_points mx my hP hD hS (lv_sub hl [1, 2, 3, 0] rfl) hw
  have J9 : ∀ (n9 : Nat) (H : Heap) (locs : List Loc) (ls : Array Slot) (x1 x2 x3 m_points : Int32) (mx my : Nat → Int32), va_P D cls ((o_M a m_length m_at m_lines m_x m_y m_mode m_feed m_state m_pulses m_last m_shown m_relative m_ending m_time m_pause m_kind m_made m_all m_fromX m_fromY m_wayX m_wayY m_points m_centreX m_centreY m_there m_newMode m_newWay m_newFeed m_ends) :: e1 :: (o_mx a K mx) :: (o_my a K my) :: tl) H → va_D A ((o_M a m_length m_at m_lines m_x m_y m_mode m_feed m_state m_pulses m_last m_shown m_relative m_ending m_time m_pause m_kind m_made m_all m_fromX m_fromY m_wayX m_wayY m_points m_centreX m_centreY m_there m_newMode m_newWay m_newFeed m_ends) :: e1 :: (o_mx a K mx) :: (o_my a K my) :: tl) → va_S A s.heap H locs → lv_has ls 5 [(0, .ref (a 10)), (1, .int x1), (2, .int x2), (3, .int x3)] → wq_M_lay_9 Q n9 x1 x2 x3 m_points mx my → W p l e rm_M_lay s m args below meth c H locs 0 0 QQ (F0 m 9 ls []) := by
    intro n9
    induction n9 with
    | zero => intro H locs ls x1 x2 x3 m_points mx my hP hD hS hl hw; exact False.elim hw
    | succ n9 ih =>
      intro H locs ls x1 x2 x3 m_points mx my hP hD hS hl hw
      unfold wq_M_lay_9 at hw
      refine lv_iload_n hx hb d_M_lay_9 rfl (lv_at hl 3 rfl) ?_
      refine lv_sipush (v := (300 : Int32)) hx hb d_M_lay_10 (by decide) ?_
      refine lv_icmp_ge (tgt := 33) hx hb d_M_lay_13 (by decide) (fun hc => ?_) (fun hc => ?_)
      · replace hw := hw.1 hc
        refine lv_iload_n hx hb d_M_lay_33 rfl (lv_at hl 2 rfl) ?_
        refine lv_ineg hx hb d_M_lay_34 ?_
        refine lv_istore_n (lv' := [(3, .int (-x2)), (0, .ref (a 10)), (1, .int x1), (2, .int x2)]) hx hb d_M_lay_35 rfl hl (Nat.le_of_ble_eq_true rfl) rfl (fun ls hl => ?_)
        obtain ⟨n36, hw⟩ := hw
        exact J36 n36 H locs ls x1 x2 (-x2) m_points mx my hP hD hS (lv_sub hl [1, 2, 3, 0] rfl) hw
      · replace hw := hw.2 hc
        refine lv_iconst (v := (2 : Int32)) hx hb d_M_lay_16 (by decide) ?_
        refine lv_iload_n hx hb d_M_lay_17 rfl (lv_at hl 3 rfl) ?_
        refine lv_imul hx hb d_M_lay_18 ?_
        refine lv_iload_n hx hb d_M_lay_19 rfl (lv_at hl 3 rfl) ?_
        refine lv_imul hx hb d_M_lay_20 ?_
        refine lv_iload_n hx hb d_M_lay_21 rfl (lv_at hl 1 rfl) ?_
        refine lv_icmp_gt (tgt := 27) hx hb d_M_lay_22 (by decide) (fun hc => ?_) (fun hc => ?_)
        · replace hw := hw.1 hc
          exact J27 (fun x1 x2 x3 m_points mx my => wq_M_lay_9 Q n9 x1 x2 x3 m_points mx my) ih H locs ls x1 x2 x3 m_points mx my hP hD hS (lv_sub hl [0, 1, 2, 3] rfl) hw
        · replace hw := hw.2 hc
          refine lv_iload_n hx hb d_M_lay_25 rfl (lv_at hl 3 rfl) ?_
          refine lv_istore_n (lv' := [(2, .int x3), (0, .ref (a 10)), (1, .int x1), (3, .int x3)]) hx hb d_M_lay_26 rfl hl (Nat.le_of_ble_eq_true rfl) rfl (fun ls hl => ?_)
          exact J27 (fun x1 x2 x3 m_points mx my => wq_M_lay_9 Q n9 x1 x2 x3 m_points mx my) ih H locs ls x1 x3 x3 m_points mx my hP hD hS (lv_sub hl [1, 2, 0, 3] rfl) hw
  unfold wp_M_lay at hw
  refine lv_aload_n hx hb d_M_lay_0 rfl (lv_at hl 0 rfl) ?_
  refine lv_iconst (v := (0 : Int32)) hx hb d_M_lay_1 (by decide) ?_
  refine u_M_points hx hb hts hown hK hP hD hS 0 rfl rfl d_M_lay_2 (fun H locs hP hD hS => ?_)
  have hP : va_P D cls ((o_M a m_length m_at m_lines m_x m_y m_mode m_feed m_state m_pulses m_last m_shown m_relative m_ending m_time m_pause m_kind m_made m_all m_fromX m_fromY m_wayX m_wayY (0 : Int32) m_centreX m_centreY m_there m_newMode m_newWay m_newFeed m_ends) :: e1 :: (o_mx a K mx) :: (o_my a K my) :: tl) H := hP
  have hD : va_D A ((o_M a m_length m_at m_lines m_x m_y m_mode m_feed m_state m_pulses m_last m_shown m_relative m_ending m_time m_pause m_kind m_made m_all m_fromX m_fromY m_wayX m_wayY (0 : Int32) m_centreX m_centreY m_there m_newMode m_newWay m_newFeed m_ends) :: e1 :: (o_mx a K mx) :: (o_my a K my) :: tl) := hD
  refine lv_iconst (v := (0 : Int32)) hx hb d_M_lay_5 (by decide) ?_
  refine lv_istore_n (lv' := [(2, .int (0 : Int32)), (0, .ref (a 10)), (1, .int x1)]) hx hb d_M_lay_6 rfl hl (Nat.le_of_ble_eq_true rfl) rfl (fun ls hl => ?_)
  refine lv_iconst (v := (0 : Int32)) hx hb d_M_lay_7 (by decide) ?_
  refine lv_istore_n (lv' := [(3, .int (0 : Int32)), (2, .int (0 : Int32)), (0, .ref (a 10)), (1, .int x1)]) hx hb d_M_lay_8 rfl hl (Nat.le_of_ble_eq_true rfl) rfl (fun ls hl => ?_)
  obtain ⟨n9, hw⟩ := hw
  exact J9 n9 H locs ls x1 (0 : Int32) (0 : Int32) (0 : Int32) mx my hP hD hS (lv_sub hl [2, 3, 1, 0] rfl) hw
def wp_M_half (x1 x2 x3 x4 m_kind : Int32) (Q : Int32 → Prop) : Prop := (((m_kind * ((x1 * x4) - (x2 * x3))) ≤ 0 → ((0 ≤ (m_kind * ((x1 * x4) - (x2 * x3))) → (Q (1 : Int32))) ∧ (¬ 0 ≤ (m_kind * ((x1 * x4) - (x2 * x3))) → (Q (2 : Int32))))) ∧ (¬ (m_kind * ((x1 * x4) - (x2 * x3))) ≤ 0 → (Q (0 : Int32))))
abbrev rm_M_half : Room := { frames := 0, cells := 0, slots := 0, locals := 0 }
set_option maxRecDepth 100000 in
set_option maxHeartbeats 4000000 in
theorem c_M_half (l : Launch) {D : va_G} {X : xT} {a : Nat → Nat} {K : Nat → ClassId} {tl : va_W} {x1 x2 x3 x4 m_length m_at m_lines m_x m_y m_mode m_feed m_state m_pulses m_last m_shown m_relative m_ending : Int32} {m_time m_pause : Int64} {m_kind m_made m_all m_fromX m_fromY m_wayX m_wayY m_points m_centreX m_centreY m_there m_newMode m_newWay m_newFeed m_ends : Int32} {Q : Int32 → Prop} : MI l y_M_half b_M_half 6 rm_M_half D cls (tys K) X [.ref (a 10), .int x1, .int x2, .int x3, .int x4] ((o_M a m_length m_at m_lines m_x m_y m_mode m_feed m_state m_pulses m_last m_shown m_relative m_ending m_time m_pause m_kind m_made m_all m_fromX m_fromY m_wayX m_wayY m_points m_centreX m_centreY m_there m_newMode m_newWay m_newFeed m_ends) :: tl) (fun _ : Unit => (o_M a m_length m_at m_lines m_x m_y m_mode m_feed m_state m_pulses m_last m_shown m_relative m_ending m_time m_pause m_kind m_made m_all m_fromX m_fromY m_wayX m_wayY m_points m_centreX m_centreY m_there m_newMode m_newWay m_newFeed m_ends) :: tl) (wp_M_half x1 x2 x3 x4 m_kind Q) (fun r _ => Q r) := by
  refine my_of_I (by decide +kernel) (Nat.le_of_ble_eq_true rfl) (fun p e s m args below meth c A QQ H locs ls hx hb hts hown hml hK hX hA hP hD hS hl hw hret => ?_)
  replace hl : lv_has ls 6 [(0, .ref (a 10)), (1, .int x1), (2, .int x2), (3, .int x3), (4, .int x4)] := hl
  unfold wp_M_half at hw
  refine lv_aload_n hx hb d_M_half_0 rfl (lv_at hl 0 rfl) ?_
  refine g_M_kind hx hb hts hown hK hP 0 rfl rfl d_M_half_1 ?_
  refine lv_iload_n hx hb d_M_half_4 rfl (lv_at hl 1 rfl) ?_
  refine lv_iload hx hb d_M_half_5 (lv_at hl 4 rfl) ?_
  refine lv_imul hx hb d_M_half_7 ?_
  refine lv_iload_n hx hb d_M_half_8 rfl (lv_at hl 2 rfl) ?_
  refine lv_iload_n hx hb d_M_half_9 rfl (lv_at hl 3 rfl) ?_
  refine lv_imul hx hb d_M_half_10 ?_
  refine lv_isub hx hb d_M_half_11 ?_
  refine lv_imul hx hb d_M_half_12 ?_
  refine lv_istore (lv' := [(5, .int (m_kind * ((x1 * x4) - (x2 * x3)))), (0, .ref (a 10)), (1, .int x1), (2, .int x2), (3, .int x3), (4, .int x4)]) hx hb d_M_half_13 hl (Nat.le_of_ble_eq_true rfl) rfl (fun ls hl => ?_)
  refine lv_iload hx hb d_M_half_15 (lv_at hl 0 rfl) ?_
  refine lv_if_le (tgt := 24) hx hb d_M_half_17 (by decide) (fun hc => ?_) (fun hc => ?_)
  · replace hw := hw.1 hc
    refine lv_iload hx hb d_M_half_24 (lv_at hl 0 rfl) ?_
    refine lv_if_ge (tgt := 33) hx hb d_M_half_26 (by decide) (fun hc => ?_) (fun hc => ?_)
    · replace hw := hw.1 hc
      refine lv_iconst (v := (1 : Int32)) hx hb d_M_half_33 (by decide) ?_
      exact hret H locs ls 34 ((1 : Int32)) (()) d_M_half_34 hP hD hS hw
    · replace hw := hw.2 hc
      refine lv_iconst (v := (2 : Int32)) hx hb d_M_half_29 (by decide) ?_
      refine lv_goto (tgt := 34) hx hb d_M_half_30 (by decide) ?_
      exact hret H locs ls 34 ((2 : Int32)) (()) d_M_half_34 hP hD hS hw
  · replace hw := hw.2 hc
    refine lv_iconst (v := (0 : Int32)) hx hb d_M_half_20 (by decide) ?_
    refine lv_goto (tgt := 34) hx hb d_M_half_21 (by decide) ?_
    exact hret H locs ls 34 ((0 : Int32)) (()) d_M_half_34 hP hD hS hw
def wp_M_before (x1 x2 x3 x4 x5 x6 m_kind : Int32) (Q : Int32 → Prop) : Prop := (wp_M_half x1 x2 x3 x4 m_kind (fun r6 => (wp_M_half x1 x2 x5 x6 m_kind (fun r18 => ((r6 = r18 → (((m_kind * ((x3 * x6) - (x4 * x5))) ≤ 0 → (Q (0 : Int32))) ∧ (¬ (m_kind * ((x3 * x6) - (x4 * x5))) ≤ 0 → (Q (1 : Int32))))) ∧ (¬ r6 = r18 → ((r18 ≤ r6 → (Q (0 : Int32))) ∧ (¬ r18 ≤ r6 → (Q (1 : Int32))))))))))
abbrev rm_M_before : Room := { frames := 1, cells := 0, slots := 0, locals := 25 }
set_option maxRecDepth 100000 in
set_option maxHeartbeats 4000000 in
theorem c_M_before (l : Launch) {D : va_G} {X : xT} {a : Nat → Nat} {K : Nat → ClassId} {tl : va_W} {x1 x2 x3 x4 x5 x6 m_length m_at m_lines m_x m_y m_mode m_feed m_state m_pulses m_last m_shown m_relative m_ending : Int32} {m_time m_pause : Int64} {m_kind m_made m_all m_fromX m_fromY m_wayX m_wayY m_points m_centreX m_centreY m_there m_newMode m_newWay m_newFeed m_ends : Int32} {Q : Int32 → Prop} : MZ l y_M_before b_M_before 9 rm_M_before D cls (tys K) X [.ref (a 10), .int x1, .int x2, .int x3, .int x4, .int x5, .int x6] ((o_M a m_length m_at m_lines m_x m_y m_mode m_feed m_state m_pulses m_last m_shown m_relative m_ending m_time m_pause m_kind m_made m_all m_fromX m_fromY m_wayX m_wayY m_points m_centreX m_centreY m_there m_newMode m_newWay m_newFeed m_ends) :: tl) (fun _ : Unit => (o_M a m_length m_at m_lines m_x m_y m_mode m_feed m_state m_pulses m_last m_shown m_relative m_ending m_time m_pause m_kind m_made m_all m_fromX m_fromY m_wayX m_wayY m_points m_centreX m_centreY m_there m_newMode m_newWay m_newFeed m_ends) :: tl) (wp_M_before x1 x2 x3 x4 x5 x6 m_kind Q) (fun r _ => Q r) := by
  refine my_of_Z (by decide +kernel) (Nat.le_of_ble_eq_true rfl) (fun p e s m args below meth c A QQ H locs ls hx hb hts hown hml hK hX hA hP hD hS hl hw hret => ?_)
  replace hl : lv_has ls 9 [(0, .ref (a 10)), (1, .int x1), (2, .int x2), (3, .int x3), (4, .int x4), (5, .int x5), (6, .int x6)] := hl
  unfold wp_M_before at hw
  refine lv_aload_n hx hb d_M_before_0 rfl (lv_at hl 0 rfl) ?_
  refine lv_iload_n hx hb d_M_before_1 rfl (lv_at hl 1 rfl) ?_
  refine lv_iload_n hx hb d_M_before_2 rfl (lv_at hl 2 rfl) ?_
  refine lv_iload_n hx hb d_M_before_3 rfl (lv_at hl 3 rfl) ?_
  refine lv_iload hx hb d_M_before_4 (lv_at hl 4 rfl) ?_
  refine my_calli (va_runV (As := [.int x1, .int x2, .int x3, .int x4]) (rest := []) ⟨hx, hb, hml, hown, hts⟩ (c_M_half l H.size) (cw_M_162 hts ⟨Nat.le_of_ble_eq_true rfl, Nat.le_of_ble_eq_true rfl⟩) (my_preV hK hP hX hD hS hA 0 rfl rfl hw) rfl rfl hl.1 rfl (lv_room (Nat.le_of_ble_eq_true rfl)) d_M_before_6 ⟨Nat.le_refl _, Nat.le_refl _⟩) hD hS hA (fun r6 _ H locs hw hP hD hS => ?_)
  have hP : va_P D cls ((o_M a m_length m_at m_lines m_x m_y m_mode m_feed m_state m_pulses m_last m_shown m_relative m_ending m_time m_pause m_kind m_made m_all m_fromX m_fromY m_wayX m_wayY m_points m_centreX m_centreY m_there m_newMode m_newWay m_newFeed m_ends) :: tl) H := hP
  have hD : va_D A ((o_M a m_length m_at m_lines m_x m_y m_mode m_feed m_state m_pulses m_last m_shown m_relative m_ending m_time m_pause m_kind m_made m_all m_fromX m_fromY m_wayX m_wayY m_points m_centreX m_centreY m_there m_newMode m_newWay m_newFeed m_ends) :: tl) := hD
  refine lv_istore (lv' := [(7, .int r6), (0, .ref (a 10)), (1, .int x1), (2, .int x2), (3, .int x3), (4, .int x4), (5, .int x5), (6, .int x6)]) hx hb d_M_before_9 hl (Nat.le_of_ble_eq_true rfl) rfl (fun ls hl => ?_)
  refine lv_aload_n hx hb d_M_before_11 rfl (lv_at hl 1 rfl) ?_
  refine lv_iload_n hx hb d_M_before_12 rfl (lv_at hl 2 rfl) ?_
  refine lv_iload_n hx hb d_M_before_13 rfl (lv_at hl 3 rfl) ?_
  refine lv_iload hx hb d_M_before_14 (lv_at hl 6 rfl) ?_
  refine lv_iload hx hb d_M_before_16 (lv_at hl 7 rfl) ?_
  refine my_calli (va_runV (As := [.int x1, .int x2, .int x5, .int x6]) (rest := []) ⟨hx, hb, hml, hown, hts⟩ (c_M_half l H.size) (cw_M_162 hts ⟨Nat.le_of_ble_eq_true rfl, Nat.le_of_ble_eq_true rfl⟩) (my_preV hK hP hX hD hS hA 0 rfl rfl hw) rfl rfl hl.1 rfl (lv_room (Nat.le_of_ble_eq_true rfl)) d_M_before_18 ⟨Nat.le_refl _, Nat.le_refl _⟩) hD hS hA (fun r18 _ H locs hw hP hD hS => ?_)
  have hP : va_P D cls ((o_M a m_length m_at m_lines m_x m_y m_mode m_feed m_state m_pulses m_last m_shown m_relative m_ending m_time m_pause m_kind m_made m_all m_fromX m_fromY m_wayX m_wayY m_points m_centreX m_centreY m_there m_newMode m_newWay m_newFeed m_ends) :: tl) H := hP
  have hD : va_D A ((o_M a m_length m_at m_lines m_x m_y m_mode m_feed m_state m_pulses m_last m_shown m_relative m_ending m_time m_pause m_kind m_made m_all m_fromX m_fromY m_wayX m_wayY m_points m_centreX m_centreY m_there m_newMode m_newWay m_newFeed m_ends) :: tl) := hD
  refine lv_istore (lv' := [(8, .int r18), (7, .int r6), (0, .ref (a 10)), (1, .int x1), (2, .int x2), (3, .int x3), (4, .int x4), (5, .int x5), (6, .int x6)]) hx hb d_M_before_21 hl (Nat.le_of_ble_eq_true rfl) rfl (fun ls hl => ?_)
  refine lv_iload hx hb d_M_before_23 (lv_at hl 1 rfl) ?_
  refine lv_iload hx hb d_M_before_25 (lv_at hl 0 rfl) ?_
  refine lv_icmp_eq (tgt := 43) hx hb d_M_before_27 (by decide) (fun hc => ?_) (fun hc => ?_)
  · replace hw := hw.1 hc
    refine lv_aload_n hx hb d_M_before_43 rfl (lv_at hl 2 rfl) ?_
    refine g_M_kind hx hb hts hown hK hP 0 rfl rfl d_M_before_44 ?_
    refine lv_iload_n hx hb d_M_before_47 rfl (lv_at hl 5 rfl) ?_
    refine lv_iload hx hb d_M_before_48 (lv_at hl 8 rfl) ?_
    refine lv_imul hx hb d_M_before_50 ?_
    refine lv_iload hx hb d_M_before_51 (lv_at hl 6 rfl) ?_
    refine lv_iload hx hb d_M_before_53 (lv_at hl 7 rfl) ?_
    refine lv_imul hx hb d_M_before_55 ?_
    refine lv_isub hx hb d_M_before_56 ?_
    refine lv_imul hx hb d_M_before_57 ?_
    refine lv_if_le (tgt := 65) hx hb d_M_before_58 (by decide) (fun hc => ?_) (fun hc => ?_)
    · replace hw := hw.1 hc
      refine lv_iconst (v := (0 : Int32)) hx hb d_M_before_65 (by decide) ?_
      exact hret H locs ls 66 ((0 : Int32)) (()) d_M_before_66 (Or.inl rfl) hP hD hS hw
    · replace hw := hw.2 hc
      refine lv_iconst (v := (1 : Int32)) hx hb d_M_before_61 (by decide) ?_
      refine lv_goto (tgt := 66) hx hb d_M_before_62 (by decide) ?_
      exact hret H locs ls 66 ((1 : Int32)) (()) d_M_before_66 (Or.inr rfl) hP hD hS hw
  · replace hw := hw.2 hc
    refine lv_iload hx hb d_M_before_30 (lv_at hl 1 rfl) ?_
    refine lv_iload hx hb d_M_before_32 (lv_at hl 0 rfl) ?_
    refine lv_icmp_ge (tgt := 41) hx hb d_M_before_34 (by decide) (fun hc => ?_) (fun hc => ?_)
    · replace hw := hw.1 hc
      refine lv_iconst (v := (0 : Int32)) hx hb d_M_before_41 (by decide) ?_
      exact hret H locs ls 42 ((0 : Int32)) (()) d_M_before_42 (Or.inl rfl) hP hD hS hw
    · replace hw := hw.2 hc
      refine lv_iconst (v := (1 : Int32)) hx hb d_M_before_37 (by decide) ?_
      refine lv_goto (tgt := 42) hx hb d_M_before_38 (by decide) ?_
      exact hret H locs ls 42 ((1 : Int32)) (()) d_M_before_42 (Or.inr rfl) hP hD hS hw
def wq_M_arc_271 (Q : Int32 → Int32 → Int32 → Int32 → Int32 → Int32 → Int32 → (Nat → Int32) → (Nat → Int32) → Prop) (K173 : Int32 → Int32 → Int32 → Int32 → Int32 → Int32 → Int32 → Int32 → Int32 → Int32 → Int32 → (Nat → Int32) → (Nat → Int32) → Prop) (x1 x2 x6 x7 x8 m_kind m_made m_all m_points m_centreX m_centreY : Int32) (mx my : Nat → Int32) : Prop := (K173 x1 x2 x6 x7 (x8 + (1 : Int32)) m_kind m_made m_all m_points m_centreX m_centreY mx my)
def wq_M_arc_261 (Q : Int32 → Int32 → Int32 → Int32 → Int32 → Int32 → Int32 → (Nat → Int32) → (Nat → Int32) → Prop) (K173 : Int32 → Int32 → Int32 → Int32 → Int32 → Int32 → Int32 → Int32 → Int32 → Int32 → Int32 → (Nat → Int32) → (Nat → Int32) → Prop) (x1 x2 x6 x7 x8 m_kind m_made m_all m_points m_centreX m_centreY : Int32) (mx my : Nat → Int32) : Prop := (wq_M_arc_271 Q K173 x1 x2 x6 x7 x8 m_kind m_made (m_all + (1 : Int32)) m_points m_centreX m_centreY mx my)
def wq_M_arc_232 (Q : Int32 → Int32 → Int32 → Int32 → Int32 → Int32 → Int32 → (Nat → Int32) → (Nat → Int32) → Prop) (K173 : Int32 → Int32 → Int32 → Int32 → Int32 → Int32 → Int32 → Int32 → Int32 → Int32 → Int32 → (Nat → Int32) → (Nat → Int32) → Prop) (x1 x2 x6 x7 x8 m_kind m_made m_all m_points m_centreX m_centreY : Int32) (mx my : Nat → Int32) : Prop := (vp_in x8 2400 ∧ (vp_in x8 2400 ∧ (wp_M_before (-x1) (-x2) x6 x7 (mx x8.toNatClampNeg) (my x8.toNatClampNeg) m_kind (fun r255 => ((¬ r255 = 0 → (wq_M_arc_271 Q K173 x1 x2 x6 x7 x8 m_kind m_made m_all m_points m_centreX m_centreY mx my)) ∧ (r255 = 0 → (wq_M_arc_261 Q K173 x1 x2 x6 x7 x8 m_kind m_made m_all m_points m_centreX m_centreY mx my)))))))
def wq_M_arc_201 (Q : Int32 → Int32 → Int32 → Int32 → Int32 → Int32 → Int32 → (Nat → Int32) → (Nat → Int32) → Prop) (K173 : Int32 → Int32 → Int32 → Int32 → Int32 → Int32 → Int32 → Int32 → Int32 → Int32 → Int32 → (Nat → Int32) → (Nat → Int32) → Prop) (x1 x2 x6 x7 x8 s0 m_kind m_made m_all m_points m_centreX m_centreY : Int32) (mx my : Nat → Int32) : Prop := ((¬ s0 = 0 → (wq_M_arc_261 Q K173 x1 x2 x6 x7 x8 m_kind m_made m_all m_points m_centreX m_centreY mx my)) ∧ (s0 = 0 → (vp_in x8 2400 ∧ ((¬ (mx x8.toNatClampNeg) = (-x1) → (wq_M_arc_232 Q K173 x1 x2 x6 x7 x8 m_kind m_made m_all m_points m_centreX m_centreY mx my)) ∧ ((mx x8.toNatClampNeg) = (-x1) → (vp_in x8 2400 ∧ (((my x8.toNatClampNeg) = (-x2) → (wq_M_arc_271 Q K173 x1 x2 x6 x7 x8 m_kind m_made m_all m_points m_centreX m_centreY mx my)) ∧ (¬ (my x8.toNatClampNeg) = (-x2) → (wq_M_arc_232 Q K173 x1 x2 x6 x7 x8 m_kind m_made m_all m_points m_centreX m_centreY mx my)))))))))
def wq_M_arc_200 (Q : Int32 → Int32 → Int32 → Int32 → Int32 → Int32 → Int32 → (Nat → Int32) → (Nat → Int32) → Prop) (K173 : Int32 → Int32 → Int32 → Int32 → Int32 → Int32 → Int32 → Int32 → Int32 → Int32 → Int32 → (Nat → Int32) → (Nat → Int32) → Prop) (x1 x2 x6 x7 x8 m_kind m_made m_all m_points m_centreX m_centreY : Int32) (mx my : Nat → Int32) : Prop := (wq_M_arc_201 Q K173 x1 x2 x6 x7 x8 (0 : Int32) m_kind m_made m_all m_points m_centreX m_centreY mx my)
def wq_M_arc_173 (Q : Int32 → Int32 → Int32 → Int32 → Int32 → Int32 → Int32 → (Nat → Int32) → (Nat → Int32) → Prop)  : Nat → Int32 → Int32 → Int32 → Int32 → Int32 → Int32 → Int32 → Int32 → Int32 → Int32 → Int32 → (Nat → Int32) → (Nat → Int32) → Prop
  | 0, _, _, _, _, _, _, _, _, _, _, _, _, _ => False
  | n173 + 1, x1, x2, x6, x7, x8, m_kind, m_made, m_all, m_points, m_centreX, m_centreY, mx, my => ((m_points ≤ x8 → (Q (0 : Int32) m_kind m_made m_all m_points m_centreX m_centreY mx my)) ∧ (¬ m_points ≤ x8 → ((¬ x6 = (-x1) → (wq_M_arc_200 Q (fun x1 x2 x6 x7 x8 m_kind m_made m_all m_points m_centreX m_centreY mx my => wq_M_arc_173 Q n173 x1 x2 x6 x7 x8 m_kind m_made m_all m_points m_centreX m_centreY mx my) x1 x2 x6 x7 x8 m_kind m_made m_all m_points m_centreX m_centreY mx my)) ∧ (x6 = (-x1) → ((¬ x7 = (-x2) → (wq_M_arc_200 Q (fun x1 x2 x6 x7 x8 m_kind m_made m_all m_points m_centreX m_centreY mx my => wq_M_arc_173 Q n173 x1 x2 x6 x7 x8 m_kind m_made m_all m_points m_centreX m_centreY mx my) x1 x2 x6 x7 x8 m_kind m_made m_all m_points m_centreX m_centreY mx my)) ∧ (x7 = (-x2) → (wq_M_arc_201 Q (fun x1 x2 x6 x7 x8 m_kind m_made m_all m_points m_centreX m_centreY mx my => wq_M_arc_173 Q n173 x1 x2 x6 x7 x8 m_kind m_made m_all m_points m_centreX m_centreY mx my) x1 x2 x6 x7 x8 (1 : Int32) m_kind m_made m_all m_points m_centreX m_centreY mx my)))))))
def wq_M_arc_157 (Q : Int32 → Int32 → Int32 → Int32 → Int32 → Int32 → Int32 → (Nat → Int32) → (Nat → Int32) → Prop) (x1 x2 x6 x7 s1 m_kind m_made m_all m_points m_centreX m_centreY : Int32) (mx my : Nat → Int32) : Prop := (∃ n173 : Nat, wq_M_arc_173 Q n173 x1 x2 x6 x7 (0 : Int32) s1 (0 : Int32) (0 : Int32) m_points m_centreX m_centreY mx my)
def wq_M_arc_89 (Q : Int32 → Int32 → Int32 → Int32 → Int32 → Int32 → Int32 → (Nat → Int32) → (Nat → Int32) → Prop) (m_mode : Int32) : Nat → Int32 → Int32 → Int32 → Int32 → Int32 → Int32 → Int32 → Int32 → Int32 → Int32 → Int32 → (Nat → Int32) → (Nat → Int32) → Prop
  | 0, _, _, _, _, _, _, _, _, _, _, _, _, _ => False
  | n89 + 1, x1, x2, x6, x7, x8, m_kind, m_made, m_all, m_points, m_centreX, m_centreY, mx, my => ((m_points ≤ x8 → ((¬ m_mode = (2 : Int32) → (wq_M_arc_157 Q x1 x2 x6 x7 (1 : Int32) m_kind m_made m_all m_points m_centreX m_centreY mx my)) ∧ (m_mode = (2 : Int32) → (wq_M_arc_157 Q x1 x2 x6 x7 (-1 : Int32) m_kind m_made m_all m_points m_centreX m_centreY mx my)))) ∧ (¬ m_points ≤ x8 → (vp_in x8 2400 ∧ (wp_M_inLimits (m_centreX + (mx x8.toNatClampNeg)) (fun r110 => ((r110 = 0 → (Q (107 : Int32) m_kind m_made m_all m_points m_centreX m_centreY mx my)) ∧ (¬ r110 = 0 → (vp_in x8 2400 ∧ (wp_M_inLimits (m_centreY + (my x8.toNatClampNeg)) (fun r128 => ((¬ r128 = 0 → (wq_M_arc_89 Q m_mode n89 x1 x2 x6 x7 (x8 + (1 : Int32)) m_kind m_made m_all m_points m_centreX m_centreY mx my)) ∧ (r128 = 0 → (Q (107 : Int32) m_kind m_made m_all m_points m_centreX m_centreY mx my)))))))))))))
def wp_M_arc (x1 x2 x3 x4 m_x m_y m_mode m_kind m_made m_all m_points m_centreX m_centreY : Int32) (mx my : Nat → Int32) (Q : Int32 → Int32 → Int32 → Int32 → Int32 → Int32 → Int32 → (Nat → Int32) → (Nat → Int32) → Prop) : Prop := ((((x1 * x1) + (x2 * x2)) = 0 → (Q (106 : Int32) m_kind m_made m_all m_points (m_x + x1) (m_y + x2) mx my)) ∧ (¬ ((x1 * x1) + (x2 * x2)) = 0 → (((((x3 - (m_x + x1)) * (x3 - (m_x + x1))) + ((x4 - (m_y + x2)) * (x4 - (m_y + x2)))) = ((x1 * x1) + (x2 * x2)) → ((((x1 * x1) + (x2 * x2)) ≤ (160801 : Int32) → (wp_M_lay ((x1 * x1) + (x2 * x2)) m_points mx my (fun m_points_83 mx_83 my_83 => (∃ n89 : Nat, wq_M_arc_89 Q m_mode n89 x1 x2 (x3 - (m_x + x1)) (x4 - (m_y + x2)) (0 : Int32) m_kind m_made m_all m_points_83 (m_x + x1) (m_y + x2) mx_83 my_83)))) ∧ (¬ ((x1 * x1) + (x2 * x2)) ≤ (160801 : Int32) → (Q (107 : Int32) m_kind m_made m_all m_points (m_x + x1) (m_y + x2) mx my)))) ∧ (¬ (((x3 - (m_x + x1)) * (x3 - (m_x + x1))) + ((x4 - (m_y + x2)) * (x4 - (m_y + x2)))) = ((x1 * x1) + (x2 * x2)) → (Q (106 : Int32) m_kind m_made m_all m_points (m_x + x1) (m_y + x2) mx my)))))
abbrev rm_M_arc : Room := { frames := 2, cells := 0, slots := 0, locals := 53 }
set_option maxRecDepth 100000 in
set_option maxHeartbeats 4000000 in
theorem c_M_arc (l : Launch) {D : va_G} {X : xT} {a : Nat → Nat} {K : Nat → ClassId} {tl : va_W} {e1 : Nat × va_E} {x1 x2 x3 x4 m_length m_at m_lines m_x m_y m_mode m_feed m_state m_pulses m_last m_shown m_relative m_ending : Int32} {m_time m_pause : Int64} {m_kind m_made m_all m_fromX m_fromY m_wayX m_wayY m_points m_centreX m_centreY m_there m_newMode m_newWay m_newFeed m_ends : Int32} {mx my : Nat → Int32} {Q : Int32 → Int32 → Int32 → Int32 → Int32 → Int32 → Int32 → (Nat → Int32) → (Nat → Int32) → Prop} : MI l y_M_arc b_M_arc 10 rm_M_arc D cls (tys K) X [.ref (a 10), .int x1, .int x2, .int x3, .int x4] ((o_M a m_length m_at m_lines m_x m_y m_mode m_feed m_state m_pulses m_last m_shown m_relative m_ending m_time m_pause m_kind m_made m_all m_fromX m_fromY m_wayX m_wayY m_points m_centreX m_centreY m_there m_newMode m_newWay m_newFeed m_ends) :: e1 :: (o_mx a K mx) :: (o_my a K my) :: tl) (fun u : Int32 × Int32 × Int32 × Int32 × Int32 × Int32 × (Nat → Int32) × (Nat → Int32) => (o_M a m_length m_at m_lines m_x m_y m_mode m_feed m_state m_pulses m_last m_shown m_relative m_ending m_time m_pause u.1 u.2.1 u.2.2.1 m_fromX m_fromY m_wayX m_wayY u.2.2.2.1 u.2.2.2.2.1 u.2.2.2.2.2.1 m_there m_newMode m_newWay m_newFeed m_ends) :: e1 :: (o_mx a K u.2.2.2.2.2.2.1) :: (o_my a K u.2.2.2.2.2.2.2) :: tl) (wp_M_arc x1 x2 x3 x4 m_x m_y m_mode m_kind m_made m_all m_points m_centreX m_centreY mx my Q) (fun r u => Q r u.1 u.2.1 u.2.2.1 u.2.2.2.1 u.2.2.2.2.1 u.2.2.2.2.2.1 u.2.2.2.2.2.2.1 u.2.2.2.2.2.2.2) := by
  refine my_of_I (by decide +kernel) (Nat.le_of_ble_eq_true rfl) (fun p e s m args below meth c A QQ H locs ls hx hb hts hown hml hK hX hA hP hD hS hl hw hret => ?_)
  replace hl : lv_has ls 10 [(0, .ref (a 10)), (1, .int x1), (2, .int x2), (3, .int x3), (4, .int x4)] := hl
  have J271 : ∀ (K173 : Int32 → Int32 → Int32 → Int32 → Int32 → Int32 → Int32 → Int32 → Int32 → Int32 → Int32 → (Nat → Int32) → (Nat → Int32) → Prop) (hK173 : ∀ (H : Heap) (locs : List Loc) (ls : Array Slot) (x1 x2 x6 x7 x8 m_kind m_made m_all m_points m_centreX m_centreY : Int32) (mx my : Nat → Int32), va_P D cls ((o_M a m_length m_at m_lines m_x m_y m_mode m_feed m_state m_pulses m_last m_shown m_relative m_ending m_time m_pause m_kind m_made m_all m_fromX m_fromY m_wayX m_wayY m_points m_centreX m_centreY m_there m_newMode m_newWay m_newFeed m_ends) :: e1 :: (o_mx a K mx) :: (o_my a K my) :: tl) H → va_D A ((o_M a m_length m_at m_lines m_x m_y m_mode m_feed m_state m_pulses m_last m_shown m_relative m_ending m_time m_pause m_kind m_made m_all m_fromX m_fromY m_wayX m_wayY m_points m_centreX m_centreY m_there m_newMode m_newWay m_newFeed m_ends) :: e1 :: (o_mx a K mx) :: (o_my a K my) :: tl) → va_S A s.heap H locs → lv_has ls 10 [(0, .ref (a 10)), (1, .int x1), (2, .int x2), (6, .int x6), (7, .int x7), (8, .int x8)] → K173 x1 x2 x6 x7 x8 m_kind m_made m_all m_points m_centreX m_centreY mx my → W p l e rm_M_arc s m args below meth c H locs 0 0 QQ (F0 m 173 ls [])) (H : Heap) (locs : List Loc) (ls : Array Slot) (x1 x2 x6 x7 x8 m_kind m_made m_all m_points m_centreX m_centreY : Int32) (mx my : Nat → Int32), va_P D cls ((o_M a m_length m_at m_lines m_x m_y m_mode m_feed m_state m_pulses m_last m_shown m_relative m_ending m_time m_pause m_kind m_made m_all m_fromX m_fromY m_wayX m_wayY m_points m_centreX m_centreY m_there m_newMode m_newWay m_newFeed m_ends) :: e1 :: (o_mx a K mx) :: (o_my a K my) :: tl) H → va_D A ((o_M a m_length m_at m_lines m_x m_y m_mode m_feed m_state m_pulses m_last m_shown m_relative m_ending m_time m_pause m_kind m_made m_all m_fromX m_fromY m_wayX m_wayY m_points m_centreX m_centreY m_there m_newMode m_newWay m_newFeed m_ends) :: e1 :: (o_mx a K mx) :: (o_my a K my) :: tl) → va_S A s.heap H locs → lv_has ls 10 [(0, .ref (a 10)), (1, .int x1), (2, .int x2), (6, .int x6), (7, .int x7), (8, .int x8)] → wq_M_arc_271 Q K173 x1 x2 x6 x7 x8 m_kind m_made m_all m_points m_centreX m_centreY mx my → W p l e rm_M_arc s m args below meth c H locs 0 0 QQ (F0 m 271 ls []) := by
    intro K173 hK173 H locs ls x1 x2 x6 x7 x8 m_kind m_made m_all m_points m_centreX m_centreY mx my hP hD hS hl hw
    unfold wq_M_arc_271 at hw
    refine lv_iinc (k := 5) (v := x8 + (1 : Int32)) (lv' := [(8, .int (x8 + (1 : Int32))), (0, .ref (a 10)), (1, .int x1), (2, .int x2), (6, .int x6), (7, .int x7)]) hx hb d_M_arc_271 hl rfl (iinc_1 _) (Nat.le_of_ble_eq_true rfl) rfl (fun ls hl => ?_)
    refine lv_goto (tgt := 173) hx hb d_M_arc_274 (by decide) ?_
    exact hK173 H locs ls x1 x2 x6 x7 (x8 + (1 : Int32)) m_kind m_made m_all m_points m_centreX m_centreY mx my hP hD hS (lv_sub hl [1, 2, 3, 4, 5, 0] rfl) hw
  have J261 : ∀ (K173 : Int32 → Int32 → Int32 → Int32 → Int32 → Int32 → Int32 → Int32 → Int32 → Int32 → Int32 → (Nat → Int32) → (Nat → Int32) → Prop) (hK173 : ∀ (H : Heap) (locs : List Loc) (ls : Array Slot) (x1 x2 x6 x7 x8 m_kind m_made m_all m_points m_centreX m_centreY : Int32) (mx my : Nat → Int32), va_P D cls ((o_M a m_length m_at m_lines m_x m_y m_mode m_feed m_state m_pulses m_last m_shown m_relative m_ending m_time m_pause m_kind m_made m_all m_fromX m_fromY m_wayX m_wayY m_points m_centreX m_centreY m_there m_newMode m_newWay m_newFeed m_ends) :: e1 :: (o_mx a K mx) :: (o_my a K my) :: tl) H → va_D A ((o_M a m_length m_at m_lines m_x m_y m_mode m_feed m_state m_pulses m_last m_shown m_relative m_ending m_time m_pause m_kind m_made m_all m_fromX m_fromY m_wayX m_wayY m_points m_centreX m_centreY m_there m_newMode m_newWay m_newFeed m_ends) :: e1 :: (o_mx a K mx) :: (o_my a K my) :: tl) → va_S A s.heap H locs → lv_has ls 10 [(0, .ref (a 10)), (1, .int x1), (2, .int x2), (6, .int x6), (7, .int x7), (8, .int x8)] → K173 x1 x2 x6 x7 x8 m_kind m_made m_all m_points m_centreX m_centreY mx my → W p l e rm_M_arc s m args below meth c H locs 0 0 QQ (F0 m 173 ls [])) (H : Heap) (locs : List Loc) (ls : Array Slot) (x1 x2 x6 x7 x8 m_kind m_made m_all m_points m_centreX m_centreY : Int32) (mx my : Nat → Int32), va_P D cls ((o_M a m_length m_at m_lines m_x m_y m_mode m_feed m_state m_pulses m_last m_shown m_relative m_ending m_time m_pause m_kind m_made m_all m_fromX m_fromY m_wayX m_wayY m_points m_centreX m_centreY m_there m_newMode m_newWay m_newFeed m_ends) :: e1 :: (o_mx a K mx) :: (o_my a K my) :: tl) H → va_D A ((o_M a m_length m_at m_lines m_x m_y m_mode m_feed m_state m_pulses m_last m_shown m_relative m_ending m_time m_pause m_kind m_made m_all m_fromX m_fromY m_wayX m_wayY m_points m_centreX m_centreY m_there m_newMode m_newWay m_newFeed m_ends) :: e1 :: (o_mx a K mx) :: (o_my a K my) :: tl) → va_S A s.heap H locs → lv_has ls 10 [(0, .ref (a 10)), (1, .int x1), (2, .int x2), (6, .int x6), (7, .int x7), (8, .int x8)] → wq_M_arc_261 Q K173 x1 x2 x6 x7 x8 m_kind m_made m_all m_points m_centreX m_centreY mx my → W p l e rm_M_arc s m args below meth c H locs 0 0 QQ (F0 m 261 ls []) := by
    intro K173 hK173 H locs ls x1 x2 x6 x7 x8 m_kind m_made m_all m_points m_centreX m_centreY mx my hP hD hS hl hw
    unfold wq_M_arc_261 at hw
    refine lv_aload_n hx hb d_M_arc_261 rfl (lv_at hl 0 rfl) ?_
    refine lv_aload_n hx hb d_M_arc_262 rfl (lv_at hl 0 rfl) ?_
    refine g_M_all hx hb hts hown hK hP 0 rfl rfl d_M_arc_263 ?_
    refine lv_iconst (v := (1 : Int32)) hx hb d_M_arc_266 (by decide) ?_
    refine lv_iadd hx hb d_M_arc_267 ?_
    refine u_M_all hx hb hts hown hK hP hD hS 0 rfl rfl d_M_arc_268 (fun H locs hP hD hS => ?_)
    have hP : va_P D cls ((o_M a m_length m_at m_lines m_x m_y m_mode m_feed m_state m_pulses m_last m_shown m_relative m_ending m_time m_pause m_kind m_made (m_all + (1 : Int32)) m_fromX m_fromY m_wayX m_wayY m_points m_centreX m_centreY m_there m_newMode m_newWay m_newFeed m_ends) :: e1 :: (o_mx a K mx) :: (o_my a K my) :: tl) H := hP
    have hD : va_D A ((o_M a m_length m_at m_lines m_x m_y m_mode m_feed m_state m_pulses m_last m_shown m_relative m_ending m_time m_pause m_kind m_made (m_all + (1 : Int32)) m_fromX m_fromY m_wayX m_wayY m_points m_centreX m_centreY m_there m_newMode m_newWay m_newFeed m_ends) :: e1 :: (o_mx a K mx) :: (o_my a K my) :: tl) := hD
    exact J271 K173 hK173 H locs ls x1 x2 x6 x7 x8 m_kind m_made (m_all + (1 : Int32)) m_points m_centreX m_centreY mx my hP hD hS (lv_sub hl [0, 1, 2, 3, 4, 5] rfl) hw
  have J232 : ∀ (K173 : Int32 → Int32 → Int32 → Int32 → Int32 → Int32 → Int32 → Int32 → Int32 → Int32 → Int32 → (Nat → Int32) → (Nat → Int32) → Prop) (hK173 : ∀ (H : Heap) (locs : List Loc) (ls : Array Slot) (x1 x2 x6 x7 x8 m_kind m_made m_all m_points m_centreX m_centreY : Int32) (mx my : Nat → Int32), va_P D cls ((o_M a m_length m_at m_lines m_x m_y m_mode m_feed m_state m_pulses m_last m_shown m_relative m_ending m_time m_pause m_kind m_made m_all m_fromX m_fromY m_wayX m_wayY m_points m_centreX m_centreY m_there m_newMode m_newWay m_newFeed m_ends) :: e1 :: (o_mx a K mx) :: (o_my a K my) :: tl) H → va_D A ((o_M a m_length m_at m_lines m_x m_y m_mode m_feed m_state m_pulses m_last m_shown m_relative m_ending m_time m_pause m_kind m_made m_all m_fromX m_fromY m_wayX m_wayY m_points m_centreX m_centreY m_there m_newMode m_newWay m_newFeed m_ends) :: e1 :: (o_mx a K mx) :: (o_my a K my) :: tl) → va_S A s.heap H locs → lv_has ls 10 [(0, .ref (a 10)), (1, .int x1), (2, .int x2), (6, .int x6), (7, .int x7), (8, .int x8)] → K173 x1 x2 x6 x7 x8 m_kind m_made m_all m_points m_centreX m_centreY mx my → W p l e rm_M_arc s m args below meth c H locs 0 0 QQ (F0 m 173 ls [])) (H : Heap) (locs : List Loc) (ls : Array Slot) (x1 x2 x6 x7 x8 m_kind m_made m_all m_points m_centreX m_centreY : Int32) (mx my : Nat → Int32), va_P D cls ((o_M a m_length m_at m_lines m_x m_y m_mode m_feed m_state m_pulses m_last m_shown m_relative m_ending m_time m_pause m_kind m_made m_all m_fromX m_fromY m_wayX m_wayY m_points m_centreX m_centreY m_there m_newMode m_newWay m_newFeed m_ends) :: e1 :: (o_mx a K mx) :: (o_my a K my) :: tl) H → va_D A ((o_M a m_length m_at m_lines m_x m_y m_mode m_feed m_state m_pulses m_last m_shown m_relative m_ending m_time m_pause m_kind m_made m_all m_fromX m_fromY m_wayX m_wayY m_points m_centreX m_centreY m_there m_newMode m_newWay m_newFeed m_ends) :: e1 :: (o_mx a K mx) :: (o_my a K my) :: tl) → va_S A s.heap H locs → lv_has ls 10 [(0, .ref (a 10)), (1, .int x1), (2, .int x2), (6, .int x6), (7, .int x7), (8, .int x8)] → wq_M_arc_232 Q K173 x1 x2 x6 x7 x8 m_kind m_made m_all m_points m_centreX m_centreY mx my → W p l e rm_M_arc s m args below meth c H locs 0 0 QQ (F0 m 232 ls []) := by
    intro K173 hK173 H locs ls x1 x2 x6 x7 x8 m_kind m_made m_all m_points m_centreX m_centreY mx my hP hD hS hl hw
    unfold wq_M_arc_232 at hw
    refine lv_aload_n hx hb d_M_arc_232 rfl (lv_at hl 0 rfl) ?_
    refine lv_iload_n hx hb d_M_arc_233 rfl (lv_at hl 1 rfl) ?_
    refine lv_ineg hx hb d_M_arc_234 ?_
    refine lv_iload_n hx hb d_M_arc_235 rfl (lv_at hl 2 rfl) ?_
    refine lv_ineg hx hb d_M_arc_236 ?_
    refine lv_iload hx hb d_M_arc_237 (lv_at hl 3 rfl) ?_
    refine lv_iload hx hb d_M_arc_239 (lv_at hl 4 rfl) ?_
    refine lv_aload_n hx hb d_M_arc_241 rfl (lv_at hl 0 rfl) ?_
    refine g_M_px hx hb hts hown hK hP 0 rfl rfl d_M_arc_242 ?_
    refine lv_iload hx hb d_M_arc_245 (lv_at hl 5 rfl) ?_
    refine va_iald hx hb hK hP 2 6 rfl rfl hw.1 d_M_arc_247 ?_
    replace hw := hw.2
    refine lv_aload_n hx hb d_M_arc_248 rfl (lv_at hl 0 rfl) ?_
    refine g_M_py hx hb hts hown hK hP 0 rfl rfl d_M_arc_249 ?_
    refine lv_iload hx hb d_M_arc_252 (lv_at hl 5 rfl) ?_
    refine va_iald hx hb hK hP 3 7 rfl rfl hw.1 d_M_arc_254 ?_
    replace hw := hw.2
    refine my_calli (va_runV (As := [.int (-x1), .int (-x2), .int x6, .int x7, .int (mx x8.toNatClampNeg), .int (my x8.toNatClampNeg)]) (rest := []) ⟨hx, hb, hml, hown, hts⟩ (c_M_before l H.size) (cw_M_151 hts ⟨Nat.le_of_ble_eq_true rfl, Nat.le_of_ble_eq_true rfl⟩) (my_preV hK hP hX hD hS hA 0 rfl rfl hw) rfl rfl hl.1 rfl (lv_room (Nat.le_of_ble_eq_true rfl)) d_M_arc_255 ⟨Nat.le_refl _, Nat.le_refl _⟩) hD hS hA (fun r255 _ H locs hw hP hD hS => ?_)
    have hP : va_P D cls ((o_M a m_length m_at m_lines m_x m_y m_mode m_feed m_state m_pulses m_last m_shown m_relative m_ending m_time m_pause m_kind m_made m_all m_fromX m_fromY m_wayX m_wayY m_points m_centreX m_centreY m_there m_newMode m_newWay m_newFeed m_ends) :: e1 :: (o_mx a K mx) :: (o_my a K my) :: tl) H := hP
    have hD : va_D A ((o_M a m_length m_at m_lines m_x m_y m_mode m_feed m_state m_pulses m_last m_shown m_relative m_ending m_time m_pause m_kind m_made m_all m_fromX m_fromY m_wayX m_wayY m_points m_centreX m_centreY m_there m_newMode m_newWay m_newFeed m_ends) :: e1 :: (o_mx a K mx) :: (o_my a K my) :: tl) := hD
    refine lv_if_ne (tgt := 271) hx hb d_M_arc_258 (by decide) (fun hc => ?_) (fun hc => ?_)
    · replace hw := hw.1 hc
      exact J271 K173 hK173 H locs ls x1 x2 x6 x7 x8 m_kind m_made m_all m_points m_centreX m_centreY mx my hP hD hS (lv_sub hl [0, 1, 2, 3, 4, 5] rfl) hw
    · replace hw := hw.2 hc
      exact J261 K173 hK173 H locs ls x1 x2 x6 x7 x8 m_kind m_made m_all m_points m_centreX m_centreY mx my hP hD hS (lv_sub hl [0, 1, 2, 3, 4, 5] rfl) hw
  have J201 : ∀ (K173 : Int32 → Int32 → Int32 → Int32 → Int32 → Int32 → Int32 → Int32 → Int32 → Int32 → Int32 → (Nat → Int32) → (Nat → Int32) → Prop) (hK173 : ∀ (H : Heap) (locs : List Loc) (ls : Array Slot) (x1 x2 x6 x7 x8 m_kind m_made m_all m_points m_centreX m_centreY : Int32) (mx my : Nat → Int32), va_P D cls ((o_M a m_length m_at m_lines m_x m_y m_mode m_feed m_state m_pulses m_last m_shown m_relative m_ending m_time m_pause m_kind m_made m_all m_fromX m_fromY m_wayX m_wayY m_points m_centreX m_centreY m_there m_newMode m_newWay m_newFeed m_ends) :: e1 :: (o_mx a K mx) :: (o_my a K my) :: tl) H → va_D A ((o_M a m_length m_at m_lines m_x m_y m_mode m_feed m_state m_pulses m_last m_shown m_relative m_ending m_time m_pause m_kind m_made m_all m_fromX m_fromY m_wayX m_wayY m_points m_centreX m_centreY m_there m_newMode m_newWay m_newFeed m_ends) :: e1 :: (o_mx a K mx) :: (o_my a K my) :: tl) → va_S A s.heap H locs → lv_has ls 10 [(0, .ref (a 10)), (1, .int x1), (2, .int x2), (6, .int x6), (7, .int x7), (8, .int x8)] → K173 x1 x2 x6 x7 x8 m_kind m_made m_all m_points m_centreX m_centreY mx my → W p l e rm_M_arc s m args below meth c H locs 0 0 QQ (F0 m 173 ls [])) (H : Heap) (locs : List Loc) (ls : Array Slot) (x1 x2 x6 x7 x8 s0 m_kind m_made m_all m_points m_centreX m_centreY : Int32) (mx my : Nat → Int32), va_P D cls ((o_M a m_length m_at m_lines m_x m_y m_mode m_feed m_state m_pulses m_last m_shown m_relative m_ending m_time m_pause m_kind m_made m_all m_fromX m_fromY m_wayX m_wayY m_points m_centreX m_centreY m_there m_newMode m_newWay m_newFeed m_ends) :: e1 :: (o_mx a K mx) :: (o_my a K my) :: tl) H → va_D A ((o_M a m_length m_at m_lines m_x m_y m_mode m_feed m_state m_pulses m_last m_shown m_relative m_ending m_time m_pause m_kind m_made m_all m_fromX m_fromY m_wayX m_wayY m_points m_centreX m_centreY m_there m_newMode m_newWay m_newFeed m_ends) :: e1 :: (o_mx a K mx) :: (o_my a K my) :: tl) → va_S A s.heap H locs → lv_has ls 10 [(0, .ref (a 10)), (1, .int x1), (2, .int x2), (6, .int x6), (7, .int x7), (8, .int x8)] → wq_M_arc_201 Q K173 x1 x2 x6 x7 x8 s0 m_kind m_made m_all m_points m_centreX m_centreY mx my → W p l e rm_M_arc s m args below meth c H locs 0 0 QQ (F0 m 201 ls [.int s0]) := by
    intro K173 hK173 H locs ls x1 x2 x6 x7 x8 s0 m_kind m_made m_all m_points m_centreX m_centreY mx my hP hD hS hl hw
    unfold wq_M_arc_201 at hw
    refine lv_istore (lv' := [(9, .int s0), (0, .ref (a 10)), (1, .int x1), (2, .int x2), (6, .int x6), (7, .int x7), (8, .int x8)]) hx hb d_M_arc_201 hl (Nat.le_of_ble_eq_true rfl) rfl (fun ls hl => ?_)
    refine lv_iload hx hb d_M_arc_203 (lv_at hl 0 rfl) ?_
    refine lv_if_ne (tgt := 261) hx hb d_M_arc_205 (by decide) (fun hc => ?_) (fun hc => ?_)
    · replace hw := hw.1 hc
      exact J261 K173 hK173 H locs ls x1 x2 x6 x7 x8 m_kind m_made m_all m_points m_centreX m_centreY mx my hP hD hS (lv_sub hl [1, 2, 3, 4, 5, 6] rfl) hw
    · replace hw := hw.2 hc
      refine lv_aload_n hx hb d_M_arc_208 rfl (lv_at hl 1 rfl) ?_
      refine g_M_px hx hb hts hown hK hP 0 rfl rfl d_M_arc_209 ?_
      refine lv_iload hx hb d_M_arc_212 (lv_at hl 6 rfl) ?_
      refine va_iald hx hb hK hP 2 6 rfl rfl hw.1 d_M_arc_214 ?_
      replace hw := hw.2
      refine lv_iload_n hx hb d_M_arc_215 rfl (lv_at hl 2 rfl) ?_
      refine lv_ineg hx hb d_M_arc_216 ?_
      refine lv_icmp_ne (tgt := 232) hx hb d_M_arc_217 (by decide) (fun hc => ?_) (fun hc => ?_)
      · replace hw := hw.1 hc
        exact J232 K173 hK173 H locs ls x1 x2 x6 x7 x8 m_kind m_made m_all m_points m_centreX m_centreY mx my hP hD hS (lv_sub hl [1, 2, 3, 4, 5, 6] rfl) hw
      · replace hw := hw.2 hc
        refine lv_aload_n hx hb d_M_arc_220 rfl (lv_at hl 1 rfl) ?_
        refine g_M_py hx hb hts hown hK hP 0 rfl rfl d_M_arc_221 ?_
        refine lv_iload hx hb d_M_arc_224 (lv_at hl 6 rfl) ?_
        refine va_iald hx hb hK hP 3 7 rfl rfl hw.1 d_M_arc_226 ?_
        replace hw := hw.2
        refine lv_iload_n hx hb d_M_arc_227 rfl (lv_at hl 3 rfl) ?_
        refine lv_ineg hx hb d_M_arc_228 ?_
        refine lv_icmp_eq (tgt := 271) hx hb d_M_arc_229 (by decide) (fun hc => ?_) (fun hc => ?_)
        · replace hw := hw.1 hc
          exact J271 K173 hK173 H locs ls x1 x2 x6 x7 x8 m_kind m_made m_all m_points m_centreX m_centreY mx my hP hD hS (lv_sub hl [1, 2, 3, 4, 5, 6] rfl) hw
        · replace hw := hw.2 hc
          exact J232 K173 hK173 H locs ls x1 x2 x6 x7 x8 m_kind m_made m_all m_points m_centreX m_centreY mx my hP hD hS (lv_sub hl [1, 2, 3, 4, 5, 6] rfl) hw
  have J200 : ∀ (K173 : Int32 → Int32 → Int32 → Int32 → Int32 → Int32 → Int32 → Int32 → Int32 → Int32 → Int32 → (Nat → Int32) → (Nat → Int32) → Prop) (hK173 : ∀ (H : Heap) (locs : List Loc) (ls : Array Slot) (x1 x2 x6 x7 x8 m_kind m_made m_all m_points m_centreX m_centreY : Int32) (mx my : Nat → Int32), va_P D cls ((o_M a m_length m_at m_lines m_x m_y m_mode m_feed m_state m_pulses m_last m_shown m_relative m_ending m_time m_pause m_kind m_made m_all m_fromX m_fromY m_wayX m_wayY m_points m_centreX m_centreY m_there m_newMode m_newWay m_newFeed m_ends) :: e1 :: (o_mx a K mx) :: (o_my a K my) :: tl) H → va_D A ((o_M a m_length m_at m_lines m_x m_y m_mode m_feed m_state m_pulses m_last m_shown m_relative m_ending m_time m_pause m_kind m_made m_all m_fromX m_fromY m_wayX m_wayY m_points m_centreX m_centreY m_there m_newMode m_newWay m_newFeed m_ends) :: e1 :: (o_mx a K mx) :: (o_my a K my) :: tl) → va_S A s.heap H locs → lv_has ls 10 [(0, .ref (a 10)), (1, .int x1), (2, .int x2), (6, .int x6), (7, .int x7), (8, .int x8)] → K173 x1 x2 x6 x7 x8 m_kind m_made m_all m_points m_centreX m_centreY mx my → W p l e rm_M_arc s m args below meth c H locs 0 0 QQ (F0 m 173 ls [])) (H : Heap) (locs : List Loc) (ls : Array Slot) (x1 x2 x6 x7 x8 m_kind m_made m_all m_points m_centreX m_centreY : Int32) (mx my : Nat → Int32), va_P D cls ((o_M a m_length m_at m_lines m_x m_y m_mode m_feed m_state m_pulses m_last m_shown m_relative m_ending m_time m_pause m_kind m_made m_all m_fromX m_fromY m_wayX m_wayY m_points m_centreX m_centreY m_there m_newMode m_newWay m_newFeed m_ends) :: e1 :: (o_mx a K mx) :: (o_my a K my) :: tl) H → va_D A ((o_M a m_length m_at m_lines m_x m_y m_mode m_feed m_state m_pulses m_last m_shown m_relative m_ending m_time m_pause m_kind m_made m_all m_fromX m_fromY m_wayX m_wayY m_points m_centreX m_centreY m_there m_newMode m_newWay m_newFeed m_ends) :: e1 :: (o_mx a K mx) :: (o_my a K my) :: tl) → va_S A s.heap H locs → lv_has ls 10 [(0, .ref (a 10)), (1, .int x1), (2, .int x2), (6, .int x6), (7, .int x7), (8, .int x8)] → wq_M_arc_200 Q K173 x1 x2 x6 x7 x8 m_kind m_made m_all m_points m_centreX m_centreY mx my → W p l e rm_M_arc s m args below meth c H locs 0 0 QQ (F0 m 200 ls []) := by
    intro K173 hK173 H locs ls x1 x2 x6 x7 x8 m_kind m_made m_all m_points m_centreX m_centreY mx my hP hD hS hl hw
    unfold wq_M_arc_200 at hw
    refine lv_iconst (v := (0 : Int32)) hx hb d_M_arc_200 (by decide) ?_
    exact J201 K173 hK173 H locs ls x1 x2 x6 x7 x8 (0 : Int32) m_kind m_made m_all m_points m_centreX m_centreY mx my hP hD hS (lv_sub hl [0, 1, 2, 3, 4, 5] rfl) hw
  have J173 : ∀ (n173 : Nat) (H : Heap) (locs : List Loc) (ls : Array Slot) (x1 x2 x6 x7 x8 m_kind m_made m_all m_points m_centreX m_centreY : Int32) (mx my : Nat → Int32), va_P D cls ((o_M a m_length m_at m_lines m_x m_y m_mode m_feed m_state m_pulses m_last m_shown m_relative m_ending m_time m_pause m_kind m_made m_all m_fromX m_fromY m_wayX m_wayY m_points m_centreX m_centreY m_there m_newMode m_newWay m_newFeed m_ends) :: e1 :: (o_mx a K mx) :: (o_my a K my) :: tl) H → va_D A ((o_M a m_length m_at m_lines m_x m_y m_mode m_feed m_state m_pulses m_last m_shown m_relative m_ending m_time m_pause m_kind m_made m_all m_fromX m_fromY m_wayX m_wayY m_points m_centreX m_centreY m_there m_newMode m_newWay m_newFeed m_ends) :: e1 :: (o_mx a K mx) :: (o_my a K my) :: tl) → va_S A s.heap H locs → lv_has ls 10 [(0, .ref (a 10)), (1, .int x1), (2, .int x2), (6, .int x6), (7, .int x7), (8, .int x8)] → wq_M_arc_173 Q n173 x1 x2 x6 x7 x8 m_kind m_made m_all m_points m_centreX m_centreY mx my → W p l e rm_M_arc s m args below meth c H locs 0 0 QQ (F0 m 173 ls []) := by
    intro n173
    induction n173 with
    | zero => intro H locs ls x1 x2 x6 x7 x8 m_kind m_made m_all m_points m_centreX m_centreY mx my hP hD hS hl hw; exact False.elim hw
    | succ n173 ih =>
      intro H locs ls x1 x2 x6 x7 x8 m_kind m_made m_all m_points m_centreX m_centreY mx my hP hD hS hl hw
      unfold wq_M_arc_173 at hw
      refine lv_iload hx hb d_M_arc_173 (lv_at hl 5 rfl) ?_
      refine lv_aload_n hx hb d_M_arc_175 rfl (lv_at hl 0 rfl) ?_
      refine g_M_points hx hb hts hown hK hP 0 rfl rfl d_M_arc_176 ?_
      refine lv_icmp_ge (tgt := 277) hx hb d_M_arc_179 (by decide) (fun hc => ?_) (fun hc => ?_)
      · replace hw := hw.1 hc
        refine lv_iconst (v := (0 : Int32)) hx hb d_M_arc_277 (by decide) ?_
        exact hret H locs ls 278 ((0 : Int32)) ((m_kind, m_made, m_all, m_points, m_centreX, m_centreY, mx, my)) d_M_arc_278 hP hD hS hw
      · replace hw := hw.2 hc
        refine lv_iload hx hb d_M_arc_182 (lv_at hl 3 rfl) ?_
        refine lv_iload_n hx hb d_M_arc_184 rfl (lv_at hl 1 rfl) ?_
        refine lv_ineg hx hb d_M_arc_185 ?_
        refine lv_icmp_ne (tgt := 200) hx hb d_M_arc_186 (by decide) (fun hc => ?_) (fun hc => ?_)
        · replace hw := hw.1 hc
          exact J200 (fun x1 x2 x6 x7 x8 m_kind m_made m_all m_points m_centreX m_centreY mx my => wq_M_arc_173 Q n173 x1 x2 x6 x7 x8 m_kind m_made m_all m_points m_centreX m_centreY mx my) ih H locs ls x1 x2 x6 x7 x8 m_kind m_made m_all m_points m_centreX m_centreY mx my hP hD hS (lv_sub hl [0, 1, 2, 3, 4, 5] rfl) hw
        · replace hw := hw.2 hc
          refine lv_iload hx hb d_M_arc_189 (lv_at hl 4 rfl) ?_
          refine lv_iload_n hx hb d_M_arc_191 rfl (lv_at hl 2 rfl) ?_
          refine lv_ineg hx hb d_M_arc_192 ?_
          refine lv_icmp_ne (tgt := 200) hx hb d_M_arc_193 (by decide) (fun hc => ?_) (fun hc => ?_)
          · replace hw := hw.1 hc
            exact J200 (fun x1 x2 x6 x7 x8 m_kind m_made m_all m_points m_centreX m_centreY mx my => wq_M_arc_173 Q n173 x1 x2 x6 x7 x8 m_kind m_made m_all m_points m_centreX m_centreY mx my) ih H locs ls x1 x2 x6 x7 x8 m_kind m_made m_all m_points m_centreX m_centreY mx my hP hD hS (lv_sub hl [0, 1, 2, 3, 4, 5] rfl) hw
          · replace hw := hw.2 hc
            refine lv_iconst (v := (1 : Int32)) hx hb d_M_arc_196 (by decide) ?_
            refine lv_goto (tgt := 201) hx hb d_M_arc_197 (by decide) ?_
            exact J201 (fun x1 x2 x6 x7 x8 m_kind m_made m_all m_points m_centreX m_centreY mx my => wq_M_arc_173 Q n173 x1 x2 x6 x7 x8 m_kind m_made m_all m_points m_centreX m_centreY mx my) ih H locs ls x1 x2 x6 x7 x8 (1 : Int32) m_kind m_made m_all m_points m_centreX m_centreY mx my hP hD hS (lv_sub hl [0, 1, 2, 3, 4, 5] rfl) hw
  have J157 : ∀ (H : Heap) (locs : List Loc) (ls : Array Slot) (x1 x2 x6 x7 s1 m_kind m_made m_all m_points m_centreX m_centreY : Int32) (mx my : Nat → Int32), va_P D cls ((o_M a m_length m_at m_lines m_x m_y m_mode m_feed m_state m_pulses m_last m_shown m_relative m_ending m_time m_pause m_kind m_made m_all m_fromX m_fromY m_wayX m_wayY m_points m_centreX m_centreY m_there m_newMode m_newWay m_newFeed m_ends) :: e1 :: (o_mx a K mx) :: (o_my a K my) :: tl) H → va_D A ((o_M a m_length m_at m_lines m_x m_y m_mode m_feed m_state m_pulses m_last m_shown m_relative m_ending m_time m_pause m_kind m_made m_all m_fromX m_fromY m_wayX m_wayY m_points m_centreX m_centreY m_there m_newMode m_newWay m_newFeed m_ends) :: e1 :: (o_mx a K mx) :: (o_my a K my) :: tl) → va_S A s.heap H locs → lv_has ls 10 [(0, .ref (a 10)), (1, .int x1), (2, .int x2), (6, .int x6), (7, .int x7)] → wq_M_arc_157 Q x1 x2 x6 x7 s1 m_kind m_made m_all m_points m_centreX m_centreY mx my → W p l e rm_M_arc s m args below meth c H locs 0 0 QQ (F0 m 157 ls [.int s1, .ref (a 10)]) := by
    intro H locs ls x1 x2 x6 x7 s1 m_kind m_made m_all m_points m_centreX m_centreY mx my hP hD hS hl hw
    unfold wq_M_arc_157 at hw
    refine u_M_kind hx hb hts hown hK hP hD hS 0 rfl rfl d_M_arc_157 (fun H locs hP hD hS => ?_)
    have hP : va_P D cls ((o_M a m_length m_at m_lines m_x m_y m_mode m_feed m_state m_pulses m_last m_shown m_relative m_ending m_time m_pause s1 m_made m_all m_fromX m_fromY m_wayX m_wayY m_points m_centreX m_centreY m_there m_newMode m_newWay m_newFeed m_ends) :: e1 :: (o_mx a K mx) :: (o_my a K my) :: tl) H := hP
    have hD : va_D A ((o_M a m_length m_at m_lines m_x m_y m_mode m_feed m_state m_pulses m_last m_shown m_relative m_ending m_time m_pause s1 m_made m_all m_fromX m_fromY m_wayX m_wayY m_points m_centreX m_centreY m_there m_newMode m_newWay m_newFeed m_ends) :: e1 :: (o_mx a K mx) :: (o_my a K my) :: tl) := hD
    refine lv_aload_n hx hb d_M_arc_160 rfl (lv_at hl 0 rfl) ?_
    refine lv_iconst (v := (0 : Int32)) hx hb d_M_arc_161 (by decide) ?_
    refine u_M_made hx hb hts hown hK hP hD hS 0 rfl rfl d_M_arc_162 (fun H locs hP hD hS => ?_)
    have hP : va_P D cls ((o_M a m_length m_at m_lines m_x m_y m_mode m_feed m_state m_pulses m_last m_shown m_relative m_ending m_time m_pause s1 (0 : Int32) m_all m_fromX m_fromY m_wayX m_wayY m_points m_centreX m_centreY m_there m_newMode m_newWay m_newFeed m_ends) :: e1 :: (o_mx a K mx) :: (o_my a K my) :: tl) H := hP
    have hD : va_D A ((o_M a m_length m_at m_lines m_x m_y m_mode m_feed m_state m_pulses m_last m_shown m_relative m_ending m_time m_pause s1 (0 : Int32) m_all m_fromX m_fromY m_wayX m_wayY m_points m_centreX m_centreY m_there m_newMode m_newWay m_newFeed m_ends) :: e1 :: (o_mx a K mx) :: (o_my a K my) :: tl) := hD
    refine lv_aload_n hx hb d_M_arc_165 rfl (lv_at hl 0 rfl) ?_
    refine lv_iconst (v := (0 : Int32)) hx hb d_M_arc_166 (by decide) ?_
    refine u_M_all hx hb hts hown hK hP hD hS 0 rfl rfl d_M_arc_167 (fun H locs hP hD hS => ?_)
    have hP : va_P D cls ((o_M a m_length m_at m_lines m_x m_y m_mode m_feed m_state m_pulses m_last m_shown m_relative m_ending m_time m_pause s1 (0 : Int32) (0 : Int32) m_fromX m_fromY m_wayX m_wayY m_points m_centreX m_centreY m_there m_newMode m_newWay m_newFeed m_ends) :: e1 :: (o_mx a K mx) :: (o_my a K my) :: tl) H := hP
    have hD : va_D A ((o_M a m_length m_at m_lines m_x m_y m_mode m_feed m_state m_pulses m_last m_shown m_relative m_ending m_time m_pause s1 (0 : Int32) (0 : Int32) m_fromX m_fromY m_wayX m_wayY m_points m_centreX m_centreY m_there m_newMode m_newWay m_newFeed m_ends) :: e1 :: (o_mx a K mx) :: (o_my a K my) :: tl) := hD
    refine lv_iconst (v := (0 : Int32)) hx hb d_M_arc_170 (by decide) ?_
    refine lv_istore (lv' := [(8, .int (0 : Int32)), (0, .ref (a 10)), (1, .int x1), (2, .int x2), (6, .int x6), (7, .int x7)]) hx hb d_M_arc_171 hl (Nat.le_of_ble_eq_true rfl) rfl (fun ls hl => ?_)
    obtain ⟨n173, hw⟩ := hw
    exact J173 n173 H locs ls x1 x2 x6 x7 (0 : Int32) s1 (0 : Int32) (0 : Int32) m_points m_centreX m_centreY mx my hP hD hS (lv_sub hl [1, 2, 3, 4, 5, 0] rfl) hw
  have J89 : ∀ (n89 : Nat) (H : Heap) (locs : List Loc) (ls : Array Slot) (x1 x2 x6 x7 x8 m_kind m_made m_all m_points m_centreX m_centreY : Int32) (mx my : Nat → Int32), va_P D cls ((o_M a m_length m_at m_lines m_x m_y m_mode m_feed m_state m_pulses m_last m_shown m_relative m_ending m_time m_pause m_kind m_made m_all m_fromX m_fromY m_wayX m_wayY m_points m_centreX m_centreY m_there m_newMode m_newWay m_newFeed m_ends) :: e1 :: (o_mx a K mx) :: (o_my a K my) :: tl) H → va_D A ((o_M a m_length m_at m_lines m_x m_y m_mode m_feed m_state m_pulses m_last m_shown m_relative m_ending m_time m_pause m_kind m_made m_all m_fromX m_fromY m_wayX m_wayY m_points m_centreX m_centreY m_there m_newMode m_newWay m_newFeed m_ends) :: e1 :: (o_mx a K mx) :: (o_my a K my) :: tl) → va_S A s.heap H locs → lv_has ls 10 [(0, .ref (a 10)), (1, .int x1), (2, .int x2), (6, .int x6), (7, .int x7), (8, .int x8)] → wq_M_arc_89 Q m_mode n89 x1 x2 x6 x7 x8 m_kind m_made m_all m_points m_centreX m_centreY mx my → W p l e rm_M_arc s m args below meth c H locs 0 0 QQ (F0 m 89 ls []) := by
    intro n89
    induction n89 with
    | zero => intro H locs ls x1 x2 x6 x7 x8 m_kind m_made m_all m_points m_centreX m_centreY mx my hP hD hS hl hw; exact False.elim hw
    | succ n89 ih =>
      intro H locs ls x1 x2 x6 x7 x8 m_kind m_made m_all m_points m_centreX m_centreY mx my hP hD hS hl hw
      unfold wq_M_arc_89 at hw
      refine lv_iload hx hb d_M_arc_89 (lv_at hl 5 rfl) ?_
      refine lv_aload_n hx hb d_M_arc_91 rfl (lv_at hl 0 rfl) ?_
      refine g_M_points hx hb hts hown hK hP 0 rfl rfl d_M_arc_92 ?_
      refine lv_icmp_ge (tgt := 143) hx hb d_M_arc_95 (by decide) (fun hc => ?_) (fun hc => ?_)
      · replace hw := hw.1 hc
        refine lv_aload_n hx hb d_M_arc_143 rfl (lv_at hl 0 rfl) ?_
        refine lv_aload_n hx hb d_M_arc_144 rfl (lv_at hl 0 rfl) ?_
        refine g_M_mode hx hb hts hown hK hP 0 rfl rfl d_M_arc_145 ?_
        refine lv_iconst (v := (2 : Int32)) hx hb d_M_arc_148 (by decide) ?_
        refine lv_icmp_ne (tgt := 156) hx hb d_M_arc_149 (by decide) (fun hc => ?_) (fun hc => ?_)
        · replace hw := hw.1 hc
          refine lv_iconst (v := (1 : Int32)) hx hb d_M_arc_156 (by decide) ?_
          exact J157 H locs ls x1 x2 x6 x7 (1 : Int32) m_kind m_made m_all m_points m_centreX m_centreY mx my hP hD hS (lv_sub hl [0, 1, 2, 3, 4] rfl) hw
        · replace hw := hw.2 hc
          refine lv_iconst (v := (-1 : Int32)) hx hb d_M_arc_152 (by decide) ?_
          refine lv_goto (tgt := 157) hx hb d_M_arc_153 (by decide) ?_
          exact J157 H locs ls x1 x2 x6 x7 (-1 : Int32) m_kind m_made m_all m_points m_centreX m_centreY mx my hP hD hS (lv_sub hl [0, 1, 2, 3, 4] rfl) hw
      · replace hw := hw.2 hc
        refine lv_aload_n hx hb d_M_arc_98 rfl (lv_at hl 0 rfl) ?_
        refine g_M_centreX hx hb hts hown hK hP 0 rfl rfl d_M_arc_99 ?_
        refine lv_aload_n hx hb d_M_arc_102 rfl (lv_at hl 0 rfl) ?_
        refine g_M_px hx hb hts hown hK hP 0 rfl rfl d_M_arc_103 ?_
        refine lv_iload hx hb d_M_arc_106 (lv_at hl 5 rfl) ?_
        refine va_iald hx hb hK hP 2 6 rfl rfl hw.1 d_M_arc_108 ?_
        replace hw := hw.2
        refine lv_iadd hx hb d_M_arc_109 ?_
        refine my_calli (va_runS (As := [.int (m_centreX + (mx x8.toNatClampNeg))]) (rest := []) ⟨hx, hb, hml, hown, hts⟩ (c_M_inLimits l H.size) (cw_M_115 hts ⟨Nat.le_of_ble_eq_true rfl, Nat.le_of_ble_eq_true rfl⟩) (my_preS hK hP hX hD hS hA hw) rfl rfl hl.1 rfl (lv_room (Nat.le_of_ble_eq_true rfl)) d_M_arc_110 ⟨Nat.le_refl _, Nat.le_refl _⟩) hD hS hA (fun r110 _ H locs hw hP hD hS => ?_)
        have hP : va_P D cls ((o_M a m_length m_at m_lines m_x m_y m_mode m_feed m_state m_pulses m_last m_shown m_relative m_ending m_time m_pause m_kind m_made m_all m_fromX m_fromY m_wayX m_wayY m_points m_centreX m_centreY m_there m_newMode m_newWay m_newFeed m_ends) :: e1 :: (o_mx a K mx) :: (o_my a K my) :: tl) H := hP
        have hD : va_D A ((o_M a m_length m_at m_lines m_x m_y m_mode m_feed m_state m_pulses m_last m_shown m_relative m_ending m_time m_pause m_kind m_made m_all m_fromX m_fromY m_wayX m_wayY m_points m_centreX m_centreY m_there m_newMode m_newWay m_newFeed m_ends) :: e1 :: (o_mx a K mx) :: (o_my a K my) :: tl) := hD
        refine lv_if_eq (tgt := 134) hx hb d_M_arc_113 (by decide) (fun hc => ?_) (fun hc => ?_)
        · replace hw := hw.1 hc
          refine lv_bipush (v := (107 : Int32)) hx hb d_M_arc_134 (by decide) ?_
          exact hret H locs ls 136 ((107 : Int32)) ((m_kind, m_made, m_all, m_points, m_centreX, m_centreY, mx, my)) d_M_arc_136 hP hD hS hw
        · replace hw := hw.2 hc
          refine lv_aload_n hx hb d_M_arc_116 rfl (lv_at hl 0 rfl) ?_
          refine g_M_centreY hx hb hts hown hK hP 0 rfl rfl d_M_arc_117 ?_
          refine lv_aload_n hx hb d_M_arc_120 rfl (lv_at hl 0 rfl) ?_
          refine g_M_py hx hb hts hown hK hP 0 rfl rfl d_M_arc_121 ?_
          refine lv_iload hx hb d_M_arc_124 (lv_at hl 5 rfl) ?_
          refine va_iald hx hb hK hP 3 7 rfl rfl hw.1 d_M_arc_126 ?_
          replace hw := hw.2
          refine lv_iadd hx hb d_M_arc_127 ?_
          refine my_calli (va_runS (As := [.int (m_centreY + (my x8.toNatClampNeg))]) (rest := []) ⟨hx, hb, hml, hown, hts⟩ (c_M_inLimits l H.size) (cw_M_115 hts ⟨Nat.le_of_ble_eq_true rfl, Nat.le_of_ble_eq_true rfl⟩) (my_preS hK hP hX hD hS hA hw) rfl rfl hl.1 rfl (lv_room (Nat.le_of_ble_eq_true rfl)) d_M_arc_128 ⟨Nat.le_refl _, Nat.le_refl _⟩) hD hS hA (fun r128 _ H locs hw hP hD hS => ?_)
          have hP : va_P D cls ((o_M a m_length m_at m_lines m_x m_y m_mode m_feed m_state m_pulses m_last m_shown m_relative m_ending m_time m_pause m_kind m_made m_all m_fromX m_fromY m_wayX m_wayY m_points m_centreX m_centreY m_there m_newMode m_newWay m_newFeed m_ends) :: e1 :: (o_mx a K mx) :: (o_my a K my) :: tl) H := hP
          have hD : va_D A ((o_M a m_length m_at m_lines m_x m_y m_mode m_feed m_state m_pulses m_last m_shown m_relative m_ending m_time m_pause m_kind m_made m_all m_fromX m_fromY m_wayX m_wayY m_points m_centreX m_centreY m_there m_newMode m_newWay m_newFeed m_ends) :: e1 :: (o_mx a K mx) :: (o_my a K my) :: tl) := hD
          refine lv_if_ne (tgt := 137) hx hb d_M_arc_131 (by decide) (fun hc => ?_) (fun hc => ?_)
          · replace hw := hw.1 hc
            refine lv_iinc (k := 5) (v := x8 + (1 : Int32)) (lv' := [(8, .int (x8 + (1 : Int32))), (0, .ref (a 10)), (1, .int x1), (2, .int x2), (6, .int x6), (7, .int x7)]) hx hb d_M_arc_137 hl rfl (iinc_1 _) (Nat.le_of_ble_eq_true rfl) rfl (fun ls hl => ?_)
            refine lv_goto (tgt := 89) hx hb d_M_arc_140 (by decide) ?_
            exact ih H locs ls x1 x2 x6 x7 (x8 + (1 : Int32)) m_kind m_made m_all m_points m_centreX m_centreY mx my hP hD hS (lv_sub hl [1, 2, 3, 4, 5, 0] rfl) hw
          · replace hw := hw.2 hc
            refine lv_bipush (v := (107 : Int32)) hx hb d_M_arc_134 (by decide) ?_
            exact hret H locs ls 136 ((107 : Int32)) ((m_kind, m_made, m_all, m_points, m_centreX, m_centreY, mx, my)) d_M_arc_136 hP hD hS hw
  unfold wp_M_arc at hw
  refine lv_aload_n hx hb d_M_arc_0 rfl (lv_at hl 0 rfl) ?_
  refine lv_aload_n hx hb d_M_arc_1 rfl (lv_at hl 0 rfl) ?_
  refine g_M_x hx hb hts hown hK hP 0 rfl rfl d_M_arc_2 ?_
  refine lv_iload_n hx hb d_M_arc_5 rfl (lv_at hl 1 rfl) ?_
  refine lv_iadd hx hb d_M_arc_6 ?_
  refine u_M_centreX hx hb hts hown hK hP hD hS 0 rfl rfl d_M_arc_7 (fun H locs hP hD hS => ?_)
  have hP : va_P D cls ((o_M a m_length m_at m_lines m_x m_y m_mode m_feed m_state m_pulses m_last m_shown m_relative m_ending m_time m_pause m_kind m_made m_all m_fromX m_fromY m_wayX m_wayY m_points (m_x + x1) m_centreY m_there m_newMode m_newWay m_newFeed m_ends) :: e1 :: (o_mx a K mx) :: (o_my a K my) :: tl) H := hP
  have hD : va_D A ((o_M a m_length m_at m_lines m_x m_y m_mode m_feed m_state m_pulses m_last m_shown m_relative m_ending m_time m_pause m_kind m_made m_all m_fromX m_fromY m_wayX m_wayY m_points (m_x + x1) m_centreY m_there m_newMode m_newWay m_newFeed m_ends) :: e1 :: (o_mx a K mx) :: (o_my a K my) :: tl) := hD
  refine lv_aload_n hx hb d_M_arc_10 rfl (lv_at hl 0 rfl) ?_
  refine lv_aload_n hx hb d_M_arc_11 rfl (lv_at hl 0 rfl) ?_
  refine g_M_y hx hb hts hown hK hP 0 rfl rfl d_M_arc_12 ?_
  refine lv_iload_n hx hb d_M_arc_15 rfl (lv_at hl 2 rfl) ?_
  refine lv_iadd hx hb d_M_arc_16 ?_
  refine u_M_centreY hx hb hts hown hK hP hD hS 0 rfl rfl d_M_arc_17 (fun H locs hP hD hS => ?_)
  have hP : va_P D cls ((o_M a m_length m_at m_lines m_x m_y m_mode m_feed m_state m_pulses m_last m_shown m_relative m_ending m_time m_pause m_kind m_made m_all m_fromX m_fromY m_wayX m_wayY m_points (m_x + x1) (m_y + x2) m_there m_newMode m_newWay m_newFeed m_ends) :: e1 :: (o_mx a K mx) :: (o_my a K my) :: tl) H := hP
  have hD : va_D A ((o_M a m_length m_at m_lines m_x m_y m_mode m_feed m_state m_pulses m_last m_shown m_relative m_ending m_time m_pause m_kind m_made m_all m_fromX m_fromY m_wayX m_wayY m_points (m_x + x1) (m_y + x2) m_there m_newMode m_newWay m_newFeed m_ends) :: e1 :: (o_mx a K mx) :: (o_my a K my) :: tl) := hD
  refine lv_iload_n hx hb d_M_arc_20 rfl (lv_at hl 1 rfl) ?_
  refine lv_iload_n hx hb d_M_arc_21 rfl (lv_at hl 1 rfl) ?_
  refine lv_imul hx hb d_M_arc_22 ?_
  refine lv_iload_n hx hb d_M_arc_23 rfl (lv_at hl 2 rfl) ?_
  refine lv_iload_n hx hb d_M_arc_24 rfl (lv_at hl 2 rfl) ?_
  refine lv_imul hx hb d_M_arc_25 ?_
  refine lv_iadd hx hb d_M_arc_26 ?_
  refine lv_istore (lv' := [(5, .int ((x1 * x1) + (x2 * x2))), (0, .ref (a 10)), (1, .int x1), (2, .int x2), (3, .int x3), (4, .int x4)]) hx hb d_M_arc_27 hl (Nat.le_of_ble_eq_true rfl) rfl (fun ls hl => ?_)
  refine lv_iload_n hx hb d_M_arc_29 rfl (lv_at hl 4 rfl) ?_
  refine lv_aload_n hx hb d_M_arc_30 rfl (lv_at hl 1 rfl) ?_
  refine g_M_centreX hx hb hts hown hK hP 0 rfl rfl d_M_arc_31 ?_
  refine lv_isub hx hb d_M_arc_34 ?_
  refine lv_istore (lv' := [(6, .int (x3 - (m_x + x1))), (5, .int ((x1 * x1) + (x2 * x2))), (0, .ref (a 10)), (1, .int x1), (2, .int x2), (3, .int x3), (4, .int x4)]) hx hb d_M_arc_35 hl (Nat.le_of_ble_eq_true rfl) rfl (fun ls hl => ?_)
  refine lv_iload hx hb d_M_arc_37 (lv_at hl 6 rfl) ?_
  refine lv_aload_n hx hb d_M_arc_39 rfl (lv_at hl 2 rfl) ?_
  refine g_M_centreY hx hb hts hown hK hP 0 rfl rfl d_M_arc_40 ?_
  refine lv_isub hx hb d_M_arc_43 ?_
  refine lv_istore (lv' := [(7, .int (x4 - (m_y + x2))), (6, .int (x3 - (m_x + x1))), (5, .int ((x1 * x1) + (x2 * x2))), (0, .ref (a 10)), (1, .int x1), (2, .int x2), (3, .int x3), (4, .int x4)]) hx hb d_M_arc_44 hl (Nat.le_of_ble_eq_true rfl) rfl (fun ls hl => ?_)
  refine lv_iload hx hb d_M_arc_46 (lv_at hl 2 rfl) ?_
  refine lv_if_eq (tgt := 67) hx hb d_M_arc_48 (by decide) (fun hc => ?_) (fun hc => ?_)
  · replace hw := hw.1 hc
    refine lv_bipush (v := (106 : Int32)) hx hb d_M_arc_67 (by decide) ?_
    exact hret H locs ls 69 ((106 : Int32)) ((m_kind, m_made, m_all, m_points, m_x + x1, m_y + x2, mx, my)) d_M_arc_69 hP hD hS hw
  · replace hw := hw.2 hc
    refine lv_iload hx hb d_M_arc_51 (lv_at hl 1 rfl) ?_
    refine lv_iload hx hb d_M_arc_53 (lv_at hl 1 rfl) ?_
    refine lv_imul hx hb d_M_arc_55 ?_
    refine lv_iload hx hb d_M_arc_56 (lv_at hl 0 rfl) ?_
    refine lv_iload hx hb d_M_arc_58 (lv_at hl 0 rfl) ?_
    refine lv_imul hx hb d_M_arc_60 ?_
    refine lv_iadd hx hb d_M_arc_61 ?_
    refine lv_iload hx hb d_M_arc_62 (lv_at hl 2 rfl) ?_
    refine lv_icmp_eq (tgt := 70) hx hb d_M_arc_64 (by decide) (fun hc => ?_) (fun hc => ?_)
    · replace hw := hw.1 hc
      refine lv_iload hx hb d_M_arc_70 (lv_at hl 2 rfl) ?_
      refine lv_ldc (v := (160801 : Int32)) hx hb hown (hts _ k_M_143) d_M_arc_72 ?_
      refine lv_icmp_le (tgt := 80) hx hb d_M_arc_74 (by decide) (fun hc => ?_) (fun hc => ?_)
      · replace hw := hw.1 hc
        refine lv_aload_n hx hb d_M_arc_80 rfl (lv_at hl 3 rfl) ?_
        refine lv_iload hx hb d_M_arc_81 (lv_at hl 2 rfl) ?_
        refine my_callv (va_runV (As := [.int ((x1 * x1) + (x2 * x2))]) (rest := []) ⟨hx, hb, hml, hown, hts⟩ (c_M_lay l H.size) (cw_M_144 hts ⟨Nat.le_of_ble_eq_true rfl, Nat.le_of_ble_eq_true rfl⟩) (my_preV hK hP hX hD hS hA 0 rfl rfl hw) rfl rfl hl.1 rfl (lv_room (Nat.le_of_ble_eq_true rfl)) d_M_arc_83 ⟨Nat.le_refl _, Nat.le_refl _⟩) hD hS hA (fun u H locs hw hP hD hS => ?_)
        obtain ⟨m_points_83, mx_83, my_83⟩ := u
        dsimp only at hw
        have hP : va_P D cls ((o_M a m_length m_at m_lines m_x m_y m_mode m_feed m_state m_pulses m_last m_shown m_relative m_ending m_time m_pause m_kind m_made m_all m_fromX m_fromY m_wayX m_wayY m_points_83 (m_x + x1) (m_y + x2) m_there m_newMode m_newWay m_newFeed m_ends) :: e1 :: (o_mx a K mx_83) :: (o_my a K my_83) :: tl) H := hP
        have hD : va_D A ((o_M a m_length m_at m_lines m_x m_y m_mode m_feed m_state m_pulses m_last m_shown m_relative m_ending m_time m_pause m_kind m_made m_all m_fromX m_fromY m_wayX m_wayY m_points_83 (m_x + x1) (m_y + x2) m_there m_newMode m_newWay m_newFeed m_ends) :: e1 :: (o_mx a K mx_83) :: (o_my a K my_83) :: tl) := hD
        refine lv_iconst (v := (0 : Int32)) hx hb d_M_arc_86 (by decide) ?_
        refine lv_istore (lv' := [(8, .int (0 : Int32)), (7, .int (x4 - (m_y + x2))), (6, .int (x3 - (m_x + x1))), (5, .int ((x1 * x1) + (x2 * x2))), (0, .ref (a 10)), (1, .int x1), (2, .int x2), (3, .int x3), (4, .int x4)]) hx hb d_M_arc_87 hl (Nat.le_of_ble_eq_true rfl) rfl (fun ls hl => ?_)
        obtain ⟨n89, hw⟩ := hw
        exact J89 n89 H locs ls x1 x2 (x3 - (m_x + x1)) (x4 - (m_y + x2)) (0 : Int32) m_kind m_made m_all m_points_83 (m_x + x1) (m_y + x2) mx_83 my_83 hP hD hS (lv_sub hl [4, 5, 6, 2, 1, 0] rfl) hw
      · replace hw := hw.2 hc
        refine lv_bipush (v := (107 : Int32)) hx hb d_M_arc_77 (by decide) ?_
        exact hret H locs ls 79 ((107 : Int32)) ((m_kind, m_made, m_all, m_points, m_x + x1, m_y + x2, mx, my)) d_M_arc_79 hP hD hS hw
    · replace hw := hw.2 hc
      refine lv_bipush (v := (106 : Int32)) hx hb d_M_arc_67 (by decide) ?_
      exact hret H locs ls 69 ((106 : Int32)) ((m_kind, m_made, m_all, m_points, m_x + x1, m_y + x2, mx, my)) d_M_arc_69 hP hD hS hw
def wq_M_act_356 (Q : Int32 → Int32 → Int32 → Int32 → Int64 → Int32 → Int32 → Int32 → Int32 → Int32 → Int32 → Int32 → Int32 → Int32 → Int32 → (Nat → Int32) → (Nat → Int32) → Prop) (m_x m_y x2 x3 x4 s0 m_mode m_feed m_relative : Int32) (m_pause : Int64) (m_kind m_made m_all m_fromX m_fromY m_wayX m_wayY m_points m_centreX m_centreY : Int32) (mx my : Nat → Int32) : Prop := (wp_M_arc x4 s0 x2 x3 m_x m_y m_mode m_kind m_made m_all m_points m_centreX m_centreY mx my (fun r365 m_kind_365 m_made_365 m_all_365 m_points_365 m_centreX_365 m_centreY_365 mx_365 my_365 => (Q r365 m_mode m_feed m_relative m_pause m_kind_365 m_made_365 m_all_365 m_fromX m_fromY m_wayX m_wayY m_points_365 m_centreX_365 m_centreY_365 mx_365 my_365)))
def wq_M_act_334 (Q : Int32 → Int32 → Int32 → Int32 → Int64 → Int32 → Int32 → Int32 → Int32 → Int32 → Int32 → Int32 → Int32 → Int32 → Int32 → (Nat → Int32) → (Nat → Int32) → Prop) (m_x m_y m_there : Int32) (mn : Nat → Int32) (x2 x3 s0 m_mode m_feed m_relative : Int32) (m_pause : Int64) (m_kind m_made m_all m_fromX m_fromY m_wayX m_wayY m_points m_centreX m_centreY : Int32) (mx my : Nat → Int32) : Prop := (((m_there &&& (8 : Int32)) = 0 → (wq_M_act_356 Q m_x m_y x2 x3 s0 (0 : Int32) m_mode m_feed m_relative m_pause m_kind m_made m_all m_fromX m_fromY m_wayX m_wayY m_points m_centreX m_centreY mx my)) ∧ (¬ (m_there &&& (8 : Int32)) = 0 → (vp_in (3 : Int32) 4 ∧ (wq_M_act_356 Q m_x m_y x2 x3 s0 (mn (3 : Int32).toNatClampNeg) m_mode m_feed m_relative m_pause m_kind m_made m_all m_fromX m_fromY m_wayX m_wayY m_points m_centreX m_centreY mx my))))
def wq_M_act_305 (Q : Int32 → Int32 → Int32 → Int32 → Int64 → Int32 → Int32 → Int32 → Int32 → Int32 → Int32 → Int32 → Int32 → Int32 → Int32 → (Nat → Int32) → (Nat → Int32) → Prop) (s1 m_mode m_feed m_relative : Int32) (m_pause : Int64) (m_kind m_made m_all m_fromX m_fromY m_wayX m_wayY m_points m_centreX m_centreY : Int32) (mx my : Nat → Int32) : Prop := (Q (0 : Int32) m_mode m_feed m_relative m_pause m_kind (0 : Int32) s1 m_fromX m_fromY m_wayX m_wayY m_points m_centreX m_centreY mx my)
def wq_M_act_288 (Q : Int32 → Int32 → Int32 → Int32 → Int64 → Int32 → Int32 → Int32 → Int32 → Int32 → Int32 → Int32 → Int32 → Int32 → Int32 → (Nat → Int32) → (Nat → Int32) → Prop) (x4 s0 m_mode m_feed m_relative : Int32) (m_pause : Int64) (m_kind m_made m_all m_fromX m_fromY m_wayX m_wayY m_points m_centreX m_centreY : Int32) (mx my : Nat → Int32) : Prop := ((x4 ≤ s0 → (wq_M_act_305 Q s0 m_mode m_feed m_relative m_pause m_kind m_made m_all m_fromX m_fromY m_wayX m_wayY m_points m_centreX m_centreY mx my)) ∧ (¬ x4 ≤ s0 → (wq_M_act_305 Q x4 m_mode m_feed m_relative m_pause m_kind m_made m_all m_fromX m_fromY m_wayX m_wayY m_points m_centreX m_centreY mx my)))
def wq_M_act_267 (Q : Int32 → Int32 → Int32 → Int32 → Int64 → Int32 → Int32 → Int32 → Int32 → Int32 → Int32 → Int32 → Int32 → Int32 → Int32 → (Nat → Int32) → (Nat → Int32) → Prop) (s0 m_mode m_feed m_relative : Int32) (m_pause : Int64) (m_kind m_made m_all m_fromX m_fromY m_wayX m_wayY m_points m_centreX m_centreY : Int32) (mx my : Nat → Int32) : Prop := ((0 ≤ m_wayY → (wq_M_act_288 Q s0 m_wayY m_mode m_feed m_relative m_pause m_kind m_made m_all m_fromX m_fromY m_wayX m_wayY m_points m_centreX m_centreY mx my)) ∧ (¬ 0 ≤ m_wayY → (wq_M_act_288 Q s0 (-m_wayY) m_mode m_feed m_relative m_pause m_kind m_made m_all m_fromX m_fromY m_wayX m_wayY m_points m_centreX m_centreY mx my)))
def wq_M_act_179 (Q : Int32 → Int32 → Int32 → Int32 → Int64 → Int32 → Int32 → Int32 → Int32 → Int32 → Int32 → Int32 → Int32 → Int32 → Int32 → (Nat → Int32) → (Nat → Int32) → Prop) (m_x m_y m_there : Int32) (mn : Nat → Int32) (x2 x3 : Int32) (s1 : Int64) (m_mode m_feed m_relative : Int32) (m_pause : Int64) (m_kind m_made m_all m_fromX m_fromY m_wayX m_wayY m_points m_centreX m_centreY : Int32) (mx my : Nat → Int32) : Prop := (((2 : Int32) ≤ m_mode → (((m_there &&& (4 : Int32)) = 0 → (wq_M_act_334 Q m_x m_y m_there mn x2 x3 (0 : Int32) m_mode m_feed m_relative s1 m_kind m_made m_all m_fromX m_fromY m_wayX m_wayY m_points m_centreX m_centreY mx my)) ∧ (¬ (m_there &&& (4 : Int32)) = 0 → (vp_in (2 : Int32) 4 ∧ (wq_M_act_334 Q m_x m_y m_there mn x2 x3 (mn (2 : Int32).toNatClampNeg) m_mode m_feed m_relative s1 m_kind m_made m_all m_fromX m_fromY m_wayX m_wayY m_points m_centreX m_centreY mx my))))) ∧ (¬ (2 : Int32) ≤ m_mode → (wp_M_inLimits x2 (fun r191 => ((r191 = 0 → (Q (107 : Int32) m_mode m_feed m_relative s1 m_kind m_made m_all m_fromX m_fromY m_wayX m_wayY m_points m_centreX m_centreY mx my)) ∧ (¬ r191 = 0 → (wp_M_inLimits x3 (fun r198 => ((¬ r198 = 0 → ((0 ≤ (x2 - m_x) → (wq_M_act_267 Q (x2 - m_x) m_mode m_feed m_relative s1 (0 : Int32) m_made m_all m_x m_y (x2 - m_x) (x3 - m_y) m_points m_centreX m_centreY mx my)) ∧ (¬ 0 ≤ (x2 - m_x) → (wq_M_act_267 Q (-(x2 - m_x)) m_mode m_feed m_relative s1 (0 : Int32) m_made m_all m_x m_y (x2 - m_x) (x3 - m_y) m_points m_centreX m_centreY mx my)))) ∧ (r198 = 0 → (Q (107 : Int32) m_mode m_feed m_relative s1 m_kind m_made m_all m_fromX m_fromY m_wayX m_wayY m_points m_centreX m_centreY mx my)))))))))))
def wq_M_act_130 (Q : Int32 → Int32 → Int32 → Int32 → Int64 → Int32 → Int32 → Int32 → Int32 → Int32 → Int32 → Int32 → Int32 → Int32 → Int32 → (Nat → Int32) → (Nat → Int32) → Prop) (m_x m_y m_there : Int32) (mn : Nat → Int32) (m_mode m_feed m_relative : Int32) (m_pause : Int64) (m_kind m_made m_all m_fromX m_fromY m_wayX m_wayY m_points m_centreX m_centreY : Int32) (mx my : Nat → Int32) : Prop := (wp_M_goal (0 : Int32) m_x m_relative m_there mn (fun r136 => (wp_M_goal (1 : Int32) m_y m_relative m_there mn (fun r146 => ((¬ m_mode = 0 → (¬ m_feed = 0 ∧ (wq_M_act_179 Q m_x m_y m_there mn r136 r146 (((((1000000 : Int32) + m_feed) - (1 : Int32)) / m_feed).toInt64) m_mode m_feed m_relative m_pause m_kind m_made m_all m_fromX m_fromY m_wayX m_wayY m_points m_centreX m_centreY mx my))) ∧ (m_mode = 0 → (wq_M_act_179 Q m_x m_y m_there mn r136 r146 (100 : Int64) m_mode m_feed m_relative m_pause m_kind m_made m_all m_fromX m_fromY m_wayX m_wayY m_points m_centreX m_centreY mx my)))))))
def wq_M_act_104 (Q : Int32 → Int32 → Int32 → Int32 → Int64 → Int32 → Int32 → Int32 → Int32 → Int32 → Int32 → Int32 → Int32 → Int32 → Int32 → (Nat → Int32) → (Nat → Int32) → Prop) (m_x m_y m_there : Int32) (mn : Nat → Int32) (m_mode m_feed m_relative : Int32) (m_pause : Int64) (m_kind m_made m_all m_fromX m_fromY m_wayX m_wayY m_points m_centreX m_centreY : Int32) (mx my : Nat → Int32) : Prop := ((¬ m_there = 0 → ((m_mode = 0 → (wq_M_act_130 Q m_x m_y m_there mn m_mode m_feed m_relative m_pause m_kind m_made m_all m_fromX m_fromY m_wayX m_wayY m_points m_centreX m_centreY mx my)) ∧ (¬ m_mode = 0 → ((¬ m_feed = 0 → (wq_M_act_130 Q m_x m_y m_there mn m_mode m_feed m_relative m_pause m_kind m_made m_all m_fromX m_fromY m_wayX m_wayY m_points m_centreX m_centreY mx my)) ∧ (m_feed = 0 → (Q (105 : Int32) m_mode m_feed m_relative m_pause m_kind m_made m_all m_fromX m_fromY m_wayX m_wayY m_points m_centreX m_centreY mx my)))))) ∧ (m_there = 0 → (Q (0 : Int32) m_mode m_feed m_relative m_pause m_kind m_made m_all m_fromX m_fromY m_wayX m_wayY m_points m_centreX m_centreY mx my)))
def wq_M_act_82 (Q : Int32 → Int32 → Int32 → Int32 → Int64 → Int32 → Int32 → Int32 → Int32 → Int32 → Int32 → Int32 → Int32 → Int32 → Int32 → (Nat → Int32) → (Nat → Int32) → Prop) (m_x m_y m_there : Int32) (mn : Nat → Int32) (x1 m_mode m_feed m_relative : Int32) (m_pause : Int64) (m_kind m_made m_all m_fromX m_fromY m_wayX m_wayY m_points m_centreX m_centreY : Int32) (mx my : Nat → Int32) : Prop := ((¬ x1 = 0 → (wq_M_act_104 Q m_x m_y m_there mn m_mode m_feed m_relative m_pause m_kind m_made m_all m_fromX m_fromY m_wayX m_wayY m_points m_centreX m_centreY mx my)) ∧ (x1 = 0 → ((m_there = 0 → (wq_M_act_104 Q m_x m_y m_there mn m_mode m_feed m_relative m_pause m_kind m_made m_all m_fromX m_fromY m_wayX m_wayY m_points m_centreX m_centreY mx my)) ∧ (¬ m_there = 0 → ((m_mode ≤ (1 : Int32) → (wq_M_act_104 Q m_x m_y m_there mn m_mode m_feed m_relative m_pause m_kind m_made m_all m_fromX m_fromY m_wayX m_wayY m_points m_centreX m_centreY mx my)) ∧ (¬ m_mode ≤ (1 : Int32) → (Q (104 : Int32) m_mode m_feed m_relative m_pause m_kind m_made m_all m_fromX m_fromY m_wayX m_wayY m_points m_centreX m_centreY mx my)))))))
def wq_M_act_69 (Q : Int32 → Int32 → Int32 → Int32 → Int64 → Int32 → Int32 → Int32 → Int32 → Int32 → Int32 → Int32 → Int32 → Int32 → Int32 → (Nat → Int32) → (Nat → Int32) → Prop) (m_x m_y m_there : Int32) (mn : Nat → Int32) (s0 m_mode m_feed m_relative : Int32) (m_pause : Int64) (m_kind m_made m_all m_fromX m_fromY m_wayX m_wayY m_points m_centreX m_centreY : Int32) (mx my : Nat → Int32) : Prop := ((s0 = 0 → (wq_M_act_82 Q m_x m_y m_there mn s0 m_mode m_feed m_relative m_pause m_kind m_made m_all m_fromX m_fromY m_wayX m_wayY m_points m_centreX m_centreY mx my)) ∧ (¬ s0 = 0 → ((m_mode < (2 : Int32) → (Q (104 : Int32) m_mode m_feed m_relative m_pause m_kind m_made m_all m_fromX m_fromY m_wayX m_wayY m_points m_centreX m_centreY mx my)) ∧ (¬ m_mode < (2 : Int32) → (wq_M_act_82 Q m_x m_y m_there mn s0 m_mode m_feed m_relative m_pause m_kind m_made m_all m_fromX m_fromY m_wayX m_wayY m_points m_centreX m_centreY mx my)))))
def wq_M_act_54 (Q : Int32 → Int32 → Int32 → Int32 → Int64 → Int32 → Int32 → Int32 → Int32 → Int32 → Int32 → Int32 → Int32 → Int32 → Int32 → (Nat → Int32) → (Nat → Int32) → Prop) (m_x m_y m_there : Int32) (mn : Nat → Int32) (m_mode m_feed m_relative : Int32) (m_pause : Int64) (m_kind m_made m_all m_fromX m_fromY m_wayX m_wayY m_points m_centreX m_centreY : Int32) (mx my : Nat → Int32) : Prop := (((m_there &&& (12 : Int32)) = 0 → (wq_M_act_69 Q m_x m_y m_there mn (0 : Int32) m_mode m_feed m_relative m_pause m_kind m_made m_all m_fromX m_fromY m_wayX m_wayY m_points m_centreX m_centreY mx my)) ∧ (¬ (m_there &&& (12 : Int32)) = 0 → (wq_M_act_69 Q m_x m_y m_there mn (1 : Int32) m_mode m_feed m_relative m_pause m_kind m_made m_all m_fromX m_fromY m_wayX m_wayY m_points m_centreX m_centreY mx my)))
def wq_M_act_39 (Q : Int32 → Int32 → Int32 → Int32 → Int64 → Int32 → Int32 → Int32 → Int32 → Int32 → Int32 → Int32 → Int32 → Int32 → Int32 → (Nat → Int32) → (Nat → Int32) → Prop) (m_x m_y m_there m_newMode : Int32) (mn : Nat → Int32) (m_mode m_feed m_relative : Int32) (m_pause : Int64) (m_kind m_made m_all m_fromX m_fromY m_wayX m_wayY m_points m_centreX m_centreY : Int32) (mx my : Nat → Int32) : Prop := ((m_newMode < 0 → (wq_M_act_54 Q m_x m_y m_there mn m_mode m_feed m_relative m_pause m_kind m_made m_all m_fromX m_fromY m_wayX m_wayY m_points m_centreX m_centreY mx my)) ∧ (¬ m_newMode < 0 → (wq_M_act_54 Q m_x m_y m_there mn m_newMode m_feed m_relative m_pause m_kind m_made m_all m_fromX m_fromY m_wayX m_wayY m_points m_centreX m_centreY mx my)))
def wq_M_act_36 (Q : Int32 → Int32 → Int32 → Int32 → Int64 → Int32 → Int32 → Int32 → Int32 → Int32 → Int32 → Int32 → Int32 → Int32 → Int32 → (Nat → Int32) → (Nat → Int32) → Prop) (m_x m_y m_there m_newMode : Int32) (mn : Nat → Int32) (s1 m_mode m_feed m_relative : Int32) (m_pause : Int64) (m_kind m_made m_all m_fromX m_fromY m_wayX m_wayY m_points m_centreX m_centreY : Int32) (mx my : Nat → Int32) : Prop := (bZ s1 ∧ (wq_M_act_39 Q m_x m_y m_there m_newMode mn m_mode m_feed s1 m_pause m_kind m_made m_all m_fromX m_fromY m_wayX m_wayY m_points m_centreX m_centreY mx my))
def wq_M_act_15 (Q : Int32 → Int32 → Int32 → Int32 → Int64 → Int32 → Int32 → Int32 → Int32 → Int32 → Int32 → Int32 → Int32 → Int32 → Int32 → (Nat → Int32) → (Nat → Int32) → Prop) (m_x m_y m_there m_newMode m_newWay : Int32) (mn : Nat → Int32) (m_mode m_feed m_relative : Int32) (m_pause : Int64) (m_kind m_made m_all m_fromX m_fromY m_wayX m_wayY m_points m_centreX m_centreY : Int32) (mx my : Nat → Int32) : Prop := ((m_newWay < 0 → (wq_M_act_39 Q m_x m_y m_there m_newMode mn m_mode m_feed m_relative m_pause m_kind m_made m_all m_fromX m_fromY m_wayX m_wayY m_points m_centreX m_centreY mx my)) ∧ (¬ m_newWay < 0 → ((¬ m_newWay = (1 : Int32) → (wq_M_act_36 Q m_x m_y m_there m_newMode mn (0 : Int32) m_mode m_feed m_relative m_pause m_kind m_made m_all m_fromX m_fromY m_wayX m_wayY m_points m_centreX m_centreY mx my)) ∧ (m_newWay = (1 : Int32) → (wq_M_act_36 Q m_x m_y m_there m_newMode mn (1 : Int32) m_mode m_feed m_relative m_pause m_kind m_made m_all m_fromX m_fromY m_wayX m_wayY m_points m_centreX m_centreY mx my)))))
def wp_M_act (m_x m_y m_mode m_feed m_relative : Int32) (m_pause : Int64) (m_kind m_made m_all m_fromX m_fromY m_wayX m_wayY m_points m_centreX m_centreY m_there m_newMode m_newWay m_newFeed : Int32) (mx my mn : Nat → Int32) (Q : Int32 → Int32 → Int32 → Int32 → Int64 → Int32 → Int32 → Int32 → Int32 → Int32 → Int32 → Int32 → Int32 → Int32 → Int32 → (Nat → Int32) → (Nat → Int32) → Prop) : Prop := ((m_newFeed ≤ 0 → (wq_M_act_15 Q m_x m_y m_there m_newMode m_newWay mn m_mode m_feed m_relative m_pause m_kind m_made m_all m_fromX m_fromY m_wayX m_wayY m_points m_centreX m_centreY mx my)) ∧ (¬ m_newFeed ≤ 0 → (wq_M_act_15 Q m_x m_y m_there m_newMode m_newWay mn m_mode m_newFeed m_relative m_pause m_kind m_made m_all m_fromX m_fromY m_wayX m_wayY m_points m_centreX m_centreY mx my)))
abbrev rm_M_act : Room := { frames := 3, cells := 0, slots := 0, locals := 82 }
set_option maxRecDepth 100000 in
set_option maxHeartbeats 4000000 in
theorem c_M_act (l : Launch) {D : va_G} {X : xT} {a : Nat → Nat} {K : Nat → ClassId} {tl : va_W} {e1 : Nat × va_E} {m_length m_at m_lines m_x m_y m_mode m_feed m_state m_pulses m_last m_shown m_relative m_ending : Int32} {m_time m_pause : Int64} {m_kind m_made m_all m_fromX m_fromY m_wayX m_wayY m_points m_centreX m_centreY m_there m_newMode m_newWay m_newFeed m_ends : Int32} {mx my mn : Nat → Int32} {Q : Int32 → Int32 → Int32 → Int32 → Int64 → Int32 → Int32 → Int32 → Int32 → Int32 → Int32 → Int32 → Int32 → Int32 → Int32 → (Nat → Int32) → (Nat → Int32) → Prop} : MI l y_M_act b_M_act 6 rm_M_act D cls (tys K) X [.ref (a 10)] ((o_M a m_length m_at m_lines m_x m_y m_mode m_feed m_state m_pulses m_last m_shown m_relative m_ending m_time m_pause m_kind m_made m_all m_fromX m_fromY m_wayX m_wayY m_points m_centreX m_centreY m_there m_newMode m_newWay m_newFeed m_ends) :: e1 :: (o_mx a K mx) :: (o_my a K my) :: (o_mn a K mn) :: tl) (fun u : Int32 × Int32 × Int32 × Int64 × Int32 × Int32 × Int32 × Int32 × Int32 × Int32 × Int32 × Int32 × Int32 × Int32 × (Nat → Int32) × (Nat → Int32) => (o_M a m_length m_at m_lines m_x m_y u.1 u.2.1 m_state m_pulses m_last m_shown u.2.2.1 m_ending m_time u.2.2.2.1 u.2.2.2.2.1 u.2.2.2.2.2.1 u.2.2.2.2.2.2.1 u.2.2.2.2.2.2.2.1 u.2.2.2.2.2.2.2.2.1 u.2.2.2.2.2.2.2.2.2.1 u.2.2.2.2.2.2.2.2.2.2.1 u.2.2.2.2.2.2.2.2.2.2.2.1 u.2.2.2.2.2.2.2.2.2.2.2.2.1 u.2.2.2.2.2.2.2.2.2.2.2.2.2.1 m_there m_newMode m_newWay m_newFeed m_ends) :: e1 :: (o_mx a K u.2.2.2.2.2.2.2.2.2.2.2.2.2.2.1) :: (o_my a K u.2.2.2.2.2.2.2.2.2.2.2.2.2.2.2) :: (o_mn a K mn) :: tl) (wp_M_act m_x m_y m_mode m_feed m_relative m_pause m_kind m_made m_all m_fromX m_fromY m_wayX m_wayY m_points m_centreX m_centreY m_there m_newMode m_newWay m_newFeed mx my mn Q) (fun r u => Q r u.1 u.2.1 u.2.2.1 u.2.2.2.1 u.2.2.2.2.1 u.2.2.2.2.2.1 u.2.2.2.2.2.2.1 u.2.2.2.2.2.2.2.1 u.2.2.2.2.2.2.2.2.1 u.2.2.2.2.2.2.2.2.2.1 u.2.2.2.2.2.2.2.2.2.2.1 u.2.2.2.2.2.2.2.2.2.2.2.1 u.2.2.2.2.2.2.2.2.2.2.2.2.1 u.2.2.2.2.2.2.2.2.2.2.2.2.2.1 u.2.2.2.2.2.2.2.2.2.2.2.2.2.2.1 u.2.2.2.2.2.2.2.2.2.2.2.2.2.2.2) := by
  refine my_of_I (by decide +kernel) (Nat.le_of_ble_eq_true rfl) (fun p e s m args below meth c A QQ H locs ls hx hb hts hown hml hK hX hA hP hD hS hl hw hret => ?_)
  replace hl : lv_has ls 6 [(0, .ref (a 10))] := hl
  have J356 : ∀ (H : Heap) (locs : List Loc) (ls : Array Slot) (x2 x3 x4 s0 m_mode m_feed m_relative : Int32) (m_pause : Int64) (m_kind m_made m_all m_fromX m_fromY m_wayX m_wayY m_points m_centreX m_centreY : Int32) (mx my : Nat → Int32), va_P D cls ((o_M a m_length m_at m_lines m_x m_y m_mode m_feed m_state m_pulses m_last m_shown m_relative m_ending m_time m_pause m_kind m_made m_all m_fromX m_fromY m_wayX m_wayY m_points m_centreX m_centreY m_there m_newMode m_newWay m_newFeed m_ends) :: e1 :: (o_mx a K mx) :: (o_my a K my) :: (o_mn a K mn) :: tl) H → va_D A ((o_M a m_length m_at m_lines m_x m_y m_mode m_feed m_state m_pulses m_last m_shown m_relative m_ending m_time m_pause m_kind m_made m_all m_fromX m_fromY m_wayX m_wayY m_points m_centreX m_centreY m_there m_newMode m_newWay m_newFeed m_ends) :: e1 :: (o_mx a K mx) :: (o_my a K my) :: (o_mn a K mn) :: tl) → va_S A s.heap H locs → lv_has ls 6 [(0, .ref (a 10)), (2, .int x2), (3, .int x3), (4, .int x4)] → wq_M_act_356 Q m_x m_y x2 x3 x4 s0 m_mode m_feed m_relative m_pause m_kind m_made m_all m_fromX m_fromY m_wayX m_wayY m_points m_centreX m_centreY mx my → W p l e rm_M_act s m args below meth c H locs 0 0 QQ (F0 m 356 ls [.int s0]) := by
    intro H locs ls x2 x3 x4 s0 m_mode m_feed m_relative m_pause m_kind m_made m_all m_fromX m_fromY m_wayX m_wayY m_points m_centreX m_centreY mx my hP hD hS hl hw
    unfold wq_M_act_356 at hw
    refine lv_istore (lv' := [(5, .int s0), (0, .ref (a 10)), (2, .int x2), (3, .int x3), (4, .int x4)]) hx hb d_M_act_356 hl (Nat.le_of_ble_eq_true rfl) rfl (fun ls hl => ?_)
    refine lv_aload_n hx hb d_M_act_358 rfl (lv_at hl 1 rfl) ?_
    refine lv_iload hx hb d_M_act_359 (lv_at hl 4 rfl) ?_
    refine lv_iload hx hb d_M_act_361 (lv_at hl 0 rfl) ?_
    refine lv_iload_n hx hb d_M_act_363 rfl (lv_at hl 2 rfl) ?_
    refine lv_iload_n hx hb d_M_act_364 rfl (lv_at hl 3 rfl) ?_
    refine my_calli (va_runV (As := [.int x4, .int s0, .int x2, .int x3]) (rest := []) ⟨hx, hb, hml, hown, hts⟩ (c_M_arc l H.size) (cw_M_133 hts ⟨Nat.le_of_ble_eq_true rfl, Nat.le_of_ble_eq_true rfl⟩) (my_preV hK hP hX hD hS hA 0 rfl rfl hw) rfl rfl hl.1 rfl (lv_room (Nat.le_of_ble_eq_true rfl)) d_M_act_365 ⟨Nat.le_refl _, Nat.le_refl _⟩) hD hS hA (fun r365 u H locs hw hP hD hS => ?_)
    obtain ⟨m_kind_365, m_made_365, m_all_365, m_points_365, m_centreX_365, m_centreY_365, mx_365, my_365⟩ := u
    dsimp only at hw
    have hP : va_P D cls ((o_M a m_length m_at m_lines m_x m_y m_mode m_feed m_state m_pulses m_last m_shown m_relative m_ending m_time m_pause m_kind_365 m_made_365 m_all_365 m_fromX m_fromY m_wayX m_wayY m_points_365 m_centreX_365 m_centreY_365 m_there m_newMode m_newWay m_newFeed m_ends) :: e1 :: (o_mx a K mx_365) :: (o_my a K my_365) :: (o_mn a K mn) :: tl) H := hP
    have hD : va_D A ((o_M a m_length m_at m_lines m_x m_y m_mode m_feed m_state m_pulses m_last m_shown m_relative m_ending m_time m_pause m_kind_365 m_made_365 m_all_365 m_fromX m_fromY m_wayX m_wayY m_points_365 m_centreX_365 m_centreY_365 m_there m_newMode m_newWay m_newFeed m_ends) :: e1 :: (o_mx a K mx_365) :: (o_my a K my_365) :: (o_mn a K mn) :: tl) := hD
    exact hret H locs ls 368 (r365) ((m_mode, m_feed, m_relative, m_pause, m_kind_365, m_made_365, m_all_365, m_fromX, m_fromY, m_wayX, m_wayY, m_points_365, m_centreX_365, m_centreY_365, mx_365, my_365)) d_M_act_368 hP hD hS hw
  have J334 : ∀ (H : Heap) (locs : List Loc) (ls : Array Slot) (x2 x3 s0 m_mode m_feed m_relative : Int32) (m_pause : Int64) (m_kind m_made m_all m_fromX m_fromY m_wayX m_wayY m_points m_centreX m_centreY : Int32) (mx my : Nat → Int32), va_P D cls ((o_M a m_length m_at m_lines m_x m_y m_mode m_feed m_state m_pulses m_last m_shown m_relative m_ending m_time m_pause m_kind m_made m_all m_fromX m_fromY m_wayX m_wayY m_points m_centreX m_centreY m_there m_newMode m_newWay m_newFeed m_ends) :: e1 :: (o_mx a K mx) :: (o_my a K my) :: (o_mn a K mn) :: tl) H → va_D A ((o_M a m_length m_at m_lines m_x m_y m_mode m_feed m_state m_pulses m_last m_shown m_relative m_ending m_time m_pause m_kind m_made m_all m_fromX m_fromY m_wayX m_wayY m_points m_centreX m_centreY m_there m_newMode m_newWay m_newFeed m_ends) :: e1 :: (o_mx a K mx) :: (o_my a K my) :: (o_mn a K mn) :: tl) → va_S A s.heap H locs → lv_has ls 6 [(0, .ref (a 10)), (2, .int x2), (3, .int x3)] → wq_M_act_334 Q m_x m_y m_there mn x2 x3 s0 m_mode m_feed m_relative m_pause m_kind m_made m_all m_fromX m_fromY m_wayX m_wayY m_points m_centreX m_centreY mx my → W p l e rm_M_act s m args below meth c H locs 0 0 QQ (F0 m 334 ls [.int s0]) := by
    intro H locs ls x2 x3 s0 m_mode m_feed m_relative m_pause m_kind m_made m_all m_fromX m_fromY m_wayX m_wayY m_points m_centreX m_centreY mx my hP hD hS hl hw
    unfold wq_M_act_334 at hw
    refine lv_istore (lv' := [(4, .int s0), (0, .ref (a 10)), (2, .int x2), (3, .int x3)]) hx hb d_M_act_334 hl (Nat.le_of_ble_eq_true rfl) rfl (fun ls hl => ?_)
    refine lv_aload_n hx hb d_M_act_336 rfl (lv_at hl 1 rfl) ?_
    refine g_M_there hx hb hts hown hK hP 0 rfl rfl d_M_act_337 ?_
    refine lv_bipush (v := (8 : Int32)) hx hb d_M_act_340 (by decide) ?_
    refine lv_iand hx hb d_M_act_342 ?_
    refine lv_if_eq (tgt := 355) hx hb d_M_act_343 (by decide) (fun hc => ?_) (fun hc => ?_)
    · replace hw := hw.1 hc
      refine lv_iconst (v := (0 : Int32)) hx hb d_M_act_355 (by decide) ?_
      exact J356 H locs ls x2 x3 s0 (0 : Int32) m_mode m_feed m_relative m_pause m_kind m_made m_all m_fromX m_fromY m_wayX m_wayY m_points m_centreX m_centreY mx my hP hD hS (lv_sub hl [1, 2, 3, 0] rfl) hw
    · replace hw := hw.2 hc
      refine lv_aload_n hx hb d_M_act_346 rfl (lv_at hl 1 rfl) ?_
      refine g_M_number hx hb hts hown hK hP 0 rfl rfl d_M_act_347 ?_
      refine lv_iconst (v := (3 : Int32)) hx hb d_M_act_350 (by decide) ?_
      refine va_iald hx hb hK hP 4 8 rfl rfl hw.1 d_M_act_351 ?_
      replace hw := hw.2
      refine lv_goto (tgt := 356) hx hb d_M_act_352 (by decide) ?_
      exact J356 H locs ls x2 x3 s0 (mn (3 : Int32).toNatClampNeg) m_mode m_feed m_relative m_pause m_kind m_made m_all m_fromX m_fromY m_wayX m_wayY m_points m_centreX m_centreY mx my hP hD hS (lv_sub hl [1, 2, 3, 0] rfl) hw
  have J305 : ∀ (H : Heap) (locs : List Loc) (ls : Array Slot) (s1 m_mode m_feed m_relative : Int32) (m_pause : Int64) (m_kind m_made m_all m_fromX m_fromY m_wayX m_wayY m_points m_centreX m_centreY : Int32) (mx my : Nat → Int32), va_P D cls ((o_M a m_length m_at m_lines m_x m_y m_mode m_feed m_state m_pulses m_last m_shown m_relative m_ending m_time m_pause m_kind m_made m_all m_fromX m_fromY m_wayX m_wayY m_points m_centreX m_centreY m_there m_newMode m_newWay m_newFeed m_ends) :: e1 :: (o_mx a K mx) :: (o_my a K my) :: (o_mn a K mn) :: tl) H → va_D A ((o_M a m_length m_at m_lines m_x m_y m_mode m_feed m_state m_pulses m_last m_shown m_relative m_ending m_time m_pause m_kind m_made m_all m_fromX m_fromY m_wayX m_wayY m_points m_centreX m_centreY m_there m_newMode m_newWay m_newFeed m_ends) :: e1 :: (o_mx a K mx) :: (o_my a K my) :: (o_mn a K mn) :: tl) → va_S A s.heap H locs → lv_has ls 6 [(0, .ref (a 10))] → wq_M_act_305 Q s1 m_mode m_feed m_relative m_pause m_kind m_made m_all m_fromX m_fromY m_wayX m_wayY m_points m_centreX m_centreY mx my → W p l e rm_M_act s m args below meth c H locs 0 0 QQ (F0 m 305 ls [.int s1, .ref (a 10)]) := by
    intro H locs ls s1 m_mode m_feed m_relative m_pause m_kind m_made m_all m_fromX m_fromY m_wayX m_wayY m_points m_centreX m_centreY mx my hP hD hS hl hw
    unfold wq_M_act_305 at hw
    refine u_M_all hx hb hts hown hK hP hD hS 0 rfl rfl d_M_act_305 (fun H locs hP hD hS => ?_)
    have hP : va_P D cls ((o_M a m_length m_at m_lines m_x m_y m_mode m_feed m_state m_pulses m_last m_shown m_relative m_ending m_time m_pause m_kind m_made s1 m_fromX m_fromY m_wayX m_wayY m_points m_centreX m_centreY m_there m_newMode m_newWay m_newFeed m_ends) :: e1 :: (o_mx a K mx) :: (o_my a K my) :: (o_mn a K mn) :: tl) H := hP
    have hD : va_D A ((o_M a m_length m_at m_lines m_x m_y m_mode m_feed m_state m_pulses m_last m_shown m_relative m_ending m_time m_pause m_kind m_made s1 m_fromX m_fromY m_wayX m_wayY m_points m_centreX m_centreY m_there m_newMode m_newWay m_newFeed m_ends) :: e1 :: (o_mx a K mx) :: (o_my a K my) :: (o_mn a K mn) :: tl) := hD
    refine lv_aload_n hx hb d_M_act_308 rfl (lv_at hl 0 rfl) ?_
    refine lv_iconst (v := (0 : Int32)) hx hb d_M_act_309 (by decide) ?_
    refine u_M_made hx hb hts hown hK hP hD hS 0 rfl rfl d_M_act_310 (fun H locs hP hD hS => ?_)
    have hP : va_P D cls ((o_M a m_length m_at m_lines m_x m_y m_mode m_feed m_state m_pulses m_last m_shown m_relative m_ending m_time m_pause m_kind (0 : Int32) s1 m_fromX m_fromY m_wayX m_wayY m_points m_centreX m_centreY m_there m_newMode m_newWay m_newFeed m_ends) :: e1 :: (o_mx a K mx) :: (o_my a K my) :: (o_mn a K mn) :: tl) H := hP
    have hD : va_D A ((o_M a m_length m_at m_lines m_x m_y m_mode m_feed m_state m_pulses m_last m_shown m_relative m_ending m_time m_pause m_kind (0 : Int32) s1 m_fromX m_fromY m_wayX m_wayY m_points m_centreX m_centreY m_there m_newMode m_newWay m_newFeed m_ends) :: e1 :: (o_mx a K mx) :: (o_my a K my) :: (o_mn a K mn) :: tl) := hD
    refine lv_iconst (v := (0 : Int32)) hx hb d_M_act_313 (by decide) ?_
    exact hret H locs ls 314 ((0 : Int32)) ((m_mode, m_feed, m_relative, m_pause, m_kind, (0 : Int32), s1, m_fromX, m_fromY, m_wayX, m_wayY, m_points, m_centreX, m_centreY, mx, my)) d_M_act_314 hP hD hS hw
  have J288 : ∀ (H : Heap) (locs : List Loc) (ls : Array Slot) (x4 s0 m_mode m_feed m_relative : Int32) (m_pause : Int64) (m_kind m_made m_all m_fromX m_fromY m_wayX m_wayY m_points m_centreX m_centreY : Int32) (mx my : Nat → Int32), va_P D cls ((o_M a m_length m_at m_lines m_x m_y m_mode m_feed m_state m_pulses m_last m_shown m_relative m_ending m_time m_pause m_kind m_made m_all m_fromX m_fromY m_wayX m_wayY m_points m_centreX m_centreY m_there m_newMode m_newWay m_newFeed m_ends) :: e1 :: (o_mx a K mx) :: (o_my a K my) :: (o_mn a K mn) :: tl) H → va_D A ((o_M a m_length m_at m_lines m_x m_y m_mode m_feed m_state m_pulses m_last m_shown m_relative m_ending m_time m_pause m_kind m_made m_all m_fromX m_fromY m_wayX m_wayY m_points m_centreX m_centreY m_there m_newMode m_newWay m_newFeed m_ends) :: e1 :: (o_mx a K mx) :: (o_my a K my) :: (o_mn a K mn) :: tl) → va_S A s.heap H locs → lv_has ls 6 [(0, .ref (a 10)), (4, .int x4)] → wq_M_act_288 Q x4 s0 m_mode m_feed m_relative m_pause m_kind m_made m_all m_fromX m_fromY m_wayX m_wayY m_points m_centreX m_centreY mx my → W p l e rm_M_act s m args below meth c H locs 0 0 QQ (F0 m 288 ls [.int s0]) := by
    intro H locs ls x4 s0 m_mode m_feed m_relative m_pause m_kind m_made m_all m_fromX m_fromY m_wayX m_wayY m_points m_centreX m_centreY mx my hP hD hS hl hw
    unfold wq_M_act_288 at hw
    refine lv_istore (lv' := [(5, .int s0), (0, .ref (a 10)), (4, .int x4)]) hx hb d_M_act_288 hl (Nat.le_of_ble_eq_true rfl) rfl (fun ls hl => ?_)
    refine lv_aload_n hx hb d_M_act_290 rfl (lv_at hl 1 rfl) ?_
    refine lv_iload hx hb d_M_act_291 (lv_at hl 2 rfl) ?_
    refine lv_iload hx hb d_M_act_293 (lv_at hl 0 rfl) ?_
    refine lv_icmp_le (tgt := 303) hx hb d_M_act_295 (by decide) (fun hc => ?_) (fun hc => ?_)
    · replace hw := hw.1 hc
      refine lv_iload hx hb d_M_act_303 (lv_at hl 0 rfl) ?_
      exact J305 H locs ls s0 m_mode m_feed m_relative m_pause m_kind m_made m_all m_fromX m_fromY m_wayX m_wayY m_points m_centreX m_centreY mx my hP hD hS (lv_sub hl [1] rfl) hw
    · replace hw := hw.2 hc
      refine lv_iload hx hb d_M_act_298 (lv_at hl 2 rfl) ?_
      refine lv_goto (tgt := 305) hx hb d_M_act_300 (by decide) ?_
      exact J305 H locs ls x4 m_mode m_feed m_relative m_pause m_kind m_made m_all m_fromX m_fromY m_wayX m_wayY m_points m_centreX m_centreY mx my hP hD hS (lv_sub hl [1] rfl) hw
  have J267 : ∀ (H : Heap) (locs : List Loc) (ls : Array Slot) (s0 m_mode m_feed m_relative : Int32) (m_pause : Int64) (m_kind m_made m_all m_fromX m_fromY m_wayX m_wayY m_points m_centreX m_centreY : Int32) (mx my : Nat → Int32), va_P D cls ((o_M a m_length m_at m_lines m_x m_y m_mode m_feed m_state m_pulses m_last m_shown m_relative m_ending m_time m_pause m_kind m_made m_all m_fromX m_fromY m_wayX m_wayY m_points m_centreX m_centreY m_there m_newMode m_newWay m_newFeed m_ends) :: e1 :: (o_mx a K mx) :: (o_my a K my) :: (o_mn a K mn) :: tl) H → va_D A ((o_M a m_length m_at m_lines m_x m_y m_mode m_feed m_state m_pulses m_last m_shown m_relative m_ending m_time m_pause m_kind m_made m_all m_fromX m_fromY m_wayX m_wayY m_points m_centreX m_centreY m_there m_newMode m_newWay m_newFeed m_ends) :: e1 :: (o_mx a K mx) :: (o_my a K my) :: (o_mn a K mn) :: tl) → va_S A s.heap H locs → lv_has ls 6 [(0, .ref (a 10))] → wq_M_act_267 Q s0 m_mode m_feed m_relative m_pause m_kind m_made m_all m_fromX m_fromY m_wayX m_wayY m_points m_centreX m_centreY mx my → W p l e rm_M_act s m args below meth c H locs 0 0 QQ (F0 m 267 ls [.int s0]) := by
    intro H locs ls s0 m_mode m_feed m_relative m_pause m_kind m_made m_all m_fromX m_fromY m_wayX m_wayY m_points m_centreX m_centreY mx my hP hD hS hl hw
    unfold wq_M_act_267 at hw
    refine lv_istore (lv' := [(4, .int s0), (0, .ref (a 10))]) hx hb d_M_act_267 hl (Nat.le_of_ble_eq_true rfl) rfl (fun ls hl => ?_)
    refine lv_aload_n hx hb d_M_act_269 rfl (lv_at hl 1 rfl) ?_
    refine g_M_wayY hx hb hts hown hK hP 0 rfl rfl d_M_act_270 ?_
    refine lv_if_ge (tgt := 284) hx hb d_M_act_273 (by decide) (fun hc => ?_) (fun hc => ?_)
    · replace hw := hw.1 hc
      refine lv_aload_n hx hb d_M_act_284 rfl (lv_at hl 1 rfl) ?_
      refine g_M_wayY hx hb hts hown hK hP 0 rfl rfl d_M_act_285 ?_
      exact J288 H locs ls s0 m_wayY m_mode m_feed m_relative m_pause m_kind m_made m_all m_fromX m_fromY m_wayX m_wayY m_points m_centreX m_centreY mx my hP hD hS (lv_sub hl [1, 0] rfl) hw
    · replace hw := hw.2 hc
      refine lv_aload_n hx hb d_M_act_276 rfl (lv_at hl 1 rfl) ?_
      refine g_M_wayY hx hb hts hown hK hP 0 rfl rfl d_M_act_277 ?_
      refine lv_ineg hx hb d_M_act_280 ?_
      refine lv_goto (tgt := 288) hx hb d_M_act_281 (by decide) ?_
      exact J288 H locs ls s0 (-m_wayY) m_mode m_feed m_relative m_pause m_kind m_made m_all m_fromX m_fromY m_wayX m_wayY m_points m_centreX m_centreY mx my hP hD hS (lv_sub hl [1, 0] rfl) hw
  have J179 : ∀ (H : Heap) (locs : List Loc) (ls : Array Slot) (x2 x3 : Int32) (s1 : Int64) (m_mode m_feed m_relative : Int32) (m_pause : Int64) (m_kind m_made m_all m_fromX m_fromY m_wayX m_wayY m_points m_centreX m_centreY : Int32) (mx my : Nat → Int32), va_P D cls ((o_M a m_length m_at m_lines m_x m_y m_mode m_feed m_state m_pulses m_last m_shown m_relative m_ending m_time m_pause m_kind m_made m_all m_fromX m_fromY m_wayX m_wayY m_points m_centreX m_centreY m_there m_newMode m_newWay m_newFeed m_ends) :: e1 :: (o_mx a K mx) :: (o_my a K my) :: (o_mn a K mn) :: tl) H → va_D A ((o_M a m_length m_at m_lines m_x m_y m_mode m_feed m_state m_pulses m_last m_shown m_relative m_ending m_time m_pause m_kind m_made m_all m_fromX m_fromY m_wayX m_wayY m_points m_centreX m_centreY m_there m_newMode m_newWay m_newFeed m_ends) :: e1 :: (o_mx a K mx) :: (o_my a K my) :: (o_mn a K mn) :: tl) → va_S A s.heap H locs → lv_has ls 6 [(0, .ref (a 10)), (2, .int x2), (3, .int x3)] → wq_M_act_179 Q m_x m_y m_there mn x2 x3 s1 m_mode m_feed m_relative m_pause m_kind m_made m_all m_fromX m_fromY m_wayX m_wayY m_points m_centreX m_centreY mx my → W p l e rm_M_act s m args below meth c H locs 0 0 QQ (F0 m 179 ls [.long s1, .ref (a 10)]) := by
    intro H locs ls x2 x3 s1 m_mode m_feed m_relative m_pause m_kind m_made m_all m_fromX m_fromY m_wayX m_wayY m_points m_centreX m_centreY mx my hP hD hS hl hw
    unfold wq_M_act_179 at hw
    refine u_M_pause hx hb hts hown hK hP hD hS 0 rfl rfl d_M_act_179 (fun H locs hP hD hS => ?_)
    have hP : va_P D cls ((o_M a m_length m_at m_lines m_x m_y m_mode m_feed m_state m_pulses m_last m_shown m_relative m_ending m_time s1 m_kind m_made m_all m_fromX m_fromY m_wayX m_wayY m_points m_centreX m_centreY m_there m_newMode m_newWay m_newFeed m_ends) :: e1 :: (o_mx a K mx) :: (o_my a K my) :: (o_mn a K mn) :: tl) H := hP
    have hD : va_D A ((o_M a m_length m_at m_lines m_x m_y m_mode m_feed m_state m_pulses m_last m_shown m_relative m_ending m_time s1 m_kind m_made m_all m_fromX m_fromY m_wayX m_wayY m_points m_centreX m_centreY m_there m_newMode m_newWay m_newFeed m_ends) :: e1 :: (o_mx a K mx) :: (o_my a K my) :: (o_mn a K mn) :: tl) := hD
    refine lv_aload_n hx hb d_M_act_182 rfl (lv_at hl 0 rfl) ?_
    refine g_M_mode hx hb hts hown hK hP 0 rfl rfl d_M_act_183 ?_
    refine lv_iconst (v := (2 : Int32)) hx hb d_M_act_186 (by decide) ?_
    refine lv_icmp_ge (tgt := 315) hx hb d_M_act_187 (by decide) (fun hc => ?_) (fun hc => ?_)
    · replace hw := hw.1 hc
      refine lv_aload_n hx hb d_M_act_315 rfl (lv_at hl 0 rfl) ?_
      refine g_M_there hx hb hts hown hK hP 0 rfl rfl d_M_act_316 ?_
      refine lv_iconst (v := (4 : Int32)) hx hb d_M_act_319 (by decide) ?_
      refine lv_iand hx hb d_M_act_320 ?_
      refine lv_if_eq (tgt := 333) hx hb d_M_act_321 (by decide) (fun hc => ?_) (fun hc => ?_)
      · replace hw := hw.1 hc
        refine lv_iconst (v := (0 : Int32)) hx hb d_M_act_333 (by decide) ?_
        exact J334 H locs ls x2 x3 (0 : Int32) m_mode m_feed m_relative s1 m_kind m_made m_all m_fromX m_fromY m_wayX m_wayY m_points m_centreX m_centreY mx my hP hD hS (lv_sub hl [0, 1, 2] rfl) hw
      · replace hw := hw.2 hc
        refine lv_aload_n hx hb d_M_act_324 rfl (lv_at hl 0 rfl) ?_
        refine g_M_number hx hb hts hown hK hP 0 rfl rfl d_M_act_325 ?_
        refine lv_iconst (v := (2 : Int32)) hx hb d_M_act_328 (by decide) ?_
        refine va_iald hx hb hK hP 4 8 rfl rfl hw.1 d_M_act_329 ?_
        replace hw := hw.2
        refine lv_goto (tgt := 334) hx hb d_M_act_330 (by decide) ?_
        exact J334 H locs ls x2 x3 (mn (2 : Int32).toNatClampNeg) m_mode m_feed m_relative s1 m_kind m_made m_all m_fromX m_fromY m_wayX m_wayY m_points m_centreX m_centreY mx my hP hD hS (lv_sub hl [0, 1, 2] rfl) hw
    · replace hw := hw.2 hc
      refine lv_iload_n hx hb d_M_act_190 rfl (lv_at hl 1 rfl) ?_
      refine my_calli (va_runS (As := [.int x2]) (rest := []) ⟨hx, hb, hml, hown, hts⟩ (c_M_inLimits l H.size) (cw_M_115 hts ⟨Nat.le_of_ble_eq_true rfl, Nat.le_of_ble_eq_true rfl⟩) (my_preS hK hP hX hD hS hA hw) rfl rfl hl.1 rfl (lv_room (Nat.le_of_ble_eq_true rfl)) d_M_act_191 ⟨Nat.le_refl _, Nat.le_refl _⟩) hD hS hA (fun r191 _ H locs hw hP hD hS => ?_)
      have hP : va_P D cls ((o_M a m_length m_at m_lines m_x m_y m_mode m_feed m_state m_pulses m_last m_shown m_relative m_ending m_time s1 m_kind m_made m_all m_fromX m_fromY m_wayX m_wayY m_points m_centreX m_centreY m_there m_newMode m_newWay m_newFeed m_ends) :: e1 :: (o_mx a K mx) :: (o_my a K my) :: (o_mn a K mn) :: tl) H := hP
      have hD : va_D A ((o_M a m_length m_at m_lines m_x m_y m_mode m_feed m_state m_pulses m_last m_shown m_relative m_ending m_time s1 m_kind m_made m_all m_fromX m_fromY m_wayX m_wayY m_points m_centreX m_centreY m_there m_newMode m_newWay m_newFeed m_ends) :: e1 :: (o_mx a K mx) :: (o_my a K my) :: (o_mn a K mn) :: tl) := hD
      refine lv_if_eq (tgt := 204) hx hb d_M_act_194 (by decide) (fun hc => ?_) (fun hc => ?_)
      · replace hw := hw.1 hc
        refine lv_bipush (v := (107 : Int32)) hx hb d_M_act_204 (by decide) ?_
        exact hret H locs ls 206 ((107 : Int32)) ((m_mode, m_feed, m_relative, s1, m_kind, m_made, m_all, m_fromX, m_fromY, m_wayX, m_wayY, m_points, m_centreX, m_centreY, mx, my)) d_M_act_206 hP hD hS hw
      · replace hw := hw.2 hc
        refine lv_iload_n hx hb d_M_act_197 rfl (lv_at hl 2 rfl) ?_
        refine my_calli (va_runS (As := [.int x3]) (rest := []) ⟨hx, hb, hml, hown, hts⟩ (c_M_inLimits l H.size) (cw_M_115 hts ⟨Nat.le_of_ble_eq_true rfl, Nat.le_of_ble_eq_true rfl⟩) (my_preS hK hP hX hD hS hA hw) rfl rfl hl.1 rfl (lv_room (Nat.le_of_ble_eq_true rfl)) d_M_act_198 ⟨Nat.le_refl _, Nat.le_refl _⟩) hD hS hA (fun r198 _ H locs hw hP hD hS => ?_)
        have hP : va_P D cls ((o_M a m_length m_at m_lines m_x m_y m_mode m_feed m_state m_pulses m_last m_shown m_relative m_ending m_time s1 m_kind m_made m_all m_fromX m_fromY m_wayX m_wayY m_points m_centreX m_centreY m_there m_newMode m_newWay m_newFeed m_ends) :: e1 :: (o_mx a K mx) :: (o_my a K my) :: (o_mn a K mn) :: tl) H := hP
        have hD : va_D A ((o_M a m_length m_at m_lines m_x m_y m_mode m_feed m_state m_pulses m_last m_shown m_relative m_ending m_time s1 m_kind m_made m_all m_fromX m_fromY m_wayX m_wayY m_points m_centreX m_centreY m_there m_newMode m_newWay m_newFeed m_ends) :: e1 :: (o_mx a K mx) :: (o_my a K my) :: (o_mn a K mn) :: tl) := hD
        refine lv_if_ne (tgt := 207) hx hb d_M_act_201 (by decide) (fun hc => ?_) (fun hc => ?_)
        · replace hw := hw.1 hc
          refine lv_aload_n hx hb d_M_act_207 rfl (lv_at hl 0 rfl) ?_
          refine lv_iconst (v := (0 : Int32)) hx hb d_M_act_208 (by decide) ?_
          refine u_M_kind hx hb hts hown hK hP hD hS 0 rfl rfl d_M_act_209 (fun H locs hP hD hS => ?_)
          have hP : va_P D cls ((o_M a m_length m_at m_lines m_x m_y m_mode m_feed m_state m_pulses m_last m_shown m_relative m_ending m_time s1 (0 : Int32) m_made m_all m_fromX m_fromY m_wayX m_wayY m_points m_centreX m_centreY m_there m_newMode m_newWay m_newFeed m_ends) :: e1 :: (o_mx a K mx) :: (o_my a K my) :: (o_mn a K mn) :: tl) H := hP
          have hD : va_D A ((o_M a m_length m_at m_lines m_x m_y m_mode m_feed m_state m_pulses m_last m_shown m_relative m_ending m_time s1 (0 : Int32) m_made m_all m_fromX m_fromY m_wayX m_wayY m_points m_centreX m_centreY m_there m_newMode m_newWay m_newFeed m_ends) :: e1 :: (o_mx a K mx) :: (o_my a K my) :: (o_mn a K mn) :: tl) := hD
          refine lv_aload_n hx hb d_M_act_212 rfl (lv_at hl 0 rfl) ?_
          refine lv_aload_n hx hb d_M_act_213 rfl (lv_at hl 0 rfl) ?_
          refine g_M_x hx hb hts hown hK hP 0 rfl rfl d_M_act_214 ?_
          refine u_M_fromX hx hb hts hown hK hP hD hS 0 rfl rfl d_M_act_217 (fun H locs hP hD hS => ?_)
          have hP : va_P D cls ((o_M a m_length m_at m_lines m_x m_y m_mode m_feed m_state m_pulses m_last m_shown m_relative m_ending m_time s1 (0 : Int32) m_made m_all m_x m_fromY m_wayX m_wayY m_points m_centreX m_centreY m_there m_newMode m_newWay m_newFeed m_ends) :: e1 :: (o_mx a K mx) :: (o_my a K my) :: (o_mn a K mn) :: tl) H := hP
          have hD : va_D A ((o_M a m_length m_at m_lines m_x m_y m_mode m_feed m_state m_pulses m_last m_shown m_relative m_ending m_time s1 (0 : Int32) m_made m_all m_x m_fromY m_wayX m_wayY m_points m_centreX m_centreY m_there m_newMode m_newWay m_newFeed m_ends) :: e1 :: (o_mx a K mx) :: (o_my a K my) :: (o_mn a K mn) :: tl) := hD
          refine lv_aload_n hx hb d_M_act_220 rfl (lv_at hl 0 rfl) ?_
          refine lv_aload_n hx hb d_M_act_221 rfl (lv_at hl 0 rfl) ?_
          refine g_M_y hx hb hts hown hK hP 0 rfl rfl d_M_act_222 ?_
          refine u_M_fromY hx hb hts hown hK hP hD hS 0 rfl rfl d_M_act_225 (fun H locs hP hD hS => ?_)
          have hP : va_P D cls ((o_M a m_length m_at m_lines m_x m_y m_mode m_feed m_state m_pulses m_last m_shown m_relative m_ending m_time s1 (0 : Int32) m_made m_all m_x m_y m_wayX m_wayY m_points m_centreX m_centreY m_there m_newMode m_newWay m_newFeed m_ends) :: e1 :: (o_mx a K mx) :: (o_my a K my) :: (o_mn a K mn) :: tl) H := hP
          have hD : va_D A ((o_M a m_length m_at m_lines m_x m_y m_mode m_feed m_state m_pulses m_last m_shown m_relative m_ending m_time s1 (0 : Int32) m_made m_all m_x m_y m_wayX m_wayY m_points m_centreX m_centreY m_there m_newMode m_newWay m_newFeed m_ends) :: e1 :: (o_mx a K mx) :: (o_my a K my) :: (o_mn a K mn) :: tl) := hD
          refine lv_aload_n hx hb d_M_act_228 rfl (lv_at hl 0 rfl) ?_
          refine lv_iload_n hx hb d_M_act_229 rfl (lv_at hl 1 rfl) ?_
          refine lv_aload_n hx hb d_M_act_230 rfl (lv_at hl 0 rfl) ?_
          refine g_M_x hx hb hts hown hK hP 0 rfl rfl d_M_act_231 ?_
          refine lv_isub hx hb d_M_act_234 ?_
          refine u_M_wayX hx hb hts hown hK hP hD hS 0 rfl rfl d_M_act_235 (fun H locs hP hD hS => ?_)
          have hP : va_P D cls ((o_M a m_length m_at m_lines m_x m_y m_mode m_feed m_state m_pulses m_last m_shown m_relative m_ending m_time s1 (0 : Int32) m_made m_all m_x m_y (x2 - m_x) m_wayY m_points m_centreX m_centreY m_there m_newMode m_newWay m_newFeed m_ends) :: e1 :: (o_mx a K mx) :: (o_my a K my) :: (o_mn a K mn) :: tl) H := hP
          have hD : va_D A ((o_M a m_length m_at m_lines m_x m_y m_mode m_feed m_state m_pulses m_last m_shown m_relative m_ending m_time s1 (0 : Int32) m_made m_all m_x m_y (x2 - m_x) m_wayY m_points m_centreX m_centreY m_there m_newMode m_newWay m_newFeed m_ends) :: e1 :: (o_mx a K mx) :: (o_my a K my) :: (o_mn a K mn) :: tl) := hD
          refine lv_aload_n hx hb d_M_act_238 rfl (lv_at hl 0 rfl) ?_
          refine lv_iload_n hx hb d_M_act_239 rfl (lv_at hl 2 rfl) ?_
          refine lv_aload_n hx hb d_M_act_240 rfl (lv_at hl 0 rfl) ?_
          refine g_M_y hx hb hts hown hK hP 0 rfl rfl d_M_act_241 ?_
          refine lv_isub hx hb d_M_act_244 ?_
          refine u_M_wayY hx hb hts hown hK hP hD hS 0 rfl rfl d_M_act_245 (fun H locs hP hD hS => ?_)
          have hP : va_P D cls ((o_M a m_length m_at m_lines m_x m_y m_mode m_feed m_state m_pulses m_last m_shown m_relative m_ending m_time s1 (0 : Int32) m_made m_all m_x m_y (x2 - m_x) (x3 - m_y) m_points m_centreX m_centreY m_there m_newMode m_newWay m_newFeed m_ends) :: e1 :: (o_mx a K mx) :: (o_my a K my) :: (o_mn a K mn) :: tl) H := hP
          have hD : va_D A ((o_M a m_length m_at m_lines m_x m_y m_mode m_feed m_state m_pulses m_last m_shown m_relative m_ending m_time s1 (0 : Int32) m_made m_all m_x m_y (x2 - m_x) (x3 - m_y) m_points m_centreX m_centreY m_there m_newMode m_newWay m_newFeed m_ends) :: e1 :: (o_mx a K mx) :: (o_my a K my) :: (o_mn a K mn) :: tl) := hD
          refine lv_aload_n hx hb d_M_act_248 rfl (lv_at hl 0 rfl) ?_
          refine g_M_wayX hx hb hts hown hK hP 0 rfl rfl d_M_act_249 ?_
          refine lv_if_ge (tgt := 263) hx hb d_M_act_252 (by decide) (fun hc => ?_) (fun hc => ?_)
          · replace hw := hw.1 hc
            refine lv_aload_n hx hb d_M_act_263 rfl (lv_at hl 0 rfl) ?_
            refine g_M_wayX hx hb hts hown hK hP 0 rfl rfl d_M_act_264 ?_
            exact J267 H locs ls (x2 - m_x) m_mode m_feed m_relative s1 (0 : Int32) m_made m_all m_x m_y (x2 - m_x) (x3 - m_y) m_points m_centreX m_centreY mx my hP hD hS (lv_sub hl [0] rfl) hw
          · replace hw := hw.2 hc
            refine lv_aload_n hx hb d_M_act_255 rfl (lv_at hl 0 rfl) ?_
            refine g_M_wayX hx hb hts hown hK hP 0 rfl rfl d_M_act_256 ?_
            refine lv_ineg hx hb d_M_act_259 ?_
            refine lv_goto (tgt := 267) hx hb d_M_act_260 (by decide) ?_
            exact J267 H locs ls (-(x2 - m_x)) m_mode m_feed m_relative s1 (0 : Int32) m_made m_all m_x m_y (x2 - m_x) (x3 - m_y) m_points m_centreX m_centreY mx my hP hD hS (lv_sub hl [0] rfl) hw
        · replace hw := hw.2 hc
          refine lv_bipush (v := (107 : Int32)) hx hb d_M_act_204 (by decide) ?_
          exact hret H locs ls 206 ((107 : Int32)) ((m_mode, m_feed, m_relative, s1, m_kind, m_made, m_all, m_fromX, m_fromY, m_wayX, m_wayY, m_points, m_centreX, m_centreY, mx, my)) d_M_act_206 hP hD hS hw
  have J130 : ∀ (H : Heap) (locs : List Loc) (ls : Array Slot) (m_mode m_feed m_relative : Int32) (m_pause : Int64) (m_kind m_made m_all m_fromX m_fromY m_wayX m_wayY m_points m_centreX m_centreY : Int32) (mx my : Nat → Int32), va_P D cls ((o_M a m_length m_at m_lines m_x m_y m_mode m_feed m_state m_pulses m_last m_shown m_relative m_ending m_time m_pause m_kind m_made m_all m_fromX m_fromY m_wayX m_wayY m_points m_centreX m_centreY m_there m_newMode m_newWay m_newFeed m_ends) :: e1 :: (o_mx a K mx) :: (o_my a K my) :: (o_mn a K mn) :: tl) H → va_D A ((o_M a m_length m_at m_lines m_x m_y m_mode m_feed m_state m_pulses m_last m_shown m_relative m_ending m_time m_pause m_kind m_made m_all m_fromX m_fromY m_wayX m_wayY m_points m_centreX m_centreY m_there m_newMode m_newWay m_newFeed m_ends) :: e1 :: (o_mx a K mx) :: (o_my a K my) :: (o_mn a K mn) :: tl) → va_S A s.heap H locs → lv_has ls 6 [(0, .ref (a 10))] → wq_M_act_130 Q m_x m_y m_there mn m_mode m_feed m_relative m_pause m_kind m_made m_all m_fromX m_fromY m_wayX m_wayY m_points m_centreX m_centreY mx my → W p l e rm_M_act s m args below meth c H locs 0 0 QQ (F0 m 130 ls []) := by
    intro H locs ls m_mode m_feed m_relative m_pause m_kind m_made m_all m_fromX m_fromY m_wayX m_wayY m_points m_centreX m_centreY mx my hP hD hS hl hw
    unfold wq_M_act_130 at hw
    refine lv_aload_n hx hb d_M_act_130 rfl (lv_at hl 0 rfl) ?_
    refine lv_iconst (v := (0 : Int32)) hx hb d_M_act_131 (by decide) ?_
    refine lv_aload_n hx hb d_M_act_132 rfl (lv_at hl 0 rfl) ?_
    refine g_M_x hx hb hts hown hK hP 0 rfl rfl d_M_act_133 ?_
    refine my_calli (va_runV (As := [.int (0 : Int32), .int m_x]) (rest := []) ⟨hx, hb, hml, hown, hts⟩ (c_M_goal l H.size) (cw_M_106 hts ⟨Nat.le_of_ble_eq_true rfl, Nat.le_of_ble_eq_true rfl⟩) (my_preV hK hP hX hD hS hA 0 rfl rfl hw) rfl rfl hl.1 rfl (lv_room (Nat.le_of_ble_eq_true rfl)) d_M_act_136 ⟨Nat.le_refl _, Nat.le_refl _⟩) hD hS hA (fun r136 _ H locs hw hP hD hS => ?_)
    have hP : va_P D cls ((o_M a m_length m_at m_lines m_x m_y m_mode m_feed m_state m_pulses m_last m_shown m_relative m_ending m_time m_pause m_kind m_made m_all m_fromX m_fromY m_wayX m_wayY m_points m_centreX m_centreY m_there m_newMode m_newWay m_newFeed m_ends) :: e1 :: (o_mx a K mx) :: (o_my a K my) :: (o_mn a K mn) :: tl) H := hP
    have hD : va_D A ((o_M a m_length m_at m_lines m_x m_y m_mode m_feed m_state m_pulses m_last m_shown m_relative m_ending m_time m_pause m_kind m_made m_all m_fromX m_fromY m_wayX m_wayY m_points m_centreX m_centreY m_there m_newMode m_newWay m_newFeed m_ends) :: e1 :: (o_mx a K mx) :: (o_my a K my) :: (o_mn a K mn) :: tl) := hD
    refine lv_istore_n (lv' := [(2, .int r136), (0, .ref (a 10))]) hx hb d_M_act_139 rfl hl (Nat.le_of_ble_eq_true rfl) rfl (fun ls hl => ?_)
    refine lv_aload_n hx hb d_M_act_140 rfl (lv_at hl 1 rfl) ?_
    refine lv_iconst (v := (1 : Int32)) hx hb d_M_act_141 (by decide) ?_
    refine lv_aload_n hx hb d_M_act_142 rfl (lv_at hl 1 rfl) ?_
    refine g_M_y hx hb hts hown hK hP 0 rfl rfl d_M_act_143 ?_
    refine my_calli (va_runV (As := [.int (1 : Int32), .int m_y]) (rest := []) ⟨hx, hb, hml, hown, hts⟩ (c_M_goal l H.size) (cw_M_106 hts ⟨Nat.le_of_ble_eq_true rfl, Nat.le_of_ble_eq_true rfl⟩) (my_preV hK hP hX hD hS hA 0 rfl rfl hw) rfl rfl hl.1 rfl (lv_room (Nat.le_of_ble_eq_true rfl)) d_M_act_146 ⟨Nat.le_refl _, Nat.le_refl _⟩) hD hS hA (fun r146 _ H locs hw hP hD hS => ?_)
    have hP : va_P D cls ((o_M a m_length m_at m_lines m_x m_y m_mode m_feed m_state m_pulses m_last m_shown m_relative m_ending m_time m_pause m_kind m_made m_all m_fromX m_fromY m_wayX m_wayY m_points m_centreX m_centreY m_there m_newMode m_newWay m_newFeed m_ends) :: e1 :: (o_mx a K mx) :: (o_my a K my) :: (o_mn a K mn) :: tl) H := hP
    have hD : va_D A ((o_M a m_length m_at m_lines m_x m_y m_mode m_feed m_state m_pulses m_last m_shown m_relative m_ending m_time m_pause m_kind m_made m_all m_fromX m_fromY m_wayX m_wayY m_points m_centreX m_centreY m_there m_newMode m_newWay m_newFeed m_ends) :: e1 :: (o_mx a K mx) :: (o_my a K my) :: (o_mn a K mn) :: tl) := hD
    refine lv_istore_n (lv' := [(3, .int r146), (2, .int r136), (0, .ref (a 10))]) hx hb d_M_act_149 rfl hl (Nat.le_of_ble_eq_true rfl) rfl (fun ls hl => ?_)
    refine lv_aload_n hx hb d_M_act_150 rfl (lv_at hl 2 rfl) ?_
    refine lv_aload_n hx hb d_M_act_151 rfl (lv_at hl 2 rfl) ?_
    refine g_M_mode hx hb hts hown hK hP 0 rfl rfl d_M_act_152 ?_
    refine lv_if_ne (tgt := 164) hx hb d_M_act_155 (by decide) (fun hc => ?_) (fun hc => ?_)
    · replace hw := hw.1 hc
      refine lv_ldc (v := (1000000 : Int32)) hx hb hown (hts _ k_M_111) d_M_act_164 ?_
      refine lv_aload_n hx hb d_M_act_166 rfl (lv_at hl 2 rfl) ?_
      refine g_M_feed hx hb hts hown hK hP 0 rfl rfl d_M_act_167 ?_
      refine lv_iadd hx hb d_M_act_170 ?_
      refine lv_iconst (v := (1 : Int32)) hx hb d_M_act_171 (by decide) ?_
      refine lv_isub hx hb d_M_act_172 ?_
      refine lv_aload_n hx hb d_M_act_173 rfl (lv_at hl 2 rfl) ?_
      refine g_M_feed hx hb hts hown hK hP 0 rfl rfl d_M_act_174 ?_
      refine lv_idiv hx hb d_M_act_177 hw.1 ?_
      replace hw := hw.2
      refine lv_i2l (v := ((((1000000 : Int32) + m_feed) - (1 : Int32)) / m_feed).toInt64) hx hb d_M_act_178 rfl ?_
      exact J179 H locs ls r136 r146 (((((1000000 : Int32) + m_feed) - (1 : Int32)) / m_feed).toInt64) m_mode m_feed m_relative m_pause m_kind m_made m_all m_fromX m_fromY m_wayX m_wayY m_points m_centreX m_centreY mx my hP hD hS (lv_sub hl [2, 1, 0] rfl) hw
    · replace hw := hw.2 hc
      refine lv_ldc2 (v := (100 : Int64)) hx hb hown (hts _ k_M_109) d_M_act_158 ?_
      refine lv_goto (tgt := 179) hx hb d_M_act_161 (by decide) ?_
      exact J179 H locs ls r136 r146 (100 : Int64) m_mode m_feed m_relative m_pause m_kind m_made m_all m_fromX m_fromY m_wayX m_wayY m_points m_centreX m_centreY mx my hP hD hS (lv_sub hl [2, 1, 0] rfl) hw
  have J104 : ∀ (H : Heap) (locs : List Loc) (ls : Array Slot) (m_mode m_feed m_relative : Int32) (m_pause : Int64) (m_kind m_made m_all m_fromX m_fromY m_wayX m_wayY m_points m_centreX m_centreY : Int32) (mx my : Nat → Int32), va_P D cls ((o_M a m_length m_at m_lines m_x m_y m_mode m_feed m_state m_pulses m_last m_shown m_relative m_ending m_time m_pause m_kind m_made m_all m_fromX m_fromY m_wayX m_wayY m_points m_centreX m_centreY m_there m_newMode m_newWay m_newFeed m_ends) :: e1 :: (o_mx a K mx) :: (o_my a K my) :: (o_mn a K mn) :: tl) H → va_D A ((o_M a m_length m_at m_lines m_x m_y m_mode m_feed m_state m_pulses m_last m_shown m_relative m_ending m_time m_pause m_kind m_made m_all m_fromX m_fromY m_wayX m_wayY m_points m_centreX m_centreY m_there m_newMode m_newWay m_newFeed m_ends) :: e1 :: (o_mx a K mx) :: (o_my a K my) :: (o_mn a K mn) :: tl) → va_S A s.heap H locs → lv_has ls 6 [(0, .ref (a 10))] → wq_M_act_104 Q m_x m_y m_there mn m_mode m_feed m_relative m_pause m_kind m_made m_all m_fromX m_fromY m_wayX m_wayY m_points m_centreX m_centreY mx my → W p l e rm_M_act s m args below meth c H locs 0 0 QQ (F0 m 104 ls []) := by
    intro H locs ls m_mode m_feed m_relative m_pause m_kind m_made m_all m_fromX m_fromY m_wayX m_wayY m_points m_centreX m_centreY mx my hP hD hS hl hw
    unfold wq_M_act_104 at hw
    refine lv_aload_n hx hb d_M_act_104 rfl (lv_at hl 0 rfl) ?_
    refine g_M_there hx hb hts hown hK hP 0 rfl rfl d_M_act_105 ?_
    refine lv_if_ne (tgt := 113) hx hb d_M_act_108 (by decide) (fun hc => ?_) (fun hc => ?_)
    · replace hw := hw.1 hc
      refine lv_aload_n hx hb d_M_act_113 rfl (lv_at hl 0 rfl) ?_
      refine g_M_mode hx hb hts hown hK hP 0 rfl rfl d_M_act_114 ?_
      refine lv_if_eq (tgt := 130) hx hb d_M_act_117 (by decide) (fun hc => ?_) (fun hc => ?_)
      · replace hw := hw.1 hc
        exact J130 H locs ls m_mode m_feed m_relative m_pause m_kind m_made m_all m_fromX m_fromY m_wayX m_wayY m_points m_centreX m_centreY mx my hP hD hS (lv_sub hl [0] rfl) hw
      · replace hw := hw.2 hc
        refine lv_aload_n hx hb d_M_act_120 rfl (lv_at hl 0 rfl) ?_
        refine g_M_feed hx hb hts hown hK hP 0 rfl rfl d_M_act_121 ?_
        refine lv_if_ne (tgt := 130) hx hb d_M_act_124 (by decide) (fun hc => ?_) (fun hc => ?_)
        · replace hw := hw.1 hc
          exact J130 H locs ls m_mode m_feed m_relative m_pause m_kind m_made m_all m_fromX m_fromY m_wayX m_wayY m_points m_centreX m_centreY mx my hP hD hS (lv_sub hl [0] rfl) hw
        · replace hw := hw.2 hc
          refine lv_bipush (v := (105 : Int32)) hx hb d_M_act_127 (by decide) ?_
          exact hret H locs ls 129 ((105 : Int32)) ((m_mode, m_feed, m_relative, m_pause, m_kind, m_made, m_all, m_fromX, m_fromY, m_wayX, m_wayY, m_points, m_centreX, m_centreY, mx, my)) d_M_act_129 hP hD hS hw
    · replace hw := hw.2 hc
      refine lv_iconst (v := (0 : Int32)) hx hb d_M_act_111 (by decide) ?_
      exact hret H locs ls 112 ((0 : Int32)) ((m_mode, m_feed, m_relative, m_pause, m_kind, m_made, m_all, m_fromX, m_fromY, m_wayX, m_wayY, m_points, m_centreX, m_centreY, mx, my)) d_M_act_112 hP hD hS hw
  have J82 : ∀ (H : Heap) (locs : List Loc) (ls : Array Slot) (x1 m_mode m_feed m_relative : Int32) (m_pause : Int64) (m_kind m_made m_all m_fromX m_fromY m_wayX m_wayY m_points m_centreX m_centreY : Int32) (mx my : Nat → Int32), va_P D cls ((o_M a m_length m_at m_lines m_x m_y m_mode m_feed m_state m_pulses m_last m_shown m_relative m_ending m_time m_pause m_kind m_made m_all m_fromX m_fromY m_wayX m_wayY m_points m_centreX m_centreY m_there m_newMode m_newWay m_newFeed m_ends) :: e1 :: (o_mx a K mx) :: (o_my a K my) :: (o_mn a K mn) :: tl) H → va_D A ((o_M a m_length m_at m_lines m_x m_y m_mode m_feed m_state m_pulses m_last m_shown m_relative m_ending m_time m_pause m_kind m_made m_all m_fromX m_fromY m_wayX m_wayY m_points m_centreX m_centreY m_there m_newMode m_newWay m_newFeed m_ends) :: e1 :: (o_mx a K mx) :: (o_my a K my) :: (o_mn a K mn) :: tl) → va_S A s.heap H locs → lv_has ls 6 [(0, .ref (a 10)), (1, .int x1)] → wq_M_act_82 Q m_x m_y m_there mn x1 m_mode m_feed m_relative m_pause m_kind m_made m_all m_fromX m_fromY m_wayX m_wayY m_points m_centreX m_centreY mx my → W p l e rm_M_act s m args below meth c H locs 0 0 QQ (F0 m 82 ls []) := by
    intro H locs ls x1 m_mode m_feed m_relative m_pause m_kind m_made m_all m_fromX m_fromY m_wayX m_wayY m_points m_centreX m_centreY mx my hP hD hS hl hw
    unfold wq_M_act_82 at hw
    refine lv_iload_n hx hb d_M_act_82 rfl (lv_at hl 1 rfl) ?_
    refine lv_if_ne (tgt := 104) hx hb d_M_act_83 (by decide) (fun hc => ?_) (fun hc => ?_)
    · replace hw := hw.1 hc
      exact J104 H locs ls m_mode m_feed m_relative m_pause m_kind m_made m_all m_fromX m_fromY m_wayX m_wayY m_points m_centreX m_centreY mx my hP hD hS (lv_sub hl [0] rfl) hw
    · replace hw := hw.2 hc
      refine lv_aload_n hx hb d_M_act_86 rfl (lv_at hl 0 rfl) ?_
      refine g_M_there hx hb hts hown hK hP 0 rfl rfl d_M_act_87 ?_
      refine lv_if_eq (tgt := 104) hx hb d_M_act_90 (by decide) (fun hc => ?_) (fun hc => ?_)
      · replace hw := hw.1 hc
        exact J104 H locs ls m_mode m_feed m_relative m_pause m_kind m_made m_all m_fromX m_fromY m_wayX m_wayY m_points m_centreX m_centreY mx my hP hD hS (lv_sub hl [0] rfl) hw
      · replace hw := hw.2 hc
        refine lv_aload_n hx hb d_M_act_93 rfl (lv_at hl 0 rfl) ?_
        refine g_M_mode hx hb hts hown hK hP 0 rfl rfl d_M_act_94 ?_
        refine lv_iconst (v := (1 : Int32)) hx hb d_M_act_97 (by decide) ?_
        refine lv_icmp_le (tgt := 104) hx hb d_M_act_98 (by decide) (fun hc => ?_) (fun hc => ?_)
        · replace hw := hw.1 hc
          exact J104 H locs ls m_mode m_feed m_relative m_pause m_kind m_made m_all m_fromX m_fromY m_wayX m_wayY m_points m_centreX m_centreY mx my hP hD hS (lv_sub hl [0] rfl) hw
        · replace hw := hw.2 hc
          refine lv_bipush (v := (104 : Int32)) hx hb d_M_act_101 (by decide) ?_
          exact hret H locs ls 103 ((104 : Int32)) ((m_mode, m_feed, m_relative, m_pause, m_kind, m_made, m_all, m_fromX, m_fromY, m_wayX, m_wayY, m_points, m_centreX, m_centreY, mx, my)) d_M_act_103 hP hD hS hw
  have J69 : ∀ (H : Heap) (locs : List Loc) (ls : Array Slot) (s0 m_mode m_feed m_relative : Int32) (m_pause : Int64) (m_kind m_made m_all m_fromX m_fromY m_wayX m_wayY m_points m_centreX m_centreY : Int32) (mx my : Nat → Int32), va_P D cls ((o_M a m_length m_at m_lines m_x m_y m_mode m_feed m_state m_pulses m_last m_shown m_relative m_ending m_time m_pause m_kind m_made m_all m_fromX m_fromY m_wayX m_wayY m_points m_centreX m_centreY m_there m_newMode m_newWay m_newFeed m_ends) :: e1 :: (o_mx a K mx) :: (o_my a K my) :: (o_mn a K mn) :: tl) H → va_D A ((o_M a m_length m_at m_lines m_x m_y m_mode m_feed m_state m_pulses m_last m_shown m_relative m_ending m_time m_pause m_kind m_made m_all m_fromX m_fromY m_wayX m_wayY m_points m_centreX m_centreY m_there m_newMode m_newWay m_newFeed m_ends) :: e1 :: (o_mx a K mx) :: (o_my a K my) :: (o_mn a K mn) :: tl) → va_S A s.heap H locs → lv_has ls 6 [(0, .ref (a 10))] → wq_M_act_69 Q m_x m_y m_there mn s0 m_mode m_feed m_relative m_pause m_kind m_made m_all m_fromX m_fromY m_wayX m_wayY m_points m_centreX m_centreY mx my → W p l e rm_M_act s m args below meth c H locs 0 0 QQ (F0 m 69 ls [.int s0]) := by
    intro H locs ls s0 m_mode m_feed m_relative m_pause m_kind m_made m_all m_fromX m_fromY m_wayX m_wayY m_points m_centreX m_centreY mx my hP hD hS hl hw
    unfold wq_M_act_69 at hw
    refine lv_istore_n (lv' := [(1, .int s0), (0, .ref (a 10))]) hx hb d_M_act_69 rfl hl (Nat.le_of_ble_eq_true rfl) rfl (fun ls hl => ?_)
    refine lv_iload_n hx hb d_M_act_70 rfl (lv_at hl 0 rfl) ?_
    refine lv_if_eq (tgt := 82) hx hb d_M_act_71 (by decide) (fun hc => ?_) (fun hc => ?_)
    · replace hw := hw.1 hc
      exact J82 H locs ls s0 m_mode m_feed m_relative m_pause m_kind m_made m_all m_fromX m_fromY m_wayX m_wayY m_points m_centreX m_centreY mx my hP hD hS (lv_sub hl [1, 0] rfl) hw
    · replace hw := hw.2 hc
      refine lv_aload_n hx hb d_M_act_74 rfl (lv_at hl 1 rfl) ?_
      refine g_M_mode hx hb hts hown hK hP 0 rfl rfl d_M_act_75 ?_
      refine lv_iconst (v := (2 : Int32)) hx hb d_M_act_78 (by decide) ?_
      refine lv_icmp_lt (tgt := 101) hx hb d_M_act_79 (by decide) (fun hc => ?_) (fun hc => ?_)
      · replace hw := hw.1 hc
        refine lv_bipush (v := (104 : Int32)) hx hb d_M_act_101 (by decide) ?_
        exact hret H locs ls 103 ((104 : Int32)) ((m_mode, m_feed, m_relative, m_pause, m_kind, m_made, m_all, m_fromX, m_fromY, m_wayX, m_wayY, m_points, m_centreX, m_centreY, mx, my)) d_M_act_103 hP hD hS hw
      · replace hw := hw.2 hc
        exact J82 H locs ls s0 m_mode m_feed m_relative m_pause m_kind m_made m_all m_fromX m_fromY m_wayX m_wayY m_points m_centreX m_centreY mx my hP hD hS (lv_sub hl [1, 0] rfl) hw
  have J54 : ∀ (H : Heap) (locs : List Loc) (ls : Array Slot) (m_mode m_feed m_relative : Int32) (m_pause : Int64) (m_kind m_made m_all m_fromX m_fromY m_wayX m_wayY m_points m_centreX m_centreY : Int32) (mx my : Nat → Int32), va_P D cls ((o_M a m_length m_at m_lines m_x m_y m_mode m_feed m_state m_pulses m_last m_shown m_relative m_ending m_time m_pause m_kind m_made m_all m_fromX m_fromY m_wayX m_wayY m_points m_centreX m_centreY m_there m_newMode m_newWay m_newFeed m_ends) :: e1 :: (o_mx a K mx) :: (o_my a K my) :: (o_mn a K mn) :: tl) H → va_D A ((o_M a m_length m_at m_lines m_x m_y m_mode m_feed m_state m_pulses m_last m_shown m_relative m_ending m_time m_pause m_kind m_made m_all m_fromX m_fromY m_wayX m_wayY m_points m_centreX m_centreY m_there m_newMode m_newWay m_newFeed m_ends) :: e1 :: (o_mx a K mx) :: (o_my a K my) :: (o_mn a K mn) :: tl) → va_S A s.heap H locs → lv_has ls 6 [(0, .ref (a 10))] → wq_M_act_54 Q m_x m_y m_there mn m_mode m_feed m_relative m_pause m_kind m_made m_all m_fromX m_fromY m_wayX m_wayY m_points m_centreX m_centreY mx my → W p l e rm_M_act s m args below meth c H locs 0 0 QQ (F0 m 54 ls []) := by
    intro H locs ls m_mode m_feed m_relative m_pause m_kind m_made m_all m_fromX m_fromY m_wayX m_wayY m_points m_centreX m_centreY mx my hP hD hS hl hw
    unfold wq_M_act_54 at hw
    refine lv_aload_n hx hb d_M_act_54 rfl (lv_at hl 0 rfl) ?_
    refine g_M_there hx hb hts hown hK hP 0 rfl rfl d_M_act_55 ?_
    refine lv_bipush (v := (12 : Int32)) hx hb d_M_act_58 (by decide) ?_
    refine lv_iand hx hb d_M_act_60 ?_
    refine lv_if_eq (tgt := 68) hx hb d_M_act_61 (by decide) (fun hc => ?_) (fun hc => ?_)
    · replace hw := hw.1 hc
      refine lv_iconst (v := (0 : Int32)) hx hb d_M_act_68 (by decide) ?_
      exact J69 H locs ls (0 : Int32) m_mode m_feed m_relative m_pause m_kind m_made m_all m_fromX m_fromY m_wayX m_wayY m_points m_centreX m_centreY mx my hP hD hS (lv_sub hl [0] rfl) hw
    · replace hw := hw.2 hc
      refine lv_iconst (v := (1 : Int32)) hx hb d_M_act_64 (by decide) ?_
      refine lv_goto (tgt := 69) hx hb d_M_act_65 (by decide) ?_
      exact J69 H locs ls (1 : Int32) m_mode m_feed m_relative m_pause m_kind m_made m_all m_fromX m_fromY m_wayX m_wayY m_points m_centreX m_centreY mx my hP hD hS (lv_sub hl [0] rfl) hw
  have J39 : ∀ (H : Heap) (locs : List Loc) (ls : Array Slot) (m_mode m_feed m_relative : Int32) (m_pause : Int64) (m_kind m_made m_all m_fromX m_fromY m_wayX m_wayY m_points m_centreX m_centreY : Int32) (mx my : Nat → Int32), va_P D cls ((o_M a m_length m_at m_lines m_x m_y m_mode m_feed m_state m_pulses m_last m_shown m_relative m_ending m_time m_pause m_kind m_made m_all m_fromX m_fromY m_wayX m_wayY m_points m_centreX m_centreY m_there m_newMode m_newWay m_newFeed m_ends) :: e1 :: (o_mx a K mx) :: (o_my a K my) :: (o_mn a K mn) :: tl) H → va_D A ((o_M a m_length m_at m_lines m_x m_y m_mode m_feed m_state m_pulses m_last m_shown m_relative m_ending m_time m_pause m_kind m_made m_all m_fromX m_fromY m_wayX m_wayY m_points m_centreX m_centreY m_there m_newMode m_newWay m_newFeed m_ends) :: e1 :: (o_mx a K mx) :: (o_my a K my) :: (o_mn a K mn) :: tl) → va_S A s.heap H locs → lv_has ls 6 [(0, .ref (a 10))] → wq_M_act_39 Q m_x m_y m_there m_newMode mn m_mode m_feed m_relative m_pause m_kind m_made m_all m_fromX m_fromY m_wayX m_wayY m_points m_centreX m_centreY mx my → W p l e rm_M_act s m args below meth c H locs 0 0 QQ (F0 m 39 ls []) := by
    intro H locs ls m_mode m_feed m_relative m_pause m_kind m_made m_all m_fromX m_fromY m_wayX m_wayY m_points m_centreX m_centreY mx my hP hD hS hl hw
    unfold wq_M_act_39 at hw
    refine lv_aload_n hx hb d_M_act_39 rfl (lv_at hl 0 rfl) ?_
    refine g_M_newMode hx hb hts hown hK hP 0 rfl rfl d_M_act_40 ?_
    refine lv_if_lt (tgt := 54) hx hb d_M_act_43 (by decide) (fun hc => ?_) (fun hc => ?_)
    · replace hw := hw.1 hc
      exact J54 H locs ls m_mode m_feed m_relative m_pause m_kind m_made m_all m_fromX m_fromY m_wayX m_wayY m_points m_centreX m_centreY mx my hP hD hS (lv_sub hl [0] rfl) hw
    · replace hw := hw.2 hc
      refine lv_aload_n hx hb d_M_act_46 rfl (lv_at hl 0 rfl) ?_
      refine lv_aload_n hx hb d_M_act_47 rfl (lv_at hl 0 rfl) ?_
      refine g_M_newMode hx hb hts hown hK hP 0 rfl rfl d_M_act_48 ?_
      refine u_M_mode hx hb hts hown hK hP hD hS 0 rfl rfl d_M_act_51 (fun H locs hP hD hS => ?_)
      have hP : va_P D cls ((o_M a m_length m_at m_lines m_x m_y m_newMode m_feed m_state m_pulses m_last m_shown m_relative m_ending m_time m_pause m_kind m_made m_all m_fromX m_fromY m_wayX m_wayY m_points m_centreX m_centreY m_there m_newMode m_newWay m_newFeed m_ends) :: e1 :: (o_mx a K mx) :: (o_my a K my) :: (o_mn a K mn) :: tl) H := hP
      have hD : va_D A ((o_M a m_length m_at m_lines m_x m_y m_newMode m_feed m_state m_pulses m_last m_shown m_relative m_ending m_time m_pause m_kind m_made m_all m_fromX m_fromY m_wayX m_wayY m_points m_centreX m_centreY m_there m_newMode m_newWay m_newFeed m_ends) :: e1 :: (o_mx a K mx) :: (o_my a K my) :: (o_mn a K mn) :: tl) := hD
      exact J54 H locs ls m_newMode m_feed m_relative m_pause m_kind m_made m_all m_fromX m_fromY m_wayX m_wayY m_points m_centreX m_centreY mx my hP hD hS (lv_sub hl [0] rfl) hw
  have J36 : ∀ (H : Heap) (locs : List Loc) (ls : Array Slot) (s1 m_mode m_feed m_relative : Int32) (m_pause : Int64) (m_kind m_made m_all m_fromX m_fromY m_wayX m_wayY m_points m_centreX m_centreY : Int32) (mx my : Nat → Int32), va_P D cls ((o_M a m_length m_at m_lines m_x m_y m_mode m_feed m_state m_pulses m_last m_shown m_relative m_ending m_time m_pause m_kind m_made m_all m_fromX m_fromY m_wayX m_wayY m_points m_centreX m_centreY m_there m_newMode m_newWay m_newFeed m_ends) :: e1 :: (o_mx a K mx) :: (o_my a K my) :: (o_mn a K mn) :: tl) H → va_D A ((o_M a m_length m_at m_lines m_x m_y m_mode m_feed m_state m_pulses m_last m_shown m_relative m_ending m_time m_pause m_kind m_made m_all m_fromX m_fromY m_wayX m_wayY m_points m_centreX m_centreY m_there m_newMode m_newWay m_newFeed m_ends) :: e1 :: (o_mx a K mx) :: (o_my a K my) :: (o_mn a K mn) :: tl) → va_S A s.heap H locs → lv_has ls 6 [(0, .ref (a 10))] → wq_M_act_36 Q m_x m_y m_there m_newMode mn s1 m_mode m_feed m_relative m_pause m_kind m_made m_all m_fromX m_fromY m_wayX m_wayY m_points m_centreX m_centreY mx my → W p l e rm_M_act s m args below meth c H locs 0 0 QQ (F0 m 36 ls [.int s1, .ref (a 10)]) := by
    intro H locs ls s1 m_mode m_feed m_relative m_pause m_kind m_made m_all m_fromX m_fromY m_wayX m_wayY m_points m_centreX m_centreY mx my hP hD hS hl hw
    unfold wq_M_act_36 at hw
    refine u_M_relative hx hb hts hown hK hP hD hS 0 rfl rfl hw.1 d_M_act_36 (fun H locs hP hD hS => ?_)
    replace hw := hw.2
    have hP : va_P D cls ((o_M a m_length m_at m_lines m_x m_y m_mode m_feed m_state m_pulses m_last m_shown s1 m_ending m_time m_pause m_kind m_made m_all m_fromX m_fromY m_wayX m_wayY m_points m_centreX m_centreY m_there m_newMode m_newWay m_newFeed m_ends) :: e1 :: (o_mx a K mx) :: (o_my a K my) :: (o_mn a K mn) :: tl) H := hP
    have hD : va_D A ((o_M a m_length m_at m_lines m_x m_y m_mode m_feed m_state m_pulses m_last m_shown s1 m_ending m_time m_pause m_kind m_made m_all m_fromX m_fromY m_wayX m_wayY m_points m_centreX m_centreY m_there m_newMode m_newWay m_newFeed m_ends) :: e1 :: (o_mx a K mx) :: (o_my a K my) :: (o_mn a K mn) :: tl) := hD
    exact J39 H locs ls m_mode m_feed s1 m_pause m_kind m_made m_all m_fromX m_fromY m_wayX m_wayY m_points m_centreX m_centreY mx my hP hD hS (lv_sub hl [0] rfl) hw
  have J15 : ∀ (H : Heap) (locs : List Loc) (ls : Array Slot) (m_mode m_feed m_relative : Int32) (m_pause : Int64) (m_kind m_made m_all m_fromX m_fromY m_wayX m_wayY m_points m_centreX m_centreY : Int32) (mx my : Nat → Int32), va_P D cls ((o_M a m_length m_at m_lines m_x m_y m_mode m_feed m_state m_pulses m_last m_shown m_relative m_ending m_time m_pause m_kind m_made m_all m_fromX m_fromY m_wayX m_wayY m_points m_centreX m_centreY m_there m_newMode m_newWay m_newFeed m_ends) :: e1 :: (o_mx a K mx) :: (o_my a K my) :: (o_mn a K mn) :: tl) H → va_D A ((o_M a m_length m_at m_lines m_x m_y m_mode m_feed m_state m_pulses m_last m_shown m_relative m_ending m_time m_pause m_kind m_made m_all m_fromX m_fromY m_wayX m_wayY m_points m_centreX m_centreY m_there m_newMode m_newWay m_newFeed m_ends) :: e1 :: (o_mx a K mx) :: (o_my a K my) :: (o_mn a K mn) :: tl) → va_S A s.heap H locs → lv_has ls 6 [(0, .ref (a 10))] → wq_M_act_15 Q m_x m_y m_there m_newMode m_newWay mn m_mode m_feed m_relative m_pause m_kind m_made m_all m_fromX m_fromY m_wayX m_wayY m_points m_centreX m_centreY mx my → W p l e rm_M_act s m args below meth c H locs 0 0 QQ (F0 m 15 ls []) := by
    intro H locs ls m_mode m_feed m_relative m_pause m_kind m_made m_all m_fromX m_fromY m_wayX m_wayY m_points m_centreX m_centreY mx my hP hD hS hl hw
    unfold wq_M_act_15 at hw
    refine lv_aload_n hx hb d_M_act_15 rfl (lv_at hl 0 rfl) ?_
    refine g_M_newWay hx hb hts hown hK hP 0 rfl rfl d_M_act_16 ?_
    refine lv_if_lt (tgt := 39) hx hb d_M_act_19 (by decide) (fun hc => ?_) (fun hc => ?_)
    · replace hw := hw.1 hc
      exact J39 H locs ls m_mode m_feed m_relative m_pause m_kind m_made m_all m_fromX m_fromY m_wayX m_wayY m_points m_centreX m_centreY mx my hP hD hS (lv_sub hl [0] rfl) hw
    · replace hw := hw.2 hc
      refine lv_aload_n hx hb d_M_act_22 rfl (lv_at hl 0 rfl) ?_
      refine lv_aload_n hx hb d_M_act_23 rfl (lv_at hl 0 rfl) ?_
      refine g_M_newWay hx hb hts hown hK hP 0 rfl rfl d_M_act_24 ?_
      refine lv_iconst (v := (1 : Int32)) hx hb d_M_act_27 (by decide) ?_
      refine lv_icmp_ne (tgt := 35) hx hb d_M_act_28 (by decide) (fun hc => ?_) (fun hc => ?_)
      · replace hw := hw.1 hc
        refine lv_iconst (v := (0 : Int32)) hx hb d_M_act_35 (by decide) ?_
        exact J36 H locs ls (0 : Int32) m_mode m_feed m_relative m_pause m_kind m_made m_all m_fromX m_fromY m_wayX m_wayY m_points m_centreX m_centreY mx my hP hD hS (lv_sub hl [0] rfl) hw
      · replace hw := hw.2 hc
        refine lv_iconst (v := (1 : Int32)) hx hb d_M_act_31 (by decide) ?_
        refine lv_goto (tgt := 36) hx hb d_M_act_32 (by decide) ?_
        exact J36 H locs ls (1 : Int32) m_mode m_feed m_relative m_pause m_kind m_made m_all m_fromX m_fromY m_wayX m_wayY m_points m_centreX m_centreY mx my hP hD hS (lv_sub hl [0] rfl) hw
  unfold wp_M_act at hw
  refine lv_aload_n hx hb d_M_act_0 rfl (lv_at hl 0 rfl) ?_
  refine g_M_newFeed hx hb hts hown hK hP 0 rfl rfl d_M_act_1 ?_
  refine lv_if_le (tgt := 15) hx hb d_M_act_4 (by decide) (fun hc => ?_) (fun hc => ?_)
  · replace hw := hw.1 hc
    exact J15 H locs ls m_mode m_feed m_relative m_pause m_kind m_made m_all m_fromX m_fromY m_wayX m_wayY m_points m_centreX m_centreY mx my hP hD hS (lv_sub hl [0] rfl) hw
  · replace hw := hw.2 hc
    refine lv_aload_n hx hb d_M_act_7 rfl (lv_at hl 0 rfl) ?_
    refine lv_aload_n hx hb d_M_act_8 rfl (lv_at hl 0 rfl) ?_
    refine g_M_newFeed hx hb hts hown hK hP 0 rfl rfl d_M_act_9 ?_
    refine u_M_feed hx hb hts hown hK hP hD hS 0 rfl rfl d_M_act_12 (fun H locs hP hD hS => ?_)
    have hP : va_P D cls ((o_M a m_length m_at m_lines m_x m_y m_mode m_newFeed m_state m_pulses m_last m_shown m_relative m_ending m_time m_pause m_kind m_made m_all m_fromX m_fromY m_wayX m_wayY m_points m_centreX m_centreY m_there m_newMode m_newWay m_newFeed m_ends) :: e1 :: (o_mx a K mx) :: (o_my a K my) :: (o_mn a K mn) :: tl) H := hP
    have hD : va_D A ((o_M a m_length m_at m_lines m_x m_y m_mode m_newFeed m_state m_pulses m_last m_shown m_relative m_ending m_time m_pause m_kind m_made m_all m_fromX m_fromY m_wayX m_wayY m_points m_centreX m_centreY m_there m_newMode m_newWay m_newFeed m_ends) :: e1 :: (o_mx a K mx) :: (o_my a K my) :: (o_mn a K mn) :: tl) := hD
    exact J15 H locs ls m_mode m_newFeed m_relative m_pause m_kind m_made m_all m_fromX m_fromY m_wayX m_wayY m_points m_centreX m_centreY mx my hP hD hS (lv_sub hl [0] rfl) hw
def wq_M_look_193 (Q : Int32 → Int32 → Int32 → Int32 → Int32 → Int32 → Int32 → Int32 → Int64 → Int32 → Int32 → Int32 → Int32 → Int32 → Int32 → Int32 → Int32 → Int32 → Int32 → Int32 → Int32 → Int32 → Int32 → Int32 → (Nat → Int32) → (Nat → Int32) → (Nat → Int32) → Prop) (K2 : Int32 → Int32 → Int32 → Int32 → Int32 → Int32 → Int32 → Int32 → Int32 → Int64 → Int32 → Int32 → Int32 → Int32 → Int32 → Int32 → Int32 → Int32 → Int32 → Int32 → Int32 → Int32 → Int32 → Int32 → Int32 → (Nat → Int32) → (Nat → Int32) → (Nat → Int32) → Prop) (m_length m_x m_y : Int32) (mt : Nat → Int32) (x1 m_at m_lines m_mode m_feed m_state m_shown m_relative m_ending : Int32) (m_pause : Int64) (m_kind m_made m_all m_fromX m_fromY m_wayX m_wayY m_points m_centreX m_centreY m_there m_newMode m_newWay m_newFeed m_ends : Int32) (mx my mn : Nat → Int32) : Prop := (K2 (x1 + (1 : Int32)) m_at m_lines m_mode m_feed m_state m_shown m_relative m_ending m_pause m_kind m_made m_all m_fromX m_fromY m_wayX m_wayY m_points m_centreX m_centreY m_there m_newMode m_newWay m_newFeed m_ends mx my mn)
def wq_M_look_185 (Q : Int32 → Int32 → Int32 → Int32 → Int32 → Int32 → Int32 → Int32 → Int64 → Int32 → Int32 → Int32 → Int32 → Int32 → Int32 → Int32 → Int32 → Int32 → Int32 → Int32 → Int32 → Int32 → Int32 → Int32 → (Nat → Int32) → (Nat → Int32) → (Nat → Int32) → Prop) (K2 : Int32 → Int32 → Int32 → Int32 → Int32 → Int32 → Int32 → Int32 → Int32 → Int64 → Int32 → Int32 → Int32 → Int32 → Int32 → Int32 → Int32 → Int32 → Int32 → Int32 → Int32 → Int32 → Int32 → Int32 → Int32 → (Nat → Int32) → (Nat → Int32) → (Nat → Int32) → Prop) (m_length m_x m_y : Int32) (mt : Nat → Int32) (x1 m_at m_lines m_mode m_feed m_state m_shown m_relative m_ending : Int32) (m_pause : Int64) (m_kind m_made m_all m_fromX m_fromY m_wayX m_wayY m_points m_centreX m_centreY m_there m_newMode m_newWay m_newFeed m_ends : Int32) (mx my mn : Nat → Int32) : Prop := (wq_M_look_193 Q K2 m_length m_x m_y mt x1 m_at m_lines m_mode m_feed m_state m_lines m_relative m_ending m_pause m_kind m_made m_all m_fromX m_fromY m_wayX m_wayY m_points m_centreX m_centreY m_there m_newMode m_newWay m_newFeed m_ends mx my mn)
def wq_M_look_164 (Q : Int32 → Int32 → Int32 → Int32 → Int32 → Int32 → Int32 → Int32 → Int64 → Int32 → Int32 → Int32 → Int32 → Int32 → Int32 → Int32 → Int32 → Int32 → Int32 → Int32 → Int32 → Int32 → Int32 → Int32 → (Nat → Int32) → (Nat → Int32) → (Nat → Int32) → Prop) (K2 : Int32 → Int32 → Int32 → Int32 → Int32 → Int32 → Int32 → Int32 → Int32 → Int64 → Int32 → Int32 → Int32 → Int32 → Int32 → Int32 → Int32 → Int32 → Int32 → Int32 → Int32 → Int32 → Int32 → Int32 → Int32 → (Nat → Int32) → (Nat → Int32) → (Nat → Int32) → Prop) (m_length m_x m_y : Int32) (mt : Nat → Int32) (x1 x3 s1 m_at m_lines m_mode m_feed m_state m_shown m_relative m_ending : Int32) (m_pause : Int64) (m_kind m_made m_all m_fromX m_fromY m_wayX m_wayY m_points m_centreX m_centreY m_there m_newMode m_newWay m_newFeed m_ends : Int32) (mx my mn : Nat → Int32) : Prop := (bZ s1 ∧ ((0 < x3 → (wq_M_look_185 Q K2 m_length m_x m_y mt x1 m_at m_lines m_mode m_feed m_state m_shown m_relative s1 m_pause m_kind m_made m_all m_fromX m_fromY m_wayX m_wayY m_points m_centreX m_centreY m_there m_newMode m_newWay m_newFeed m_ends mx my mn)) ∧ (¬ 0 < x3 → ((¬ m_there = 0 → (wq_M_look_185 Q K2 m_length m_x m_y mt x1 m_at m_lines m_mode m_feed m_state m_shown m_relative s1 m_pause m_kind m_made m_all m_fromX m_fromY m_wayX m_wayY m_points m_centreX m_centreY m_there m_newMode m_newWay m_newFeed m_ends mx my mn)) ∧ (m_there = 0 → ((s1 = 0 → (wq_M_look_193 Q K2 m_length m_x m_y mt x1 m_at m_lines m_mode m_feed m_state m_shown m_relative s1 m_pause m_kind m_made m_all m_fromX m_fromY m_wayX m_wayY m_points m_centreX m_centreY m_there m_newMode m_newWay m_newFeed m_ends mx my mn)) ∧ (¬ s1 = 0 → (wq_M_look_185 Q K2 m_length m_x m_y mt x1 m_at m_lines m_mode m_feed m_state m_shown m_relative s1 m_pause m_kind m_made m_all m_fromX m_fromY m_wayX m_wayY m_points m_centreX m_centreY m_there m_newMode m_newWay m_newFeed m_ends mx my mn))))))))
def wq_M_look_163 (Q : Int32 → Int32 → Int32 → Int32 → Int32 → Int32 → Int32 → Int32 → Int64 → Int32 → Int32 → Int32 → Int32 → Int32 → Int32 → Int32 → Int32 → Int32 → Int32 → Int32 → Int32 → Int32 → Int32 → Int32 → (Nat → Int32) → (Nat → Int32) → (Nat → Int32) → Prop) (K2 : Int32 → Int32 → Int32 → Int32 → Int32 → Int32 → Int32 → Int32 → Int32 → Int64 → Int32 → Int32 → Int32 → Int32 → Int32 → Int32 → Int32 → Int32 → Int32 → Int32 → Int32 → Int32 → Int32 → Int32 → Int32 → (Nat → Int32) → (Nat → Int32) → (Nat → Int32) → Prop) (m_length m_x m_y : Int32) (mt : Nat → Int32) (x1 x3 m_at m_lines m_mode m_feed m_state m_shown m_relative m_ending : Int32) (m_pause : Int64) (m_kind m_made m_all m_fromX m_fromY m_wayX m_wayY m_points m_centreX m_centreY m_there m_newMode m_newWay m_newFeed m_ends : Int32) (mx my mn : Nat → Int32) : Prop := (wq_M_look_164 Q K2 m_length m_x m_y mt x1 x3 (0 : Int32) m_at m_lines m_mode m_feed m_state m_shown m_relative m_ending m_pause m_kind m_made m_all m_fromX m_fromY m_wayX m_wayY m_points m_centreX m_centreY m_there m_newMode m_newWay m_newFeed m_ends mx my mn)
def wq_M_look_147 (Q : Int32 → Int32 → Int32 → Int32 → Int32 → Int32 → Int32 → Int32 → Int64 → Int32 → Int32 → Int32 → Int32 → Int32 → Int32 → Int32 → Int32 → Int32 → Int32 → Int32 → Int32 → Int32 → Int32 → Int32 → (Nat → Int32) → (Nat → Int32) → (Nat → Int32) → Prop) (K2 : Int32 → Int32 → Int32 → Int32 → Int32 → Int32 → Int32 → Int32 → Int32 → Int64 → Int32 → Int32 → Int32 → Int32 → Int32 → Int32 → Int32 → Int32 → Int32 → Int32 → Int32 → Int32 → Int32 → Int32 → Int32 → (Nat → Int32) → (Nat → Int32) → (Nat → Int32) → Prop) (m_length m_x m_y : Int32) (mt : Nat → Int32) (x1 x3 m_at m_lines m_mode m_feed m_state m_shown m_relative m_ending : Int32) (m_pause : Int64) (m_kind m_made m_all m_fromX m_fromY m_wayX m_wayY m_points m_centreX m_centreY m_there m_newMode m_newWay m_newFeed m_ends : Int32) (mx my mn : Nat → Int32) : Prop := ((¬ x3 = 0 → (wq_M_look_163 Q K2 m_length m_x m_y mt x1 x3 m_at m_lines m_mode m_feed m_state m_shown m_relative m_ending m_pause m_kind m_made m_all m_fromX m_fromY m_wayX m_wayY m_points m_centreX m_centreY m_there m_newMode m_newWay m_newFeed m_ends mx my mn)) ∧ (x3 = 0 → ((m_ends ≤ 0 → (wq_M_look_163 Q K2 m_length m_x m_y mt x1 x3 m_at m_lines m_mode m_feed m_state m_shown m_relative m_ending m_pause m_kind m_made m_all m_fromX m_fromY m_wayX m_wayY m_points m_centreX m_centreY m_there m_newMode m_newWay m_newFeed m_ends mx my mn)) ∧ (¬ m_ends ≤ 0 → (wq_M_look_164 Q K2 m_length m_x m_y mt x1 x3 (1 : Int32) m_at m_lines m_mode m_feed m_state m_shown m_relative m_ending m_pause m_kind m_made m_all m_fromX m_fromY m_wayX m_wayY m_points m_centreX m_centreY m_there m_newMode m_newWay m_newFeed m_ends mx my mn)))))
def wq_M_look_138 (Q : Int32 → Int32 → Int32 → Int32 → Int32 → Int32 → Int32 → Int32 → Int64 → Int32 → Int32 → Int32 → Int32 → Int32 → Int32 → Int32 → Int32 → Int32 → Int32 → Int32 → Int32 → Int32 → Int32 → Int32 → (Nat → Int32) → (Nat → Int32) → (Nat → Int32) → Prop) (K2 : Int32 → Int32 → Int32 → Int32 → Int32 → Int32 → Int32 → Int32 → Int32 → Int64 → Int32 → Int32 → Int32 → Int32 → Int32 → Int32 → Int32 → Int32 → Int32 → Int32 → Int32 → Int32 → Int32 → Int32 → Int32 → (Nat → Int32) → (Nat → Int32) → (Nat → Int32) → Prop) (m_length m_x m_y : Int32) (mt : Nat → Int32) (x1 x3 m_at m_lines m_mode m_feed m_state m_shown m_relative m_ending : Int32) (m_pause : Int64) (m_kind m_made m_all m_fromX m_fromY m_wayX m_wayY m_points m_centreX m_centreY m_there m_newMode m_newWay m_newFeed m_ends : Int32) (mx my mn : Nat → Int32) : Prop := ((x3 ≤ 0 → (wq_M_look_147 Q K2 m_length m_x m_y mt x1 x3 m_at m_lines m_mode m_feed m_state m_shown m_relative m_ending m_pause m_kind m_made m_all m_fromX m_fromY m_wayX m_wayY m_points m_centreX m_centreY m_there m_newMode m_newWay m_newFeed m_ends mx my mn)) ∧ (¬ x3 ≤ 0 → (wq_M_look_147 Q K2 m_length m_x m_y mt x1 x3 m_at m_lines m_mode m_feed x3 m_shown m_relative m_ending m_pause m_kind m_made m_all m_fromX m_fromY m_wayX m_wayY m_points m_centreX m_centreY m_there m_newMode m_newWay m_newFeed m_ends mx my mn)))
def wq_M_look_102 (Q : Int32 → Int32 → Int32 → Int32 → Int32 → Int32 → Int32 → Int32 → Int64 → Int32 → Int32 → Int32 → Int32 → Int32 → Int32 → Int32 → Int32 → Int32 → Int32 → Int32 → Int32 → Int32 → Int32 → Int32 → (Nat → Int32) → (Nat → Int32) → (Nat → Int32) → Prop) (K2 : Int32 → Int32 → Int32 → Int32 → Int32 → Int32 → Int32 → Int32 → Int32 → Int64 → Int32 → Int32 → Int32 → Int32 → Int32 → Int32 → Int32 → Int32 → Int32 → Int32 → Int32 → Int32 → Int32 → Int32 → Int32 → (Nat → Int32) → (Nat → Int32) → (Nat → Int32) → Prop) (m_length m_x m_y : Int32) (mt : Nat → Int32) (x1 x2 m_at m_lines m_mode m_feed m_state m_shown m_relative m_ending : Int32) (m_pause : Int64) (m_kind m_made m_all m_fromX m_fromY m_wayX m_wayY m_points m_centreX m_centreY m_there m_newMode m_newWay m_newFeed m_ends : Int32) (mx my mn : Nat → Int32) : Prop := (wp_M_read m_at x2 m_there m_newMode m_newWay m_newFeed m_ends mt mn (fun r108 m_there_108 m_newMode_108 m_newWay_108 m_newFeed_108 m_ends_108 mn_108 => ((¬ r108 = 0 → (wq_M_look_138 Q K2 m_length m_x m_y mt x1 r108 (x2 + (1 : Int32)) (m_lines + (1 : Int32)) m_mode m_feed m_state m_shown m_relative m_ending m_pause m_kind m_made m_all m_fromX m_fromY m_wayX m_wayY m_points m_centreX m_centreY m_there_108 m_newMode_108 m_newWay_108 m_newFeed_108 m_ends_108 mx my mn_108)) ∧ (r108 = 0 → (wp_M_act m_x m_y m_mode m_feed m_relative m_pause m_kind m_made m_all m_fromX m_fromY m_wayX m_wayY m_points m_centreX m_centreY m_there_108 m_newMode_108 m_newWay_108 m_newFeed_108 mx my mn_108 (fun r134 m_mode_134 m_feed_134 m_relative_134 m_pause_134 m_kind_134 m_made_134 m_all_134 m_fromX_134 m_fromY_134 m_wayX_134 m_wayY_134 m_points_134 m_centreX_134 m_centreY_134 mx_134 my_134 => (wq_M_look_138 Q K2 m_length m_x m_y mt x1 r134 (x2 + (1 : Int32)) (m_lines + (1 : Int32)) m_mode_134 m_feed_134 m_state m_shown m_relative_134 m_ending m_pause_134 m_kind_134 m_made_134 m_all_134 m_fromX_134 m_fromY_134 m_wayX_134 m_wayY_134 m_points_134 m_centreX_134 m_centreY_134 m_there_108 m_newMode_108 m_newWay_108 m_newFeed_108 m_ends_108 mx_134 my_134 mn_108)))))))
def wq_M_look_76 (Q : Int32 → Int32 → Int32 → Int32 → Int32 → Int32 → Int32 → Int32 → Int64 → Int32 → Int32 → Int32 → Int32 → Int32 → Int32 → Int32 → Int32 → Int32 → Int32 → Int32 → Int32 → Int32 → Int32 → Int32 → (Nat → Int32) → (Nat → Int32) → (Nat → Int32) → Prop) (K2 : Int32 → Int32 → Int32 → Int32 → Int32 → Int32 → Int32 → Int32 → Int32 → Int64 → Int32 → Int32 → Int32 → Int32 → Int32 → Int32 → Int32 → Int32 → Int32 → Int32 → Int32 → Int32 → Int32 → Int32 → Int32 → (Nat → Int32) → (Nat → Int32) → (Nat → Int32) → Prop) (m_length m_x m_y : Int32) (mt : Nat → Int32) : Nat → Int32 → Int32 → Int32 → Int32 → Int32 → Int32 → Int32 → Int32 → Int32 → Int32 → Int64 → Int32 → Int32 → Int32 → Int32 → Int32 → Int32 → Int32 → Int32 → Int32 → Int32 → Int32 → Int32 → Int32 → Int32 → Int32 → (Nat → Int32) → (Nat → Int32) → (Nat → Int32) → Prop
  | 0, _, _, _, _, _, _, _, _, _, _, _, _, _, _, _, _, _, _, _, _, _, _, _, _, _, _, _, _, _ => False
  | n76 + 1, x1, x2, m_at, m_lines, m_mode, m_feed, m_state, m_shown, m_relative, m_ending, m_pause, m_kind, m_made, m_all, m_fromX, m_fromY, m_wayX, m_wayY, m_points, m_centreX, m_centreY, m_there, m_newMode, m_newWay, m_newFeed, m_ends, mx, my, mn => ((m_length ≤ x2 → (wq_M_look_102 Q K2 m_length m_x m_y mt x1 x2 m_at m_lines m_mode m_feed m_state m_shown m_relative m_ending m_pause m_kind m_made m_all m_fromX m_fromY m_wayX m_wayY m_points m_centreX m_centreY m_there m_newMode m_newWay m_newFeed m_ends mx my mn)) ∧ (¬ m_length ≤ x2 → (vp_in x2 400 ∧ (((mt x2.toNatClampNeg) = (10 : Int32) → (wq_M_look_102 Q K2 m_length m_x m_y mt x1 x2 m_at m_lines m_mode m_feed m_state m_shown m_relative m_ending m_pause m_kind m_made m_all m_fromX m_fromY m_wayX m_wayY m_points m_centreX m_centreY m_there m_newMode m_newWay m_newFeed m_ends mx my mn)) ∧ (¬ (mt x2.toNatClampNeg) = (10 : Int32) → (wq_M_look_76 Q K2 m_length m_x m_y mt n76 x1 (x2 + (1 : Int32)) m_at m_lines m_mode m_feed m_state m_shown m_relative m_ending m_pause m_kind m_made m_all m_fromX m_fromY m_wayX m_wayY m_points m_centreX m_centreY m_there m_newMode m_newWay m_newFeed m_ends mx my mn))))))
def wq_M_look_2 (Q : Int32 → Int32 → Int32 → Int32 → Int32 → Int32 → Int32 → Int32 → Int64 → Int32 → Int32 → Int32 → Int32 → Int32 → Int32 → Int32 → Int32 → Int32 → Int32 → Int32 → Int32 → Int32 → Int32 → Int32 → (Nat → Int32) → (Nat → Int32) → (Nat → Int32) → Prop) (m_length m_x m_y : Int32) (mt : Nat → Int32) : Nat → Int32 → Int32 → Int32 → Int32 → Int32 → Int32 → Int32 → Int32 → Int32 → Int64 → Int32 → Int32 → Int32 → Int32 → Int32 → Int32 → Int32 → Int32 → Int32 → Int32 → Int32 → Int32 → Int32 → Int32 → Int32 → (Nat → Int32) → (Nat → Int32) → (Nat → Int32) → Prop
  | 0, _, _, _, _, _, _, _, _, _, _, _, _, _, _, _, _, _, _, _, _, _, _, _, _, _, _, _, _ => False
  | n2 + 1, x1, m_at, m_lines, m_mode, m_feed, m_state, m_shown, m_relative, m_ending, m_pause, m_kind, m_made, m_all, m_fromX, m_fromY, m_wayX, m_wayY, m_points, m_centreX, m_centreY, m_there, m_newMode, m_newWay, m_newFeed, m_ends, mx, my, mn => (((500 : Int32) ≤ x1 → (Q m_at m_lines m_mode m_feed m_state m_shown m_relative m_ending m_pause m_kind m_made m_all m_fromX m_fromY m_wayX m_wayY m_points m_centreX m_centreY m_there m_newMode m_newWay m_newFeed m_ends mx my mn)) ∧ (¬ (500 : Int32) ≤ x1 → ((¬ m_state = 0 → (Q m_at m_lines m_mode m_feed m_state m_shown m_relative m_ending m_pause m_kind m_made m_all m_fromX m_fromY m_wayX m_wayY m_points m_centreX m_centreY m_there m_newMode m_newWay m_newFeed m_ends mx my mn)) ∧ (m_state = 0 → ((¬ m_made = m_all → (Q m_at m_lines m_mode m_feed m_state m_shown m_relative m_ending m_pause m_kind m_made m_all m_fromX m_fromY m_wayX m_wayY m_points m_centreX m_centreY m_there m_newMode m_newWay m_newFeed m_ends mx my mn)) ∧ (m_made = m_all → ((m_ending = 0 → ((m_at < m_length → (∃ n76 : Nat, wq_M_look_76 Q (fun x1 m_at m_lines m_mode m_feed m_state m_shown m_relative m_ending m_pause m_kind m_made m_all m_fromX m_fromY m_wayX m_wayY m_points m_centreX m_centreY m_there m_newMode m_newWay m_newFeed m_ends mx my mn => wq_M_look_2 Q m_length m_x m_y mt n2 x1 m_at m_lines m_mode m_feed m_state m_shown m_relative m_ending m_pause m_kind m_made m_all m_fromX m_fromY m_wayX m_wayY m_points m_centreX m_centreY m_there m_newMode m_newWay m_newFeed m_ends mx my mn) m_length m_x m_y mt n76 x1 m_at m_at m_lines m_mode m_feed m_state m_shown m_relative m_ending m_pause m_kind m_made m_all m_fromX m_fromY m_wayX m_wayY m_points m_centreX m_centreY m_there m_newMode m_newWay m_newFeed m_ends mx my mn)) ∧ (¬ m_at < m_length → (wq_M_look_193 Q (fun x1 m_at m_lines m_mode m_feed m_state m_shown m_relative m_ending m_pause m_kind m_made m_all m_fromX m_fromY m_wayX m_wayY m_points m_centreX m_centreY m_there m_newMode m_newWay m_newFeed m_ends mx my mn => wq_M_look_2 Q m_length m_x m_y mt n2 x1 m_at m_lines m_mode m_feed m_state m_shown m_relative m_ending m_pause m_kind m_made m_all m_fromX m_fromY m_wayX m_wayY m_points m_centreX m_centreY m_there m_newMode m_newWay m_newFeed m_ends mx my mn) m_length m_x m_y mt x1 m_at m_lines m_mode m_feed (100 : Int32) m_lines m_relative m_ending m_pause m_kind m_made m_all m_fromX m_fromY m_wayX m_wayY m_points m_centreX m_centreY m_there m_newMode m_newWay m_newFeed m_ends mx my mn)))) ∧ (¬ m_ending = 0 → (wq_M_look_193 Q (fun x1 m_at m_lines m_mode m_feed m_state m_shown m_relative m_ending m_pause m_kind m_made m_all m_fromX m_fromY m_wayX m_wayY m_points m_centreX m_centreY m_there m_newMode m_newWay m_newFeed m_ends mx my mn => wq_M_look_2 Q m_length m_x m_y mt n2 x1 m_at m_lines m_mode m_feed m_state m_shown m_relative m_ending m_pause m_kind m_made m_all m_fromX m_fromY m_wayX m_wayY m_points m_centreX m_centreY m_there m_newMode m_newWay m_newFeed m_ends mx my mn) m_length m_x m_y mt x1 m_at m_lines m_mode m_feed (100 : Int32) m_shown m_relative m_ending m_pause m_kind m_made m_all m_fromX m_fromY m_wayX m_wayY m_points m_centreX m_centreY m_there m_newMode m_newWay m_newFeed m_ends mx my mn)))))))))
def wp_M_look (m_length m_at m_lines m_x m_y m_mode m_feed m_state m_shown m_relative m_ending : Int32) (m_pause : Int64) (m_kind m_made m_all m_fromX m_fromY m_wayX m_wayY m_points m_centreX m_centreY m_there m_newMode m_newWay m_newFeed m_ends : Int32) (mt mx my mn : Nat → Int32) (Q : Int32 → Int32 → Int32 → Int32 → Int32 → Int32 → Int32 → Int32 → Int64 → Int32 → Int32 → Int32 → Int32 → Int32 → Int32 → Int32 → Int32 → Int32 → Int32 → Int32 → Int32 → Int32 → Int32 → Int32 → (Nat → Int32) → (Nat → Int32) → (Nat → Int32) → Prop) : Prop := (∃ n2 : Nat, wq_M_look_2 Q m_length m_x m_y mt n2 (0 : Int32) m_at m_lines m_mode m_feed m_state m_shown m_relative m_ending m_pause m_kind m_made m_all m_fromX m_fromY m_wayX m_wayY m_points m_centreX m_centreY m_there m_newMode m_newWay m_newFeed m_ends mx my mn)
abbrev rm_M_look : Room := { frames := 4, cells := 0, slots := 0, locals := 107 }
set_option maxRecDepth 100000 in
set_option maxHeartbeats 4000000 in
theorem c_M_look (l : Launch) {D : va_G} {X : xT} {a : Nat → Nat} {K : Nat → ClassId} {tl : va_W} {m_length m_at m_lines m_x m_y m_mode m_feed m_state m_pulses m_last m_shown m_relative m_ending : Int32} {m_time m_pause : Int64} {m_kind m_made m_all m_fromX m_fromY m_wayX m_wayY m_points m_centreX m_centreY m_there m_newMode m_newWay m_newFeed m_ends : Int32} {mt mx my mn : Nat → Int32} {Q : Int32 → Int32 → Int32 → Int32 → Int32 → Int32 → Int32 → Int32 → Int64 → Int32 → Int32 → Int32 → Int32 → Int32 → Int32 → Int32 → Int32 → Int32 → Int32 → Int32 → Int32 → Int32 → Int32 → Int32 → (Nat → Int32) → (Nat → Int32) → (Nat → Int32) → Prop} : MV l y_M_look b_M_look 4 rm_M_look D cls (tys K) X [.ref (a 10)] ((o_M a m_length m_at m_lines m_x m_y m_mode m_feed m_state m_pulses m_last m_shown m_relative m_ending m_time m_pause m_kind m_made m_all m_fromX m_fromY m_wayX m_wayY m_points m_centreX m_centreY m_there m_newMode m_newWay m_newFeed m_ends) :: (o_mt a K mt) :: (o_mx a K mx) :: (o_my a K my) :: (o_mn a K mn) :: tl) (fun u : Int32 × Int32 × Int32 × Int32 × Int32 × Int32 × Int32 × Int32 × Int64 × Int32 × Int32 × Int32 × Int32 × Int32 × Int32 × Int32 × Int32 × Int32 × Int32 × Int32 × Int32 × Int32 × Int32 × Int32 × (Nat → Int32) × (Nat → Int32) × (Nat → Int32) => (o_M a m_length u.1 u.2.1 m_x m_y u.2.2.1 u.2.2.2.1 u.2.2.2.2.1 m_pulses m_last u.2.2.2.2.2.1 u.2.2.2.2.2.2.1 u.2.2.2.2.2.2.2.1 m_time u.2.2.2.2.2.2.2.2.1 u.2.2.2.2.2.2.2.2.2.1 u.2.2.2.2.2.2.2.2.2.2.1 u.2.2.2.2.2.2.2.2.2.2.2.1 u.2.2.2.2.2.2.2.2.2.2.2.2.1 u.2.2.2.2.2.2.2.2.2.2.2.2.2.1 u.2.2.2.2.2.2.2.2.2.2.2.2.2.2.1 u.2.2.2.2.2.2.2.2.2.2.2.2.2.2.2.1 u.2.2.2.2.2.2.2.2.2.2.2.2.2.2.2.2.1 u.2.2.2.2.2.2.2.2.2.2.2.2.2.2.2.2.2.1 u.2.2.2.2.2.2.2.2.2.2.2.2.2.2.2.2.2.2.1 u.2.2.2.2.2.2.2.2.2.2.2.2.2.2.2.2.2.2.2.1 u.2.2.2.2.2.2.2.2.2.2.2.2.2.2.2.2.2.2.2.2.1 u.2.2.2.2.2.2.2.2.2.2.2.2.2.2.2.2.2.2.2.2.2.1 u.2.2.2.2.2.2.2.2.2.2.2.2.2.2.2.2.2.2.2.2.2.2.1 u.2.2.2.2.2.2.2.2.2.2.2.2.2.2.2.2.2.2.2.2.2.2.2.1) :: (o_mt a K mt) :: (o_mx a K u.2.2.2.2.2.2.2.2.2.2.2.2.2.2.2.2.2.2.2.2.2.2.2.2.1) :: (o_my a K u.2.2.2.2.2.2.2.2.2.2.2.2.2.2.2.2.2.2.2.2.2.2.2.2.2.1) :: (o_mn a K u.2.2.2.2.2.2.2.2.2.2.2.2.2.2.2.2.2.2.2.2.2.2.2.2.2.2) :: tl) (wp_M_look m_length m_at m_lines m_x m_y m_mode m_feed m_state m_shown m_relative m_ending m_pause m_kind m_made m_all m_fromX m_fromY m_wayX m_wayY m_points m_centreX m_centreY m_there m_newMode m_newWay m_newFeed m_ends mt mx my mn Q) (fun u => Q u.1 u.2.1 u.2.2.1 u.2.2.2.1 u.2.2.2.2.1 u.2.2.2.2.2.1 u.2.2.2.2.2.2.1 u.2.2.2.2.2.2.2.1 u.2.2.2.2.2.2.2.2.1 u.2.2.2.2.2.2.2.2.2.1 u.2.2.2.2.2.2.2.2.2.2.1 u.2.2.2.2.2.2.2.2.2.2.2.1 u.2.2.2.2.2.2.2.2.2.2.2.2.1 u.2.2.2.2.2.2.2.2.2.2.2.2.2.1 u.2.2.2.2.2.2.2.2.2.2.2.2.2.2.1 u.2.2.2.2.2.2.2.2.2.2.2.2.2.2.2.1 u.2.2.2.2.2.2.2.2.2.2.2.2.2.2.2.2.1 u.2.2.2.2.2.2.2.2.2.2.2.2.2.2.2.2.2.1 u.2.2.2.2.2.2.2.2.2.2.2.2.2.2.2.2.2.2.1 u.2.2.2.2.2.2.2.2.2.2.2.2.2.2.2.2.2.2.2.1 u.2.2.2.2.2.2.2.2.2.2.2.2.2.2.2.2.2.2.2.2.1 u.2.2.2.2.2.2.2.2.2.2.2.2.2.2.2.2.2.2.2.2.2.1 u.2.2.2.2.2.2.2.2.2.2.2.2.2.2.2.2.2.2.2.2.2.2.1 u.2.2.2.2.2.2.2.2.2.2.2.2.2.2.2.2.2.2.2.2.2.2.2.1 u.2.2.2.2.2.2.2.2.2.2.2.2.2.2.2.2.2.2.2.2.2.2.2.2.1 u.2.2.2.2.2.2.2.2.2.2.2.2.2.2.2.2.2.2.2.2.2.2.2.2.2.1 u.2.2.2.2.2.2.2.2.2.2.2.2.2.2.2.2.2.2.2.2.2.2.2.2.2.2) := by
  refine my_of_V (by decide +kernel) (Nat.le_of_ble_eq_true rfl) (fun p e s m args below meth c A QQ H locs ls hx hb hts hown hml hK hX hA hP hD hS hl hw hret => ?_)
  replace hl : lv_has ls 4 [(0, .ref (a 10))] := hl
  have J193 : ∀ (K2 : Int32 → Int32 → Int32 → Int32 → Int32 → Int32 → Int32 → Int32 → Int32 → Int64 → Int32 → Int32 → Int32 → Int32 → Int32 → Int32 → Int32 → Int32 → Int32 → Int32 → Int32 → Int32 → Int32 → Int32 → Int32 → (Nat → Int32) → (Nat → Int32) → (Nat → Int32) → Prop) (hK2 : ∀ (H : Heap) (locs : List Loc) (ls : Array Slot) (x1 m_at m_lines m_mode m_feed m_state m_shown m_relative m_ending : Int32) (m_pause : Int64) (m_kind m_made m_all m_fromX m_fromY m_wayX m_wayY m_points m_centreX m_centreY m_there m_newMode m_newWay m_newFeed m_ends : Int32) (mx my mn : Nat → Int32), va_P D cls ((o_M a m_length m_at m_lines m_x m_y m_mode m_feed m_state m_pulses m_last m_shown m_relative m_ending m_time m_pause m_kind m_made m_all m_fromX m_fromY m_wayX m_wayY m_points m_centreX m_centreY m_there m_newMode m_newWay m_newFeed m_ends) :: (o_mt a K mt) :: (o_mx a K mx) :: (o_my a K my) :: (o_mn a K mn) :: tl) H → va_D A ((o_M a m_length m_at m_lines m_x m_y m_mode m_feed m_state m_pulses m_last m_shown m_relative m_ending m_time m_pause m_kind m_made m_all m_fromX m_fromY m_wayX m_wayY m_points m_centreX m_centreY m_there m_newMode m_newWay m_newFeed m_ends) :: (o_mt a K mt) :: (o_mx a K mx) :: (o_my a K my) :: (o_mn a K mn) :: tl) → va_S A s.heap H locs → lv_has ls 4 [(0, .ref (a 10)), (1, .int x1)] → K2 x1 m_at m_lines m_mode m_feed m_state m_shown m_relative m_ending m_pause m_kind m_made m_all m_fromX m_fromY m_wayX m_wayY m_points m_centreX m_centreY m_there m_newMode m_newWay m_newFeed m_ends mx my mn → W p l e rm_M_look s m args below meth c H locs 0 0 QQ (F0 m 2 ls [])) (H : Heap) (locs : List Loc) (ls : Array Slot) (x1 m_at m_lines m_mode m_feed m_state m_shown m_relative m_ending : Int32) (m_pause : Int64) (m_kind m_made m_all m_fromX m_fromY m_wayX m_wayY m_points m_centreX m_centreY m_there m_newMode m_newWay m_newFeed m_ends : Int32) (mx my mn : Nat → Int32), va_P D cls ((o_M a m_length m_at m_lines m_x m_y m_mode m_feed m_state m_pulses m_last m_shown m_relative m_ending m_time m_pause m_kind m_made m_all m_fromX m_fromY m_wayX m_wayY m_points m_centreX m_centreY m_there m_newMode m_newWay m_newFeed m_ends) :: (o_mt a K mt) :: (o_mx a K mx) :: (o_my a K my) :: (o_mn a K mn) :: tl) H → va_D A ((o_M a m_length m_at m_lines m_x m_y m_mode m_feed m_state m_pulses m_last m_shown m_relative m_ending m_time m_pause m_kind m_made m_all m_fromX m_fromY m_wayX m_wayY m_points m_centreX m_centreY m_there m_newMode m_newWay m_newFeed m_ends) :: (o_mt a K mt) :: (o_mx a K mx) :: (o_my a K my) :: (o_mn a K mn) :: tl) → va_S A s.heap H locs → lv_has ls 4 [(0, .ref (a 10)), (1, .int x1)] → wq_M_look_193 Q K2 m_length m_x m_y mt x1 m_at m_lines m_mode m_feed m_state m_shown m_relative m_ending m_pause m_kind m_made m_all m_fromX m_fromY m_wayX m_wayY m_points m_centreX m_centreY m_there m_newMode m_newWay m_newFeed m_ends mx my mn → W p l e rm_M_look s m args below meth c H locs 0 0 QQ (F0 m 193 ls []) := by
    intro K2 hK2 H locs ls x1 m_at m_lines m_mode m_feed m_state m_shown m_relative m_ending m_pause m_kind m_made m_all m_fromX m_fromY m_wayX m_wayY m_points m_centreX m_centreY m_there m_newMode m_newWay m_newFeed m_ends mx my mn hP hD hS hl hw
    unfold wq_M_look_193 at hw
    refine lv_iinc (k := 1) (v := x1 + (1 : Int32)) (lv' := [(1, .int (x1 + (1 : Int32))), (0, .ref (a 10))]) hx hb d_M_look_193 hl rfl (iinc_1 _) (Nat.le_of_ble_eq_true rfl) rfl (fun ls hl => ?_)
    refine lv_goto (tgt := 2) hx hb d_M_look_196 (by decide) ?_
    exact hK2 H locs ls (x1 + (1 : Int32)) m_at m_lines m_mode m_feed m_state m_shown m_relative m_ending m_pause m_kind m_made m_all m_fromX m_fromY m_wayX m_wayY m_points m_centreX m_centreY m_there m_newMode m_newWay m_newFeed m_ends mx my mn hP hD hS (lv_sub hl [1, 0] rfl) hw
  have J185 : ∀ (K2 : Int32 → Int32 → Int32 → Int32 → Int32 → Int32 → Int32 → Int32 → Int32 → Int64 → Int32 → Int32 → Int32 → Int32 → Int32 → Int32 → Int32 → Int32 → Int32 → Int32 → Int32 → Int32 → Int32 → Int32 → Int32 → (Nat → Int32) → (Nat → Int32) → (Nat → Int32) → Prop) (hK2 : ∀ (H : Heap) (locs : List Loc) (ls : Array Slot) (x1 m_at m_lines m_mode m_feed m_state m_shown m_relative m_ending : Int32) (m_pause : Int64) (m_kind m_made m_all m_fromX m_fromY m_wayX m_wayY m_points m_centreX m_centreY m_there m_newMode m_newWay m_newFeed m_ends : Int32) (mx my mn : Nat → Int32), va_P D cls ((o_M a m_length m_at m_lines m_x m_y m_mode m_feed m_state m_pulses m_last m_shown m_relative m_ending m_time m_pause m_kind m_made m_all m_fromX m_fromY m_wayX m_wayY m_points m_centreX m_centreY m_there m_newMode m_newWay m_newFeed m_ends) :: (o_mt a K mt) :: (o_mx a K mx) :: (o_my a K my) :: (o_mn a K mn) :: tl) H → va_D A ((o_M a m_length m_at m_lines m_x m_y m_mode m_feed m_state m_pulses m_last m_shown m_relative m_ending m_time m_pause m_kind m_made m_all m_fromX m_fromY m_wayX m_wayY m_points m_centreX m_centreY m_there m_newMode m_newWay m_newFeed m_ends) :: (o_mt a K mt) :: (o_mx a K mx) :: (o_my a K my) :: (o_mn a K mn) :: tl) → va_S A s.heap H locs → lv_has ls 4 [(0, .ref (a 10)), (1, .int x1)] → K2 x1 m_at m_lines m_mode m_feed m_state m_shown m_relative m_ending m_pause m_kind m_made m_all m_fromX m_fromY m_wayX m_wayY m_points m_centreX m_centreY m_there m_newMode m_newWay m_newFeed m_ends mx my mn → W p l e rm_M_look s m args below meth c H locs 0 0 QQ (F0 m 2 ls [])) (H : Heap) (locs : List Loc) (ls : Array Slot) (x1 m_at m_lines m_mode m_feed m_state m_shown m_relative m_ending : Int32) (m_pause : Int64) (m_kind m_made m_all m_fromX m_fromY m_wayX m_wayY m_points m_centreX m_centreY m_there m_newMode m_newWay m_newFeed m_ends : Int32) (mx my mn : Nat → Int32), va_P D cls ((o_M a m_length m_at m_lines m_x m_y m_mode m_feed m_state m_pulses m_last m_shown m_relative m_ending m_time m_pause m_kind m_made m_all m_fromX m_fromY m_wayX m_wayY m_points m_centreX m_centreY m_there m_newMode m_newWay m_newFeed m_ends) :: (o_mt a K mt) :: (o_mx a K mx) :: (o_my a K my) :: (o_mn a K mn) :: tl) H → va_D A ((o_M a m_length m_at m_lines m_x m_y m_mode m_feed m_state m_pulses m_last m_shown m_relative m_ending m_time m_pause m_kind m_made m_all m_fromX m_fromY m_wayX m_wayY m_points m_centreX m_centreY m_there m_newMode m_newWay m_newFeed m_ends) :: (o_mt a K mt) :: (o_mx a K mx) :: (o_my a K my) :: (o_mn a K mn) :: tl) → va_S A s.heap H locs → lv_has ls 4 [(0, .ref (a 10)), (1, .int x1)] → wq_M_look_185 Q K2 m_length m_x m_y mt x1 m_at m_lines m_mode m_feed m_state m_shown m_relative m_ending m_pause m_kind m_made m_all m_fromX m_fromY m_wayX m_wayY m_points m_centreX m_centreY m_there m_newMode m_newWay m_newFeed m_ends mx my mn → W p l e rm_M_look s m args below meth c H locs 0 0 QQ (F0 m 185 ls []) := by
    intro K2 hK2 H locs ls x1 m_at m_lines m_mode m_feed m_state m_shown m_relative m_ending m_pause m_kind m_made m_all m_fromX m_fromY m_wayX m_wayY m_points m_centreX m_centreY m_there m_newMode m_newWay m_newFeed m_ends mx my mn hP hD hS hl hw
    unfold wq_M_look_185 at hw
    refine lv_aload_n hx hb d_M_look_185 rfl (lv_at hl 0 rfl) ?_
    refine lv_aload_n hx hb d_M_look_186 rfl (lv_at hl 0 rfl) ?_
    refine g_M_lines hx hb hts hown hK hP 0 rfl rfl d_M_look_187 ?_
    refine u_M_shown hx hb hts hown hK hP hD hS 0 rfl rfl d_M_look_190 (fun H locs hP hD hS => ?_)
    have hP : va_P D cls ((o_M a m_length m_at m_lines m_x m_y m_mode m_feed m_state m_pulses m_last m_lines m_relative m_ending m_time m_pause m_kind m_made m_all m_fromX m_fromY m_wayX m_wayY m_points m_centreX m_centreY m_there m_newMode m_newWay m_newFeed m_ends) :: (o_mt a K mt) :: (o_mx a K mx) :: (o_my a K my) :: (o_mn a K mn) :: tl) H := hP
    have hD : va_D A ((o_M a m_length m_at m_lines m_x m_y m_mode m_feed m_state m_pulses m_last m_lines m_relative m_ending m_time m_pause m_kind m_made m_all m_fromX m_fromY m_wayX m_wayY m_points m_centreX m_centreY m_there m_newMode m_newWay m_newFeed m_ends) :: (o_mt a K mt) :: (o_mx a K mx) :: (o_my a K my) :: (o_mn a K mn) :: tl) := hD
    exact J193 K2 hK2 H locs ls x1 m_at m_lines m_mode m_feed m_state m_lines m_relative m_ending m_pause m_kind m_made m_all m_fromX m_fromY m_wayX m_wayY m_points m_centreX m_centreY m_there m_newMode m_newWay m_newFeed m_ends mx my mn hP hD hS (lv_sub hl [0, 1] rfl) hw
  have J164 : ∀ (K2 : Int32 → Int32 → Int32 → Int32 → Int32 → Int32 → Int32 → Int32 → Int32 → Int64 → Int32 → Int32 → Int32 → Int32 → Int32 → Int32 → Int32 → Int32 → Int32 → Int32 → Int32 → Int32 → Int32 → Int32 → Int32 → (Nat → Int32) → (Nat → Int32) → (Nat → Int32) → Prop) (hK2 : ∀ (H : Heap) (locs : List Loc) (ls : Array Slot) (x1 m_at m_lines m_mode m_feed m_state m_shown m_relative m_ending : Int32) (m_pause : Int64) (m_kind m_made m_all m_fromX m_fromY m_wayX m_wayY m_points m_centreX m_centreY m_there m_newMode m_newWay m_newFeed m_ends : Int32) (mx my mn : Nat → Int32), va_P D cls ((o_M a m_length m_at m_lines m_x m_y m_mode m_feed m_state m_pulses m_last m_shown m_relative m_ending m_time m_pause m_kind m_made m_all m_fromX m_fromY m_wayX m_wayY m_points m_centreX m_centreY m_there m_newMode m_newWay m_newFeed m_ends) :: (o_mt a K mt) :: (o_mx a K mx) :: (o_my a K my) :: (o_mn a K mn) :: tl) H → va_D A ((o_M a m_length m_at m_lines m_x m_y m_mode m_feed m_state m_pulses m_last m_shown m_relative m_ending m_time m_pause m_kind m_made m_all m_fromX m_fromY m_wayX m_wayY m_points m_centreX m_centreY m_there m_newMode m_newWay m_newFeed m_ends) :: (o_mt a K mt) :: (o_mx a K mx) :: (o_my a K my) :: (o_mn a K mn) :: tl) → va_S A s.heap H locs → lv_has ls 4 [(0, .ref (a 10)), (1, .int x1)] → K2 x1 m_at m_lines m_mode m_feed m_state m_shown m_relative m_ending m_pause m_kind m_made m_all m_fromX m_fromY m_wayX m_wayY m_points m_centreX m_centreY m_there m_newMode m_newWay m_newFeed m_ends mx my mn → W p l e rm_M_look s m args below meth c H locs 0 0 QQ (F0 m 2 ls [])) (H : Heap) (locs : List Loc) (ls : Array Slot) (x1 x3 s1 m_at m_lines m_mode m_feed m_state m_shown m_relative m_ending : Int32) (m_pause : Int64) (m_kind m_made m_all m_fromX m_fromY m_wayX m_wayY m_points m_centreX m_centreY m_there m_newMode m_newWay m_newFeed m_ends : Int32) (mx my mn : Nat → Int32), va_P D cls ((o_M a m_length m_at m_lines m_x m_y m_mode m_feed m_state m_pulses m_last m_shown m_relative m_ending m_time m_pause m_kind m_made m_all m_fromX m_fromY m_wayX m_wayY m_points m_centreX m_centreY m_there m_newMode m_newWay m_newFeed m_ends) :: (o_mt a K mt) :: (o_mx a K mx) :: (o_my a K my) :: (o_mn a K mn) :: tl) H → va_D A ((o_M a m_length m_at m_lines m_x m_y m_mode m_feed m_state m_pulses m_last m_shown m_relative m_ending m_time m_pause m_kind m_made m_all m_fromX m_fromY m_wayX m_wayY m_points m_centreX m_centreY m_there m_newMode m_newWay m_newFeed m_ends) :: (o_mt a K mt) :: (o_mx a K mx) :: (o_my a K my) :: (o_mn a K mn) :: tl) → va_S A s.heap H locs → lv_has ls 4 [(0, .ref (a 10)), (1, .int x1), (3, .int x3)] → wq_M_look_164 Q K2 m_length m_x m_y mt x1 x3 s1 m_at m_lines m_mode m_feed m_state m_shown m_relative m_ending m_pause m_kind m_made m_all m_fromX m_fromY m_wayX m_wayY m_points m_centreX m_centreY m_there m_newMode m_newWay m_newFeed m_ends mx my mn → W p l e rm_M_look s m args below meth c H locs 0 0 QQ (F0 m 164 ls [.int s1, .ref (a 10)]) := by
    intro K2 hK2 H locs ls x1 x3 s1 m_at m_lines m_mode m_feed m_state m_shown m_relative m_ending m_pause m_kind m_made m_all m_fromX m_fromY m_wayX m_wayY m_points m_centreX m_centreY m_there m_newMode m_newWay m_newFeed m_ends mx my mn hP hD hS hl hw
    unfold wq_M_look_164 at hw
    refine u_M_ending hx hb hts hown hK hP hD hS 0 rfl rfl hw.1 d_M_look_164 (fun H locs hP hD hS => ?_)
    replace hw := hw.2
    have hP : va_P D cls ((o_M a m_length m_at m_lines m_x m_y m_mode m_feed m_state m_pulses m_last m_shown m_relative s1 m_time m_pause m_kind m_made m_all m_fromX m_fromY m_wayX m_wayY m_points m_centreX m_centreY m_there m_newMode m_newWay m_newFeed m_ends) :: (o_mt a K mt) :: (o_mx a K mx) :: (o_my a K my) :: (o_mn a K mn) :: tl) H := hP
    have hD : va_D A ((o_M a m_length m_at m_lines m_x m_y m_mode m_feed m_state m_pulses m_last m_shown m_relative s1 m_time m_pause m_kind m_made m_all m_fromX m_fromY m_wayX m_wayY m_points m_centreX m_centreY m_there m_newMode m_newWay m_newFeed m_ends) :: (o_mt a K mt) :: (o_mx a K mx) :: (o_my a K my) :: (o_mn a K mn) :: tl) := hD
    refine lv_iload_n hx hb d_M_look_167 rfl (lv_at hl 2 rfl) ?_
    refine lv_if_gt (tgt := 185) hx hb d_M_look_168 (by decide) (fun hc => ?_) (fun hc => ?_)
    · replace hw := hw.1 hc
      exact J185 K2 hK2 H locs ls x1 m_at m_lines m_mode m_feed m_state m_shown m_relative s1 m_pause m_kind m_made m_all m_fromX m_fromY m_wayX m_wayY m_points m_centreX m_centreY m_there m_newMode m_newWay m_newFeed m_ends mx my mn hP hD hS (lv_sub hl [0, 1] rfl) hw
    · replace hw := hw.2 hc
      refine lv_aload_n hx hb d_M_look_171 rfl (lv_at hl 0 rfl) ?_
      refine g_M_there hx hb hts hown hK hP 0 rfl rfl d_M_look_172 ?_
      refine lv_if_ne (tgt := 185) hx hb d_M_look_175 (by decide) (fun hc => ?_) (fun hc => ?_)
      · replace hw := hw.1 hc
        exact J185 K2 hK2 H locs ls x1 m_at m_lines m_mode m_feed m_state m_shown m_relative s1 m_pause m_kind m_made m_all m_fromX m_fromY m_wayX m_wayY m_points m_centreX m_centreY m_there m_newMode m_newWay m_newFeed m_ends mx my mn hP hD hS (lv_sub hl [0, 1] rfl) hw
      · replace hw := hw.2 hc
        refine lv_aload_n hx hb d_M_look_178 rfl (lv_at hl 0 rfl) ?_
        refine g_M_ending hx hb hts hown hK hP 0 rfl rfl d_M_look_179 ?_
        refine lv_if_eq (tgt := 193) hx hb d_M_look_182 (by decide) (fun hc => ?_) (fun hc => ?_)
        · replace hw := hw.1 hc
          exact J193 K2 hK2 H locs ls x1 m_at m_lines m_mode m_feed m_state m_shown m_relative s1 m_pause m_kind m_made m_all m_fromX m_fromY m_wayX m_wayY m_points m_centreX m_centreY m_there m_newMode m_newWay m_newFeed m_ends mx my mn hP hD hS (lv_sub hl [0, 1] rfl) hw
        · replace hw := hw.2 hc
          exact J185 K2 hK2 H locs ls x1 m_at m_lines m_mode m_feed m_state m_shown m_relative s1 m_pause m_kind m_made m_all m_fromX m_fromY m_wayX m_wayY m_points m_centreX m_centreY m_there m_newMode m_newWay m_newFeed m_ends mx my mn hP hD hS (lv_sub hl [0, 1] rfl) hw
  have J163 : ∀ (K2 : Int32 → Int32 → Int32 → Int32 → Int32 → Int32 → Int32 → Int32 → Int32 → Int64 → Int32 → Int32 → Int32 → Int32 → Int32 → Int32 → Int32 → Int32 → Int32 → Int32 → Int32 → Int32 → Int32 → Int32 → Int32 → (Nat → Int32) → (Nat → Int32) → (Nat → Int32) → Prop) (hK2 : ∀ (H : Heap) (locs : List Loc) (ls : Array Slot) (x1 m_at m_lines m_mode m_feed m_state m_shown m_relative m_ending : Int32) (m_pause : Int64) (m_kind m_made m_all m_fromX m_fromY m_wayX m_wayY m_points m_centreX m_centreY m_there m_newMode m_newWay m_newFeed m_ends : Int32) (mx my mn : Nat → Int32), va_P D cls ((o_M a m_length m_at m_lines m_x m_y m_mode m_feed m_state m_pulses m_last m_shown m_relative m_ending m_time m_pause m_kind m_made m_all m_fromX m_fromY m_wayX m_wayY m_points m_centreX m_centreY m_there m_newMode m_newWay m_newFeed m_ends) :: (o_mt a K mt) :: (o_mx a K mx) :: (o_my a K my) :: (o_mn a K mn) :: tl) H → va_D A ((o_M a m_length m_at m_lines m_x m_y m_mode m_feed m_state m_pulses m_last m_shown m_relative m_ending m_time m_pause m_kind m_made m_all m_fromX m_fromY m_wayX m_wayY m_points m_centreX m_centreY m_there m_newMode m_newWay m_newFeed m_ends) :: (o_mt a K mt) :: (o_mx a K mx) :: (o_my a K my) :: (o_mn a K mn) :: tl) → va_S A s.heap H locs → lv_has ls 4 [(0, .ref (a 10)), (1, .int x1)] → K2 x1 m_at m_lines m_mode m_feed m_state m_shown m_relative m_ending m_pause m_kind m_made m_all m_fromX m_fromY m_wayX m_wayY m_points m_centreX m_centreY m_there m_newMode m_newWay m_newFeed m_ends mx my mn → W p l e rm_M_look s m args below meth c H locs 0 0 QQ (F0 m 2 ls [])) (H : Heap) (locs : List Loc) (ls : Array Slot) (x1 x3 m_at m_lines m_mode m_feed m_state m_shown m_relative m_ending : Int32) (m_pause : Int64) (m_kind m_made m_all m_fromX m_fromY m_wayX m_wayY m_points m_centreX m_centreY m_there m_newMode m_newWay m_newFeed m_ends : Int32) (mx my mn : Nat → Int32), va_P D cls ((o_M a m_length m_at m_lines m_x m_y m_mode m_feed m_state m_pulses m_last m_shown m_relative m_ending m_time m_pause m_kind m_made m_all m_fromX m_fromY m_wayX m_wayY m_points m_centreX m_centreY m_there m_newMode m_newWay m_newFeed m_ends) :: (o_mt a K mt) :: (o_mx a K mx) :: (o_my a K my) :: (o_mn a K mn) :: tl) H → va_D A ((o_M a m_length m_at m_lines m_x m_y m_mode m_feed m_state m_pulses m_last m_shown m_relative m_ending m_time m_pause m_kind m_made m_all m_fromX m_fromY m_wayX m_wayY m_points m_centreX m_centreY m_there m_newMode m_newWay m_newFeed m_ends) :: (o_mt a K mt) :: (o_mx a K mx) :: (o_my a K my) :: (o_mn a K mn) :: tl) → va_S A s.heap H locs → lv_has ls 4 [(0, .ref (a 10)), (1, .int x1), (3, .int x3)] → wq_M_look_163 Q K2 m_length m_x m_y mt x1 x3 m_at m_lines m_mode m_feed m_state m_shown m_relative m_ending m_pause m_kind m_made m_all m_fromX m_fromY m_wayX m_wayY m_points m_centreX m_centreY m_there m_newMode m_newWay m_newFeed m_ends mx my mn → W p l e rm_M_look s m args below meth c H locs 0 0 QQ (F0 m 163 ls [.ref (a 10)]) := by
    intro K2 hK2 H locs ls x1 x3 m_at m_lines m_mode m_feed m_state m_shown m_relative m_ending m_pause m_kind m_made m_all m_fromX m_fromY m_wayX m_wayY m_points m_centreX m_centreY m_there m_newMode m_newWay m_newFeed m_ends mx my mn hP hD hS hl hw
    unfold wq_M_look_163 at hw
    refine lv_iconst (v := (0 : Int32)) hx hb d_M_look_163 (by decide) ?_
    exact J164 K2 hK2 H locs ls x1 x3 (0 : Int32) m_at m_lines m_mode m_feed m_state m_shown m_relative m_ending m_pause m_kind m_made m_all m_fromX m_fromY m_wayX m_wayY m_points m_centreX m_centreY m_there m_newMode m_newWay m_newFeed m_ends mx my mn hP hD hS (lv_sub hl [0, 1, 2] rfl) hw
  have J147 : ∀ (K2 : Int32 → Int32 → Int32 → Int32 → Int32 → Int32 → Int32 → Int32 → Int32 → Int64 → Int32 → Int32 → Int32 → Int32 → Int32 → Int32 → Int32 → Int32 → Int32 → Int32 → Int32 → Int32 → Int32 → Int32 → Int32 → (Nat → Int32) → (Nat → Int32) → (Nat → Int32) → Prop) (hK2 : ∀ (H : Heap) (locs : List Loc) (ls : Array Slot) (x1 m_at m_lines m_mode m_feed m_state m_shown m_relative m_ending : Int32) (m_pause : Int64) (m_kind m_made m_all m_fromX m_fromY m_wayX m_wayY m_points m_centreX m_centreY m_there m_newMode m_newWay m_newFeed m_ends : Int32) (mx my mn : Nat → Int32), va_P D cls ((o_M a m_length m_at m_lines m_x m_y m_mode m_feed m_state m_pulses m_last m_shown m_relative m_ending m_time m_pause m_kind m_made m_all m_fromX m_fromY m_wayX m_wayY m_points m_centreX m_centreY m_there m_newMode m_newWay m_newFeed m_ends) :: (o_mt a K mt) :: (o_mx a K mx) :: (o_my a K my) :: (o_mn a K mn) :: tl) H → va_D A ((o_M a m_length m_at m_lines m_x m_y m_mode m_feed m_state m_pulses m_last m_shown m_relative m_ending m_time m_pause m_kind m_made m_all m_fromX m_fromY m_wayX m_wayY m_points m_centreX m_centreY m_there m_newMode m_newWay m_newFeed m_ends) :: (o_mt a K mt) :: (o_mx a K mx) :: (o_my a K my) :: (o_mn a K mn) :: tl) → va_S A s.heap H locs → lv_has ls 4 [(0, .ref (a 10)), (1, .int x1)] → K2 x1 m_at m_lines m_mode m_feed m_state m_shown m_relative m_ending m_pause m_kind m_made m_all m_fromX m_fromY m_wayX m_wayY m_points m_centreX m_centreY m_there m_newMode m_newWay m_newFeed m_ends mx my mn → W p l e rm_M_look s m args below meth c H locs 0 0 QQ (F0 m 2 ls [])) (H : Heap) (locs : List Loc) (ls : Array Slot) (x1 x3 m_at m_lines m_mode m_feed m_state m_shown m_relative m_ending : Int32) (m_pause : Int64) (m_kind m_made m_all m_fromX m_fromY m_wayX m_wayY m_points m_centreX m_centreY m_there m_newMode m_newWay m_newFeed m_ends : Int32) (mx my mn : Nat → Int32), va_P D cls ((o_M a m_length m_at m_lines m_x m_y m_mode m_feed m_state m_pulses m_last m_shown m_relative m_ending m_time m_pause m_kind m_made m_all m_fromX m_fromY m_wayX m_wayY m_points m_centreX m_centreY m_there m_newMode m_newWay m_newFeed m_ends) :: (o_mt a K mt) :: (o_mx a K mx) :: (o_my a K my) :: (o_mn a K mn) :: tl) H → va_D A ((o_M a m_length m_at m_lines m_x m_y m_mode m_feed m_state m_pulses m_last m_shown m_relative m_ending m_time m_pause m_kind m_made m_all m_fromX m_fromY m_wayX m_wayY m_points m_centreX m_centreY m_there m_newMode m_newWay m_newFeed m_ends) :: (o_mt a K mt) :: (o_mx a K mx) :: (o_my a K my) :: (o_mn a K mn) :: tl) → va_S A s.heap H locs → lv_has ls 4 [(0, .ref (a 10)), (1, .int x1), (3, .int x3)] → wq_M_look_147 Q K2 m_length m_x m_y mt x1 x3 m_at m_lines m_mode m_feed m_state m_shown m_relative m_ending m_pause m_kind m_made m_all m_fromX m_fromY m_wayX m_wayY m_points m_centreX m_centreY m_there m_newMode m_newWay m_newFeed m_ends mx my mn → W p l e rm_M_look s m args below meth c H locs 0 0 QQ (F0 m 147 ls []) := by
    intro K2 hK2 H locs ls x1 x3 m_at m_lines m_mode m_feed m_state m_shown m_relative m_ending m_pause m_kind m_made m_all m_fromX m_fromY m_wayX m_wayY m_points m_centreX m_centreY m_there m_newMode m_newWay m_newFeed m_ends mx my mn hP hD hS hl hw
    unfold wq_M_look_147 at hw
    refine lv_aload_n hx hb d_M_look_147 rfl (lv_at hl 0 rfl) ?_
    refine lv_iload_n hx hb d_M_look_148 rfl (lv_at hl 2 rfl) ?_
    refine lv_if_ne (tgt := 163) hx hb d_M_look_149 (by decide) (fun hc => ?_) (fun hc => ?_)
    · replace hw := hw.1 hc
      exact J163 K2 hK2 H locs ls x1 x3 m_at m_lines m_mode m_feed m_state m_shown m_relative m_ending m_pause m_kind m_made m_all m_fromX m_fromY m_wayX m_wayY m_points m_centreX m_centreY m_there m_newMode m_newWay m_newFeed m_ends mx my mn hP hD hS (lv_sub hl [0, 1, 2] rfl) hw
    · replace hw := hw.2 hc
      refine lv_aload_n hx hb d_M_look_152 rfl (lv_at hl 0 rfl) ?_
      refine g_M_ends hx hb hts hown hK hP 0 rfl rfl d_M_look_153 ?_
      refine lv_if_le (tgt := 163) hx hb d_M_look_156 (by decide) (fun hc => ?_) (fun hc => ?_)
      · replace hw := hw.1 hc
        exact J163 K2 hK2 H locs ls x1 x3 m_at m_lines m_mode m_feed m_state m_shown m_relative m_ending m_pause m_kind m_made m_all m_fromX m_fromY m_wayX m_wayY m_points m_centreX m_centreY m_there m_newMode m_newWay m_newFeed m_ends mx my mn hP hD hS (lv_sub hl [0, 1, 2] rfl) hw
      · replace hw := hw.2 hc
        refine lv_iconst (v := (1 : Int32)) hx hb d_M_look_159 (by decide) ?_
        refine lv_goto (tgt := 164) hx hb d_M_look_160 (by decide) ?_
        exact J164 K2 hK2 H locs ls x1 x3 (1 : Int32) m_at m_lines m_mode m_feed m_state m_shown m_relative m_ending m_pause m_kind m_made m_all m_fromX m_fromY m_wayX m_wayY m_points m_centreX m_centreY m_there m_newMode m_newWay m_newFeed m_ends mx my mn hP hD hS (lv_sub hl [0, 1, 2] rfl) hw
  have J138 : ∀ (K2 : Int32 → Int32 → Int32 → Int32 → Int32 → Int32 → Int32 → Int32 → Int32 → Int64 → Int32 → Int32 → Int32 → Int32 → Int32 → Int32 → Int32 → Int32 → Int32 → Int32 → Int32 → Int32 → Int32 → Int32 → Int32 → (Nat → Int32) → (Nat → Int32) → (Nat → Int32) → Prop) (hK2 : ∀ (H : Heap) (locs : List Loc) (ls : Array Slot) (x1 m_at m_lines m_mode m_feed m_state m_shown m_relative m_ending : Int32) (m_pause : Int64) (m_kind m_made m_all m_fromX m_fromY m_wayX m_wayY m_points m_centreX m_centreY m_there m_newMode m_newWay m_newFeed m_ends : Int32) (mx my mn : Nat → Int32), va_P D cls ((o_M a m_length m_at m_lines m_x m_y m_mode m_feed m_state m_pulses m_last m_shown m_relative m_ending m_time m_pause m_kind m_made m_all m_fromX m_fromY m_wayX m_wayY m_points m_centreX m_centreY m_there m_newMode m_newWay m_newFeed m_ends) :: (o_mt a K mt) :: (o_mx a K mx) :: (o_my a K my) :: (o_mn a K mn) :: tl) H → va_D A ((o_M a m_length m_at m_lines m_x m_y m_mode m_feed m_state m_pulses m_last m_shown m_relative m_ending m_time m_pause m_kind m_made m_all m_fromX m_fromY m_wayX m_wayY m_points m_centreX m_centreY m_there m_newMode m_newWay m_newFeed m_ends) :: (o_mt a K mt) :: (o_mx a K mx) :: (o_my a K my) :: (o_mn a K mn) :: tl) → va_S A s.heap H locs → lv_has ls 4 [(0, .ref (a 10)), (1, .int x1)] → K2 x1 m_at m_lines m_mode m_feed m_state m_shown m_relative m_ending m_pause m_kind m_made m_all m_fromX m_fromY m_wayX m_wayY m_points m_centreX m_centreY m_there m_newMode m_newWay m_newFeed m_ends mx my mn → W p l e rm_M_look s m args below meth c H locs 0 0 QQ (F0 m 2 ls [])) (H : Heap) (locs : List Loc) (ls : Array Slot) (x1 x3 m_at m_lines m_mode m_feed m_state m_shown m_relative m_ending : Int32) (m_pause : Int64) (m_kind m_made m_all m_fromX m_fromY m_wayX m_wayY m_points m_centreX m_centreY m_there m_newMode m_newWay m_newFeed m_ends : Int32) (mx my mn : Nat → Int32), va_P D cls ((o_M a m_length m_at m_lines m_x m_y m_mode m_feed m_state m_pulses m_last m_shown m_relative m_ending m_time m_pause m_kind m_made m_all m_fromX m_fromY m_wayX m_wayY m_points m_centreX m_centreY m_there m_newMode m_newWay m_newFeed m_ends) :: (o_mt a K mt) :: (o_mx a K mx) :: (o_my a K my) :: (o_mn a K mn) :: tl) H → va_D A ((o_M a m_length m_at m_lines m_x m_y m_mode m_feed m_state m_pulses m_last m_shown m_relative m_ending m_time m_pause m_kind m_made m_all m_fromX m_fromY m_wayX m_wayY m_points m_centreX m_centreY m_there m_newMode m_newWay m_newFeed m_ends) :: (o_mt a K mt) :: (o_mx a K mx) :: (o_my a K my) :: (o_mn a K mn) :: tl) → va_S A s.heap H locs → lv_has ls 4 [(0, .ref (a 10)), (1, .int x1), (3, .int x3)] → wq_M_look_138 Q K2 m_length m_x m_y mt x1 x3 m_at m_lines m_mode m_feed m_state m_shown m_relative m_ending m_pause m_kind m_made m_all m_fromX m_fromY m_wayX m_wayY m_points m_centreX m_centreY m_there m_newMode m_newWay m_newFeed m_ends mx my mn → W p l e rm_M_look s m args below meth c H locs 0 0 QQ (F0 m 138 ls []) := by
    intro K2 hK2 H locs ls x1 x3 m_at m_lines m_mode m_feed m_state m_shown m_relative m_ending m_pause m_kind m_made m_all m_fromX m_fromY m_wayX m_wayY m_points m_centreX m_centreY m_there m_newMode m_newWay m_newFeed m_ends mx my mn hP hD hS hl hw
    unfold wq_M_look_138 at hw
    refine lv_iload_n hx hb d_M_look_138 rfl (lv_at hl 2 rfl) ?_
    refine lv_if_le (tgt := 147) hx hb d_M_look_139 (by decide) (fun hc => ?_) (fun hc => ?_)
    · replace hw := hw.1 hc
      exact J147 K2 hK2 H locs ls x1 x3 m_at m_lines m_mode m_feed m_state m_shown m_relative m_ending m_pause m_kind m_made m_all m_fromX m_fromY m_wayX m_wayY m_points m_centreX m_centreY m_there m_newMode m_newWay m_newFeed m_ends mx my mn hP hD hS (lv_sub hl [0, 1, 2] rfl) hw
    · replace hw := hw.2 hc
      refine lv_aload_n hx hb d_M_look_142 rfl (lv_at hl 0 rfl) ?_
      refine lv_iload_n hx hb d_M_look_143 rfl (lv_at hl 2 rfl) ?_
      refine u_M_state hx hb hts hown hK hP hD hS 0 rfl rfl d_M_look_144 (fun H locs hP hD hS => ?_)
      have hP : va_P D cls ((o_M a m_length m_at m_lines m_x m_y m_mode m_feed x3 m_pulses m_last m_shown m_relative m_ending m_time m_pause m_kind m_made m_all m_fromX m_fromY m_wayX m_wayY m_points m_centreX m_centreY m_there m_newMode m_newWay m_newFeed m_ends) :: (o_mt a K mt) :: (o_mx a K mx) :: (o_my a K my) :: (o_mn a K mn) :: tl) H := hP
      have hD : va_D A ((o_M a m_length m_at m_lines m_x m_y m_mode m_feed x3 m_pulses m_last m_shown m_relative m_ending m_time m_pause m_kind m_made m_all m_fromX m_fromY m_wayX m_wayY m_points m_centreX m_centreY m_there m_newMode m_newWay m_newFeed m_ends) :: (o_mt a K mt) :: (o_mx a K mx) :: (o_my a K my) :: (o_mn a K mn) :: tl) := hD
      exact J147 K2 hK2 H locs ls x1 x3 m_at m_lines m_mode m_feed x3 m_shown m_relative m_ending m_pause m_kind m_made m_all m_fromX m_fromY m_wayX m_wayY m_points m_centreX m_centreY m_there m_newMode m_newWay m_newFeed m_ends mx my mn hP hD hS (lv_sub hl [0, 1, 2] rfl) hw
  have J102 : ∀ (K2 : Int32 → Int32 → Int32 → Int32 → Int32 → Int32 → Int32 → Int32 → Int32 → Int64 → Int32 → Int32 → Int32 → Int32 → Int32 → Int32 → Int32 → Int32 → Int32 → Int32 → Int32 → Int32 → Int32 → Int32 → Int32 → (Nat → Int32) → (Nat → Int32) → (Nat → Int32) → Prop) (hK2 : ∀ (H : Heap) (locs : List Loc) (ls : Array Slot) (x1 m_at m_lines m_mode m_feed m_state m_shown m_relative m_ending : Int32) (m_pause : Int64) (m_kind m_made m_all m_fromX m_fromY m_wayX m_wayY m_points m_centreX m_centreY m_there m_newMode m_newWay m_newFeed m_ends : Int32) (mx my mn : Nat → Int32), va_P D cls ((o_M a m_length m_at m_lines m_x m_y m_mode m_feed m_state m_pulses m_last m_shown m_relative m_ending m_time m_pause m_kind m_made m_all m_fromX m_fromY m_wayX m_wayY m_points m_centreX m_centreY m_there m_newMode m_newWay m_newFeed m_ends) :: (o_mt a K mt) :: (o_mx a K mx) :: (o_my a K my) :: (o_mn a K mn) :: tl) H → va_D A ((o_M a m_length m_at m_lines m_x m_y m_mode m_feed m_state m_pulses m_last m_shown m_relative m_ending m_time m_pause m_kind m_made m_all m_fromX m_fromY m_wayX m_wayY m_points m_centreX m_centreY m_there m_newMode m_newWay m_newFeed m_ends) :: (o_mt a K mt) :: (o_mx a K mx) :: (o_my a K my) :: (o_mn a K mn) :: tl) → va_S A s.heap H locs → lv_has ls 4 [(0, .ref (a 10)), (1, .int x1)] → K2 x1 m_at m_lines m_mode m_feed m_state m_shown m_relative m_ending m_pause m_kind m_made m_all m_fromX m_fromY m_wayX m_wayY m_points m_centreX m_centreY m_there m_newMode m_newWay m_newFeed m_ends mx my mn → W p l e rm_M_look s m args below meth c H locs 0 0 QQ (F0 m 2 ls [])) (H : Heap) (locs : List Loc) (ls : Array Slot) (x1 x2 m_at m_lines m_mode m_feed m_state m_shown m_relative m_ending : Int32) (m_pause : Int64) (m_kind m_made m_all m_fromX m_fromY m_wayX m_wayY m_points m_centreX m_centreY m_there m_newMode m_newWay m_newFeed m_ends : Int32) (mx my mn : Nat → Int32), va_P D cls ((o_M a m_length m_at m_lines m_x m_y m_mode m_feed m_state m_pulses m_last m_shown m_relative m_ending m_time m_pause m_kind m_made m_all m_fromX m_fromY m_wayX m_wayY m_points m_centreX m_centreY m_there m_newMode m_newWay m_newFeed m_ends) :: (o_mt a K mt) :: (o_mx a K mx) :: (o_my a K my) :: (o_mn a K mn) :: tl) H → va_D A ((o_M a m_length m_at m_lines m_x m_y m_mode m_feed m_state m_pulses m_last m_shown m_relative m_ending m_time m_pause m_kind m_made m_all m_fromX m_fromY m_wayX m_wayY m_points m_centreX m_centreY m_there m_newMode m_newWay m_newFeed m_ends) :: (o_mt a K mt) :: (o_mx a K mx) :: (o_my a K my) :: (o_mn a K mn) :: tl) → va_S A s.heap H locs → lv_has ls 4 [(0, .ref (a 10)), (1, .int x1), (2, .int x2)] → wq_M_look_102 Q K2 m_length m_x m_y mt x1 x2 m_at m_lines m_mode m_feed m_state m_shown m_relative m_ending m_pause m_kind m_made m_all m_fromX m_fromY m_wayX m_wayY m_points m_centreX m_centreY m_there m_newMode m_newWay m_newFeed m_ends mx my mn → W p l e rm_M_look s m args below meth c H locs 0 0 QQ (F0 m 102 ls []) := by
    intro K2 hK2 H locs ls x1 x2 m_at m_lines m_mode m_feed m_state m_shown m_relative m_ending m_pause m_kind m_made m_all m_fromX m_fromY m_wayX m_wayY m_points m_centreX m_centreY m_there m_newMode m_newWay m_newFeed m_ends mx my mn hP hD hS hl hw
    unfold wq_M_look_102 at hw
    refine lv_aload_n hx hb d_M_look_102 rfl (lv_at hl 0 rfl) ?_
    refine lv_aload_n hx hb d_M_look_103 rfl (lv_at hl 0 rfl) ?_
    refine g_M_at hx hb hts hown hK hP 0 rfl rfl d_M_look_104 ?_
    refine lv_iload_n hx hb d_M_look_107 rfl (lv_at hl 2 rfl) ?_
    refine my_calli (va_runV (As := [.int m_at, .int x2]) (rest := []) ⟨hx, hb, hml, hown, hts⟩ (c_M_read l H.size) (cw_M_165 hts ⟨Nat.le_of_ble_eq_true rfl, Nat.le_of_ble_eq_true rfl⟩) (my_preV hK hP hX hD hS hA 0 rfl rfl hw) rfl rfl hl.1 rfl (lv_room (Nat.le_of_ble_eq_true rfl)) d_M_look_108 ⟨Nat.le_refl _, Nat.le_refl _⟩) hD hS hA (fun r108 u H locs hw hP hD hS => ?_)
    obtain ⟨m_there_108, m_newMode_108, m_newWay_108, m_newFeed_108, m_ends_108, mn_108⟩ := u
    dsimp only at hw
    have hP : va_P D cls ((o_M a m_length m_at m_lines m_x m_y m_mode m_feed m_state m_pulses m_last m_shown m_relative m_ending m_time m_pause m_kind m_made m_all m_fromX m_fromY m_wayX m_wayY m_points m_centreX m_centreY m_there_108 m_newMode_108 m_newWay_108 m_newFeed_108 m_ends_108) :: (o_mt a K mt) :: (o_mx a K mx) :: (o_my a K my) :: (o_mn a K mn_108) :: tl) H := hP
    have hD : va_D A ((o_M a m_length m_at m_lines m_x m_y m_mode m_feed m_state m_pulses m_last m_shown m_relative m_ending m_time m_pause m_kind m_made m_all m_fromX m_fromY m_wayX m_wayY m_points m_centreX m_centreY m_there_108 m_newMode_108 m_newWay_108 m_newFeed_108 m_ends_108) :: (o_mt a K mt) :: (o_mx a K mx) :: (o_my a K my) :: (o_mn a K mn_108) :: tl) := hD
    refine lv_istore_n (lv' := [(3, .int r108), (0, .ref (a 10)), (1, .int x1), (2, .int x2)]) hx hb d_M_look_111 rfl hl (Nat.le_of_ble_eq_true rfl) rfl (fun ls hl => ?_)
    refine lv_aload_n hx hb d_M_look_112 rfl (lv_at hl 1 rfl) ?_
    refine lv_aload_n hx hb d_M_look_113 rfl (lv_at hl 1 rfl) ?_
    refine g_M_lines hx hb hts hown hK hP 0 rfl rfl d_M_look_114 ?_
    refine lv_iconst (v := (1 : Int32)) hx hb d_M_look_117 (by decide) ?_
    refine lv_iadd hx hb d_M_look_118 ?_
    refine u_M_lines hx hb hts hown hK hP hD hS 0 rfl rfl d_M_look_119 (fun H locs hP hD hS => ?_)
    have hP : va_P D cls ((o_M a m_length m_at (m_lines + (1 : Int32)) m_x m_y m_mode m_feed m_state m_pulses m_last m_shown m_relative m_ending m_time m_pause m_kind m_made m_all m_fromX m_fromY m_wayX m_wayY m_points m_centreX m_centreY m_there_108 m_newMode_108 m_newWay_108 m_newFeed_108 m_ends_108) :: (o_mt a K mt) :: (o_mx a K mx) :: (o_my a K my) :: (o_mn a K mn_108) :: tl) H := hP
    have hD : va_D A ((o_M a m_length m_at (m_lines + (1 : Int32)) m_x m_y m_mode m_feed m_state m_pulses m_last m_shown m_relative m_ending m_time m_pause m_kind m_made m_all m_fromX m_fromY m_wayX m_wayY m_points m_centreX m_centreY m_there_108 m_newMode_108 m_newWay_108 m_newFeed_108 m_ends_108) :: (o_mt a K mt) :: (o_mx a K mx) :: (o_my a K my) :: (o_mn a K mn_108) :: tl) := hD
    refine lv_aload_n hx hb d_M_look_122 rfl (lv_at hl 1 rfl) ?_
    refine lv_iload_n hx hb d_M_look_123 rfl (lv_at hl 3 rfl) ?_
    refine lv_iconst (v := (1 : Int32)) hx hb d_M_look_124 (by decide) ?_
    refine lv_iadd hx hb d_M_look_125 ?_
    refine u_M_at hx hb hts hown hK hP hD hS 0 rfl rfl d_M_look_126 (fun H locs hP hD hS => ?_)
    have hP : va_P D cls ((o_M a m_length (x2 + (1 : Int32)) (m_lines + (1 : Int32)) m_x m_y m_mode m_feed m_state m_pulses m_last m_shown m_relative m_ending m_time m_pause m_kind m_made m_all m_fromX m_fromY m_wayX m_wayY m_points m_centreX m_centreY m_there_108 m_newMode_108 m_newWay_108 m_newFeed_108 m_ends_108) :: (o_mt a K mt) :: (o_mx a K mx) :: (o_my a K my) :: (o_mn a K mn_108) :: tl) H := hP
    have hD : va_D A ((o_M a m_length (x2 + (1 : Int32)) (m_lines + (1 : Int32)) m_x m_y m_mode m_feed m_state m_pulses m_last m_shown m_relative m_ending m_time m_pause m_kind m_made m_all m_fromX m_fromY m_wayX m_wayY m_points m_centreX m_centreY m_there_108 m_newMode_108 m_newWay_108 m_newFeed_108 m_ends_108) :: (o_mt a K mt) :: (o_mx a K mx) :: (o_my a K my) :: (o_mn a K mn_108) :: tl) := hD
    refine lv_iload_n hx hb d_M_look_129 rfl (lv_at hl 0 rfl) ?_
    refine lv_if_ne (tgt := 138) hx hb d_M_look_130 (by decide) (fun hc => ?_) (fun hc => ?_)
    · replace hw := hw.1 hc
      exact J138 K2 hK2 H locs ls x1 r108 (x2 + (1 : Int32)) (m_lines + (1 : Int32)) m_mode m_feed m_state m_shown m_relative m_ending m_pause m_kind m_made m_all m_fromX m_fromY m_wayX m_wayY m_points m_centreX m_centreY m_there_108 m_newMode_108 m_newWay_108 m_newFeed_108 m_ends_108 mx my mn_108 hP hD hS (lv_sub hl [1, 2, 0] rfl) hw
    · replace hw := hw.2 hc
      refine lv_aload_n hx hb d_M_look_133 rfl (lv_at hl 1 rfl) ?_
      refine my_calli (va_runV (As := []) (rest := []) ⟨hx, hb, hml, hown, hts⟩ (c_M_act l H.size) (cw_M_168 hts ⟨Nat.le_of_ble_eq_true rfl, Nat.le_of_ble_eq_true rfl⟩) (my_preV hK hP hX hD hS hA 0 rfl rfl hw) rfl rfl hl.1 rfl (lv_room (Nat.le_of_ble_eq_true rfl)) d_M_look_134 ⟨Nat.le_refl _, Nat.le_refl _⟩) hD hS hA (fun r134 u H locs hw hP hD hS => ?_)
      obtain ⟨m_mode_134, m_feed_134, m_relative_134, m_pause_134, m_kind_134, m_made_134, m_all_134, m_fromX_134, m_fromY_134, m_wayX_134, m_wayY_134, m_points_134, m_centreX_134, m_centreY_134, mx_134, my_134⟩ := u
      dsimp only at hw
      have hP : va_P D cls ((o_M a m_length (x2 + (1 : Int32)) (m_lines + (1 : Int32)) m_x m_y m_mode_134 m_feed_134 m_state m_pulses m_last m_shown m_relative_134 m_ending m_time m_pause_134 m_kind_134 m_made_134 m_all_134 m_fromX_134 m_fromY_134 m_wayX_134 m_wayY_134 m_points_134 m_centreX_134 m_centreY_134 m_there_108 m_newMode_108 m_newWay_108 m_newFeed_108 m_ends_108) :: (o_mt a K mt) :: (o_mx a K mx_134) :: (o_my a K my_134) :: (o_mn a K mn_108) :: tl) H := hP
      have hD : va_D A ((o_M a m_length (x2 + (1 : Int32)) (m_lines + (1 : Int32)) m_x m_y m_mode_134 m_feed_134 m_state m_pulses m_last m_shown m_relative_134 m_ending m_time m_pause_134 m_kind_134 m_made_134 m_all_134 m_fromX_134 m_fromY_134 m_wayX_134 m_wayY_134 m_points_134 m_centreX_134 m_centreY_134 m_there_108 m_newMode_108 m_newWay_108 m_newFeed_108 m_ends_108) :: (o_mt a K mt) :: (o_mx a K mx_134) :: (o_my a K my_134) :: (o_mn a K mn_108) :: tl) := hD
      refine lv_istore_n (lv' := [(3, .int r134), (0, .ref (a 10)), (1, .int x1), (2, .int x2)]) hx hb d_M_look_137 rfl hl (Nat.le_of_ble_eq_true rfl) rfl (fun ls hl => ?_)
      exact J138 K2 hK2 H locs ls x1 r134 (x2 + (1 : Int32)) (m_lines + (1 : Int32)) m_mode_134 m_feed_134 m_state m_shown m_relative_134 m_ending m_pause_134 m_kind_134 m_made_134 m_all_134 m_fromX_134 m_fromY_134 m_wayX_134 m_wayY_134 m_points_134 m_centreX_134 m_centreY_134 m_there_108 m_newMode_108 m_newWay_108 m_newFeed_108 m_ends_108 mx_134 my_134 mn_108 hP hD hS (lv_sub hl [1, 2, 0] rfl) hw
  have J76 : ∀ (K2 : Int32 → Int32 → Int32 → Int32 → Int32 → Int32 → Int32 → Int32 → Int32 → Int64 → Int32 → Int32 → Int32 → Int32 → Int32 → Int32 → Int32 → Int32 → Int32 → Int32 → Int32 → Int32 → Int32 → Int32 → Int32 → (Nat → Int32) → (Nat → Int32) → (Nat → Int32) → Prop) (hK2 : ∀ (H : Heap) (locs : List Loc) (ls : Array Slot) (x1 m_at m_lines m_mode m_feed m_state m_shown m_relative m_ending : Int32) (m_pause : Int64) (m_kind m_made m_all m_fromX m_fromY m_wayX m_wayY m_points m_centreX m_centreY m_there m_newMode m_newWay m_newFeed m_ends : Int32) (mx my mn : Nat → Int32), va_P D cls ((o_M a m_length m_at m_lines m_x m_y m_mode m_feed m_state m_pulses m_last m_shown m_relative m_ending m_time m_pause m_kind m_made m_all m_fromX m_fromY m_wayX m_wayY m_points m_centreX m_centreY m_there m_newMode m_newWay m_newFeed m_ends) :: (o_mt a K mt) :: (o_mx a K mx) :: (o_my a K my) :: (o_mn a K mn) :: tl) H → va_D A ((o_M a m_length m_at m_lines m_x m_y m_mode m_feed m_state m_pulses m_last m_shown m_relative m_ending m_time m_pause m_kind m_made m_all m_fromX m_fromY m_wayX m_wayY m_points m_centreX m_centreY m_there m_newMode m_newWay m_newFeed m_ends) :: (o_mt a K mt) :: (o_mx a K mx) :: (o_my a K my) :: (o_mn a K mn) :: tl) → va_S A s.heap H locs → lv_has ls 4 [(0, .ref (a 10)), (1, .int x1)] → K2 x1 m_at m_lines m_mode m_feed m_state m_shown m_relative m_ending m_pause m_kind m_made m_all m_fromX m_fromY m_wayX m_wayY m_points m_centreX m_centreY m_there m_newMode m_newWay m_newFeed m_ends mx my mn → W p l e rm_M_look s m args below meth c H locs 0 0 QQ (F0 m 2 ls [])) (n76 : Nat) (H : Heap) (locs : List Loc) (ls : Array Slot) (x1 x2 m_at m_lines m_mode m_feed m_state m_shown m_relative m_ending : Int32) (m_pause : Int64) (m_kind m_made m_all m_fromX m_fromY m_wayX m_wayY m_points m_centreX m_centreY m_there m_newMode m_newWay m_newFeed m_ends : Int32) (mx my mn : Nat → Int32), va_P D cls ((o_M a m_length m_at m_lines m_x m_y m_mode m_feed m_state m_pulses m_last m_shown m_relative m_ending m_time m_pause m_kind m_made m_all m_fromX m_fromY m_wayX m_wayY m_points m_centreX m_centreY m_there m_newMode m_newWay m_newFeed m_ends) :: (o_mt a K mt) :: (o_mx a K mx) :: (o_my a K my) :: (o_mn a K mn) :: tl) H → va_D A ((o_M a m_length m_at m_lines m_x m_y m_mode m_feed m_state m_pulses m_last m_shown m_relative m_ending m_time m_pause m_kind m_made m_all m_fromX m_fromY m_wayX m_wayY m_points m_centreX m_centreY m_there m_newMode m_newWay m_newFeed m_ends) :: (o_mt a K mt) :: (o_mx a K mx) :: (o_my a K my) :: (o_mn a K mn) :: tl) → va_S A s.heap H locs → lv_has ls 4 [(0, .ref (a 10)), (1, .int x1), (2, .int x2)] → wq_M_look_76 Q K2 m_length m_x m_y mt n76 x1 x2 m_at m_lines m_mode m_feed m_state m_shown m_relative m_ending m_pause m_kind m_made m_all m_fromX m_fromY m_wayX m_wayY m_points m_centreX m_centreY m_there m_newMode m_newWay m_newFeed m_ends mx my mn → W p l e rm_M_look s m args below meth c H locs 0 0 QQ (F0 m 76 ls []) := by
    intro K2 hK2 n76
    induction n76 with
    | zero => intro H locs ls x1 x2 m_at m_lines m_mode m_feed m_state m_shown m_relative m_ending m_pause m_kind m_made m_all m_fromX m_fromY m_wayX m_wayY m_points m_centreX m_centreY m_there m_newMode m_newWay m_newFeed m_ends mx my mn hP hD hS hl hw; exact False.elim hw
    | succ n76 ih =>
      intro H locs ls x1 x2 m_at m_lines m_mode m_feed m_state m_shown m_relative m_ending m_pause m_kind m_made m_all m_fromX m_fromY m_wayX m_wayY m_points m_centreX m_centreY m_there m_newMode m_newWay m_newFeed m_ends mx my mn hP hD hS hl hw
      unfold wq_M_look_76 at hw
      refine lv_iload_n hx hb d_M_look_76 rfl (lv_at hl 2 rfl) ?_
      refine lv_aload_n hx hb d_M_look_77 rfl (lv_at hl 0 rfl) ?_
      refine g_M_length hx hb hts hown hK hP 0 rfl rfl d_M_look_78 ?_
      refine lv_icmp_ge (tgt := 102) hx hb d_M_look_81 (by decide) (fun hc => ?_) (fun hc => ?_)
      · replace hw := hw.1 hc
        exact J102 K2 hK2 H locs ls x1 x2 m_at m_lines m_mode m_feed m_state m_shown m_relative m_ending m_pause m_kind m_made m_all m_fromX m_fromY m_wayX m_wayY m_points m_centreX m_centreY m_there m_newMode m_newWay m_newFeed m_ends mx my mn hP hD hS (lv_sub hl [0, 1, 2] rfl) hw
      · replace hw := hw.2 hc
        refine lv_aload_n hx hb d_M_look_84 rfl (lv_at hl 0 rfl) ?_
        refine g_M_text hx hb hts hown hK hP 0 rfl rfl d_M_look_85 ?_
        refine lv_iload_n hx hb d_M_look_88 rfl (lv_at hl 2 rfl) ?_
        refine va_iald hx hb hK hP 1 5 rfl rfl hw.1 d_M_look_89 ?_
        replace hw := hw.2
        refine lv_bipush (v := (10 : Int32)) hx hb d_M_look_90 (by decide) ?_
        refine lv_icmp_eq (tgt := 102) hx hb d_M_look_92 (by decide) (fun hc => ?_) (fun hc => ?_)
        · replace hw := hw.1 hc
          exact J102 K2 hK2 H locs ls x1 x2 m_at m_lines m_mode m_feed m_state m_shown m_relative m_ending m_pause m_kind m_made m_all m_fromX m_fromY m_wayX m_wayY m_points m_centreX m_centreY m_there m_newMode m_newWay m_newFeed m_ends mx my mn hP hD hS (lv_sub hl [0, 1, 2] rfl) hw
        · replace hw := hw.2 hc
          refine lv_iload_n hx hb d_M_look_95 rfl (lv_at hl 2 rfl) ?_
          refine lv_iconst (v := (1 : Int32)) hx hb d_M_look_96 (by decide) ?_
          refine lv_iadd hx hb d_M_look_97 ?_
          refine lv_istore_n (lv' := [(2, .int (x2 + (1 : Int32))), (0, .ref (a 10)), (1, .int x1)]) hx hb d_M_look_98 rfl hl (Nat.le_of_ble_eq_true rfl) rfl (fun ls hl => ?_)
          refine lv_goto (tgt := 76) hx hb d_M_look_99 (by decide) ?_
          exact ih H locs ls x1 (x2 + (1 : Int32)) m_at m_lines m_mode m_feed m_state m_shown m_relative m_ending m_pause m_kind m_made m_all m_fromX m_fromY m_wayX m_wayY m_points m_centreX m_centreY m_there m_newMode m_newWay m_newFeed m_ends mx my mn hP hD hS (lv_sub hl [1, 2, 0] rfl) hw
  have J2 : ∀ (n2 : Nat) (H : Heap) (locs : List Loc) (ls : Array Slot) (x1 m_at m_lines m_mode m_feed m_state m_shown m_relative m_ending : Int32) (m_pause : Int64) (m_kind m_made m_all m_fromX m_fromY m_wayX m_wayY m_points m_centreX m_centreY m_there m_newMode m_newWay m_newFeed m_ends : Int32) (mx my mn : Nat → Int32), va_P D cls ((o_M a m_length m_at m_lines m_x m_y m_mode m_feed m_state m_pulses m_last m_shown m_relative m_ending m_time m_pause m_kind m_made m_all m_fromX m_fromY m_wayX m_wayY m_points m_centreX m_centreY m_there m_newMode m_newWay m_newFeed m_ends) :: (o_mt a K mt) :: (o_mx a K mx) :: (o_my a K my) :: (o_mn a K mn) :: tl) H → va_D A ((o_M a m_length m_at m_lines m_x m_y m_mode m_feed m_state m_pulses m_last m_shown m_relative m_ending m_time m_pause m_kind m_made m_all m_fromX m_fromY m_wayX m_wayY m_points m_centreX m_centreY m_there m_newMode m_newWay m_newFeed m_ends) :: (o_mt a K mt) :: (o_mx a K mx) :: (o_my a K my) :: (o_mn a K mn) :: tl) → va_S A s.heap H locs → lv_has ls 4 [(0, .ref (a 10)), (1, .int x1)] → wq_M_look_2 Q m_length m_x m_y mt n2 x1 m_at m_lines m_mode m_feed m_state m_shown m_relative m_ending m_pause m_kind m_made m_all m_fromX m_fromY m_wayX m_wayY m_points m_centreX m_centreY m_there m_newMode m_newWay m_newFeed m_ends mx my mn → W p l e rm_M_look s m args below meth c H locs 0 0 QQ (F0 m 2 ls []) := by
    intro n2
    induction n2 with
    | zero => intro H locs ls x1 m_at m_lines m_mode m_feed m_state m_shown m_relative m_ending m_pause m_kind m_made m_all m_fromX m_fromY m_wayX m_wayY m_points m_centreX m_centreY m_there m_newMode m_newWay m_newFeed m_ends mx my mn hP hD hS hl hw; exact False.elim hw
    | succ n2 ih =>
      intro H locs ls x1 m_at m_lines m_mode m_feed m_state m_shown m_relative m_ending m_pause m_kind m_made m_all m_fromX m_fromY m_wayX m_wayY m_points m_centreX m_centreY m_there m_newMode m_newWay m_newFeed m_ends mx my mn hP hD hS hl hw
      unfold wq_M_look_2 at hw
      refine lv_iload_n hx hb d_M_look_2 rfl (lv_at hl 1 rfl) ?_
      refine lv_sipush (v := (500 : Int32)) hx hb d_M_look_3 (by decide) ?_
      refine lv_icmp_ge (tgt := 199) hx hb d_M_look_6 (by decide) (fun hc => ?_) (fun hc => ?_)
      · replace hw := hw.1 hc
        exact hret H locs ls 199 ((m_at, m_lines, m_mode, m_feed, m_state, m_shown, m_relative, m_ending, m_pause, m_kind, m_made, m_all, m_fromX, m_fromY, m_wayX, m_wayY, m_points, m_centreX, m_centreY, m_there, m_newMode, m_newWay, m_newFeed, m_ends, mx, my, mn)) d_M_look_199 hP hD hS hw
      · replace hw := hw.2 hc
        refine lv_aload_n hx hb d_M_look_9 rfl (lv_at hl 0 rfl) ?_
        refine g_M_state hx hb hts hown hK hP 0 rfl rfl d_M_look_10 ?_
        refine lv_if_ne (tgt := 199) hx hb d_M_look_13 (by decide) (fun hc => ?_) (fun hc => ?_)
        · replace hw := hw.1 hc
          exact hret H locs ls 199 ((m_at, m_lines, m_mode, m_feed, m_state, m_shown, m_relative, m_ending, m_pause, m_kind, m_made, m_all, m_fromX, m_fromY, m_wayX, m_wayY, m_points, m_centreX, m_centreY, m_there, m_newMode, m_newWay, m_newFeed, m_ends, mx, my, mn)) d_M_look_199 hP hD hS hw
        · replace hw := hw.2 hc
          refine lv_aload_n hx hb d_M_look_16 rfl (lv_at hl 0 rfl) ?_
          refine g_M_made hx hb hts hown hK hP 0 rfl rfl d_M_look_17 ?_
          refine lv_aload_n hx hb d_M_look_20 rfl (lv_at hl 0 rfl) ?_
          refine g_M_all hx hb hts hown hK hP 0 rfl rfl d_M_look_21 ?_
          refine lv_icmp_ne (tgt := 199) hx hb d_M_look_24 (by decide) (fun hc => ?_) (fun hc => ?_)
          · replace hw := hw.1 hc
            exact hret H locs ls 199 ((m_at, m_lines, m_mode, m_feed, m_state, m_shown, m_relative, m_ending, m_pause, m_kind, m_made, m_all, m_fromX, m_fromY, m_wayX, m_wayY, m_points, m_centreX, m_centreY, m_there, m_newMode, m_newWay, m_newFeed, m_ends, mx, my, mn)) d_M_look_199 hP hD hS hw
          · replace hw := hw.2 hc
            refine lv_aload_n hx hb d_M_look_27 rfl (lv_at hl 0 rfl) ?_
            refine g_M_ending hx hb hts hown hK hP 0 rfl rfl d_M_look_28 ?_
            refine lv_if_eq (tgt := 43) hx hb d_M_look_31 (by decide) (fun hc => ?_) (fun hc => ?_)
            · replace hw := hw.1 hc
              refine lv_aload_n hx hb d_M_look_43 rfl (lv_at hl 0 rfl) ?_
              refine g_M_at hx hb hts hown hK hP 0 rfl rfl d_M_look_44 ?_
              refine lv_aload_n hx hb d_M_look_47 rfl (lv_at hl 0 rfl) ?_
              refine g_M_length hx hb hts hown hK hP 0 rfl rfl d_M_look_48 ?_
              refine lv_icmp_lt (tgt := 71) hx hb d_M_look_51 (by decide) (fun hc => ?_) (fun hc => ?_)
              · replace hw := hw.1 hc
                refine lv_aload_n hx hb d_M_look_71 rfl (lv_at hl 0 rfl) ?_
                refine g_M_at hx hb hts hown hK hP 0 rfl rfl d_M_look_72 ?_
                refine lv_istore_n (lv' := [(2, .int m_at), (0, .ref (a 10)), (1, .int x1)]) hx hb d_M_look_75 rfl hl (Nat.le_of_ble_eq_true rfl) rfl (fun ls hl => ?_)
                obtain ⟨n76, hw⟩ := hw
                exact J76 (fun x1 m_at m_lines m_mode m_feed m_state m_shown m_relative m_ending m_pause m_kind m_made m_all m_fromX m_fromY m_wayX m_wayY m_points m_centreX m_centreY m_there m_newMode m_newWay m_newFeed m_ends mx my mn => wq_M_look_2 Q m_length m_x m_y mt n2 x1 m_at m_lines m_mode m_feed m_state m_shown m_relative m_ending m_pause m_kind m_made m_all m_fromX m_fromY m_wayX m_wayY m_points m_centreX m_centreY m_there m_newMode m_newWay m_newFeed m_ends mx my mn) ih n76 H locs ls x1 m_at m_at m_lines m_mode m_feed m_state m_shown m_relative m_ending m_pause m_kind m_made m_all m_fromX m_fromY m_wayX m_wayY m_points m_centreX m_centreY m_there m_newMode m_newWay m_newFeed m_ends mx my mn hP hD hS (lv_sub hl [1, 2, 0] rfl) hw
              · replace hw := hw.2 hc
                refine lv_aload_n hx hb d_M_look_54 rfl (lv_at hl 0 rfl) ?_
                refine lv_bipush (v := (100 : Int32)) hx hb d_M_look_55 (by decide) ?_
                refine u_M_state hx hb hts hown hK hP hD hS 0 rfl rfl d_M_look_57 (fun H locs hP hD hS => ?_)
                have hP : va_P D cls ((o_M a m_length m_at m_lines m_x m_y m_mode m_feed (100 : Int32) m_pulses m_last m_shown m_relative m_ending m_time m_pause m_kind m_made m_all m_fromX m_fromY m_wayX m_wayY m_points m_centreX m_centreY m_there m_newMode m_newWay m_newFeed m_ends) :: (o_mt a K mt) :: (o_mx a K mx) :: (o_my a K my) :: (o_mn a K mn) :: tl) H := hP
                have hD : va_D A ((o_M a m_length m_at m_lines m_x m_y m_mode m_feed (100 : Int32) m_pulses m_last m_shown m_relative m_ending m_time m_pause m_kind m_made m_all m_fromX m_fromY m_wayX m_wayY m_points m_centreX m_centreY m_there m_newMode m_newWay m_newFeed m_ends) :: (o_mt a K mt) :: (o_mx a K mx) :: (o_my a K my) :: (o_mn a K mn) :: tl) := hD
                refine lv_aload_n hx hb d_M_look_60 rfl (lv_at hl 0 rfl) ?_
                refine lv_aload_n hx hb d_M_look_61 rfl (lv_at hl 0 rfl) ?_
                refine g_M_lines hx hb hts hown hK hP 0 rfl rfl d_M_look_62 ?_
                refine u_M_shown hx hb hts hown hK hP hD hS 0 rfl rfl d_M_look_65 (fun H locs hP hD hS => ?_)
                have hP : va_P D cls ((o_M a m_length m_at m_lines m_x m_y m_mode m_feed (100 : Int32) m_pulses m_last m_lines m_relative m_ending m_time m_pause m_kind m_made m_all m_fromX m_fromY m_wayX m_wayY m_points m_centreX m_centreY m_there m_newMode m_newWay m_newFeed m_ends) :: (o_mt a K mt) :: (o_mx a K mx) :: (o_my a K my) :: (o_mn a K mn) :: tl) H := hP
                have hD : va_D A ((o_M a m_length m_at m_lines m_x m_y m_mode m_feed (100 : Int32) m_pulses m_last m_lines m_relative m_ending m_time m_pause m_kind m_made m_all m_fromX m_fromY m_wayX m_wayY m_points m_centreX m_centreY m_there m_newMode m_newWay m_newFeed m_ends) :: (o_mt a K mt) :: (o_mx a K mx) :: (o_my a K my) :: (o_mn a K mn) :: tl) := hD
                refine lv_goto (tgt := 193) hx hb d_M_look_68 (by decide) ?_
                exact J193 (fun x1 m_at m_lines m_mode m_feed m_state m_shown m_relative m_ending m_pause m_kind m_made m_all m_fromX m_fromY m_wayX m_wayY m_points m_centreX m_centreY m_there m_newMode m_newWay m_newFeed m_ends mx my mn => wq_M_look_2 Q m_length m_x m_y mt n2 x1 m_at m_lines m_mode m_feed m_state m_shown m_relative m_ending m_pause m_kind m_made m_all m_fromX m_fromY m_wayX m_wayY m_points m_centreX m_centreY m_there m_newMode m_newWay m_newFeed m_ends mx my mn) ih H locs ls x1 m_at m_lines m_mode m_feed (100 : Int32) m_lines m_relative m_ending m_pause m_kind m_made m_all m_fromX m_fromY m_wayX m_wayY m_points m_centreX m_centreY m_there m_newMode m_newWay m_newFeed m_ends mx my mn hP hD hS (lv_sub hl [0, 1] rfl) hw
            · replace hw := hw.2 hc
              refine lv_aload_n hx hb d_M_look_34 rfl (lv_at hl 0 rfl) ?_
              refine lv_bipush (v := (100 : Int32)) hx hb d_M_look_35 (by decide) ?_
              refine u_M_state hx hb hts hown hK hP hD hS 0 rfl rfl d_M_look_37 (fun H locs hP hD hS => ?_)
              have hP : va_P D cls ((o_M a m_length m_at m_lines m_x m_y m_mode m_feed (100 : Int32) m_pulses m_last m_shown m_relative m_ending m_time m_pause m_kind m_made m_all m_fromX m_fromY m_wayX m_wayY m_points m_centreX m_centreY m_there m_newMode m_newWay m_newFeed m_ends) :: (o_mt a K mt) :: (o_mx a K mx) :: (o_my a K my) :: (o_mn a K mn) :: tl) H := hP
              have hD : va_D A ((o_M a m_length m_at m_lines m_x m_y m_mode m_feed (100 : Int32) m_pulses m_last m_shown m_relative m_ending m_time m_pause m_kind m_made m_all m_fromX m_fromY m_wayX m_wayY m_points m_centreX m_centreY m_there m_newMode m_newWay m_newFeed m_ends) :: (o_mt a K mt) :: (o_mx a K mx) :: (o_my a K my) :: (o_mn a K mn) :: tl) := hD
              refine lv_goto (tgt := 193) hx hb d_M_look_40 (by decide) ?_
              exact J193 (fun x1 m_at m_lines m_mode m_feed m_state m_shown m_relative m_ending m_pause m_kind m_made m_all m_fromX m_fromY m_wayX m_wayY m_points m_centreX m_centreY m_there m_newMode m_newWay m_newFeed m_ends mx my mn => wq_M_look_2 Q m_length m_x m_y mt n2 x1 m_at m_lines m_mode m_feed m_state m_shown m_relative m_ending m_pause m_kind m_made m_all m_fromX m_fromY m_wayX m_wayY m_points m_centreX m_centreY m_there m_newMode m_newWay m_newFeed m_ends mx my mn) ih H locs ls x1 m_at m_lines m_mode m_feed (100 : Int32) m_shown m_relative m_ending m_pause m_kind m_made m_all m_fromX m_fromY m_wayX m_wayY m_points m_centreX m_centreY m_there m_newMode m_newWay m_newFeed m_ends mx my mn hP hD hS (lv_sub hl [0, 1] rfl) hw
  unfold wp_M_look at hw
  refine lv_iconst (v := (0 : Int32)) hx hb d_M_look_0 (by decide) ?_
  refine lv_istore_n (lv' := [(1, .int (0 : Int32)), (0, .ref (a 10))]) hx hb d_M_look_1 rfl hl (Nat.le_of_ble_eq_true rfl) rfl (fun ls hl => ?_)
  obtain ⟨n2, hw⟩ := hw
  exact J2 n2 H locs ls (0 : Int32) m_at m_lines m_mode m_feed m_state m_shown m_relative m_ending m_pause m_kind m_made m_all m_fromX m_fromY m_wayX m_wayY m_points m_centreX m_centreY m_there m_newMode m_newWay m_newFeed m_ends mx my mn hP hD hS (lv_sub hl [1, 0] rfl) hw
def wp_M_quotient (x0 x1 : Int32) (Q : Int32 → Prop) : Prop := ((x0 < 0 → (¬ x1 = 0 ∧ (Q (-(((x1 - (1 : Int32)) - x0) / x1))))) ∧ (¬ x0 < 0 → (¬ x1 = 0 ∧ (Q (x0 / x1)))))
abbrev rm_M_quotient : Room := { frames := 0, cells := 0, slots := 0, locals := 0 }
set_option maxRecDepth 100000 in
set_option maxHeartbeats 4000000 in
theorem c_M_quotient (l : Launch) {D : va_G} {X : xT} {K : Nat → ClassId} {tl : va_W} {x0 x1 : Int32} {Q : Int32 → Prop} : MI l y_M_quotient b_M_quotient 2 rm_M_quotient D cls (tys K) X [.int x0, .int x1] (tl) (fun _ : Unit => tl) (wp_M_quotient x0 x1 Q) (fun r _ => Q r) := by
  refine my_of_I (by decide +kernel) (Nat.le_of_ble_eq_true rfl) (fun p e s m args below meth c A QQ H locs ls hx hb hts hown hml hK hX hA hP hD hS hl hw hret => ?_)
  replace hl : lv_has ls 2 [(0, .int x0), (1, .int x1)] := hl
  unfold wp_M_quotient at hw
  refine lv_iload_n hx hb d_M_quotient_0 rfl (lv_at hl 0 rfl) ?_
  refine lv_if_lt (tgt := 10) hx hb d_M_quotient_1 (by decide) (fun hc => ?_) (fun hc => ?_)
  · replace hw := hw.1 hc
    refine lv_iload_n hx hb d_M_quotient_10 rfl (lv_at hl 1 rfl) ?_
    refine lv_iconst (v := (1 : Int32)) hx hb d_M_quotient_11 (by decide) ?_
    refine lv_isub hx hb d_M_quotient_12 ?_
    refine lv_iload_n hx hb d_M_quotient_13 rfl (lv_at hl 0 rfl) ?_
    refine lv_isub hx hb d_M_quotient_14 ?_
    refine lv_iload_n hx hb d_M_quotient_15 rfl (lv_at hl 1 rfl) ?_
    refine lv_idiv hx hb d_M_quotient_16 hw.1 ?_
    replace hw := hw.2
    refine lv_ineg hx hb d_M_quotient_17 ?_
    exact hret H locs ls 18 (-(((x1 - (1 : Int32)) - x0) / x1)) (()) d_M_quotient_18 hP hD hS hw
  · replace hw := hw.2 hc
    refine lv_iload_n hx hb d_M_quotient_4 rfl (lv_at hl 0 rfl) ?_
    refine lv_iload_n hx hb d_M_quotient_5 rfl (lv_at hl 1 rfl) ?_
    refine lv_idiv hx hb d_M_quotient_6 hw.1 ?_
    replace hw := hw.2
    refine lv_goto (tgt := 18) hx hb d_M_quotient_7 (by decide) ?_
    exact hret H locs ls 18 (x0 / x1) (()) d_M_quotient_18 hP hD hS hw
def wq_M_pulse_254 (Q : Int32 → Int32 → Int32 → Int32 → Int64 → Int32 → Prop) (m_pause : Int64) (x1 x2 m_x m_y m_pulses m_last : Int32) (m_time : Int64) (m_made : Int32) : Prop := (Q m_x m_y (m_pulses + (1 : Int32)) (((((3 : Int32) * ((m_x - x1) + (1 : Int32))) + m_y) - x2) + (1 : Int32)) (m_time + m_pause) m_made)
def wq_M_pulse_216 (Q : Int32 → Int32 → Int32 → Int32 → Int64 → Int32 → Prop) (K125 : Int32 → Int32 → Int32 → Int32 → Int32 → Int32 → Int32 → Int32 → Int32 → Int32 → Int64 → Int32 → Prop) (m_pause : Int64) (m_kind m_points m_centreX m_centreY : Int32) (mx my : Nat → Int32) (x1 x2 x3 x4 x5 x6 m_x m_y m_pulses m_last : Int32) (m_time : Int64) (m_made : Int32) : Prop := (K125 x1 x2 x3 x4 x5 (x6 + (1 : Int32)) m_x m_y m_pulses m_last m_time m_made)
def wq_M_pulse_212 (Q : Int32 → Int32 → Int32 → Int32 → Int64 → Int32 → Prop) (K125 : Int32 → Int32 → Int32 → Int32 → Int32 → Int32 → Int32 → Int32 → Int32 → Int32 → Int64 → Int32 → Prop) (m_pause : Int64) (m_kind m_points m_centreX m_centreY : Int32) (mx my : Nat → Int32) (x1 x2 x3 x4 x6 m_x m_y m_pulses m_last : Int32) (m_time : Int64) (m_made : Int32) : Prop := (wq_M_pulse_216 Q K125 m_pause m_kind m_points m_centreX m_centreY mx my x1 x2 x3 x4 x6 x6 m_x m_y m_pulses m_last m_time m_made)
def wq_M_pulse_162 (Q : Int32 → Int32 → Int32 → Int32 → Int64 → Int32 → Prop) (K125 : Int32 → Int32 → Int32 → Int32 → Int32 → Int32 → Int32 → Int32 → Int32 → Int32 → Int64 → Int32 → Prop) (m_pause : Int64) (m_kind m_points m_centreX m_centreY : Int32) (mx my : Nat → Int32) (x1 x2 x3 x4 x5 x6 s0 m_x m_y m_pulses m_last : Int32) (m_time : Int64) (m_made : Int32) : Prop := ((¬ s0 = 0 → (wq_M_pulse_216 Q K125 m_pause m_kind m_points m_centreX m_centreY mx my x1 x2 x3 x4 x5 x6 m_x m_y m_pulses m_last m_time m_made)) ∧ (s0 = 0 → ((x5 < 0 → (wq_M_pulse_212 Q K125 m_pause m_kind m_points m_centreX m_centreY mx my x1 x2 x3 x4 x6 m_x m_y m_pulses m_last m_time m_made)) ∧ (¬ x5 < 0 → (vp_in x6 2400 ∧ (vp_in x6 2400 ∧ (vp_in x5 2400 ∧ (vp_in x5 2400 ∧ (wp_M_before x3 x4 (mx x6.toNatClampNeg) (my x6.toNatClampNeg) (mx x5.toNatClampNeg) (my x5.toNatClampNeg) m_kind (fun r206 => ((r206 = 0 → (wq_M_pulse_216 Q K125 m_pause m_kind m_points m_centreX m_centreY mx my x1 x2 x3 x4 x5 x6 m_x m_y m_pulses m_last m_time m_made)) ∧ (¬ r206 = 0 → (wq_M_pulse_212 Q K125 m_pause m_kind m_points m_centreX m_centreY mx my x1 x2 x3 x4 x6 m_x m_y m_pulses m_last m_time m_made)))))))))))))
def wq_M_pulse_161 (Q : Int32 → Int32 → Int32 → Int32 → Int64 → Int32 → Prop) (K125 : Int32 → Int32 → Int32 → Int32 → Int32 → Int32 → Int32 → Int32 → Int32 → Int32 → Int64 → Int32 → Prop) (m_pause : Int64) (m_kind m_points m_centreX m_centreY : Int32) (mx my : Nat → Int32) (x1 x2 x3 x4 x5 x6 m_x m_y m_pulses m_last : Int32) (m_time : Int64) (m_made : Int32) : Prop := (wq_M_pulse_162 Q K125 m_pause m_kind m_points m_centreX m_centreY mx my x1 x2 x3 x4 x5 x6 (0 : Int32) m_x m_y m_pulses m_last m_time m_made)
def wq_M_pulse_125 (Q : Int32 → Int32 → Int32 → Int32 → Int64 → Int32 → Prop) (m_pause : Int64) (m_kind m_points m_centreX m_centreY : Int32) (mx my : Nat → Int32) : Nat → Int32 → Int32 → Int32 → Int32 → Int32 → Int32 → Int32 → Int32 → Int32 → Int32 → Int64 → Int32 → Prop
  | 0, _, _, _, _, _, _, _, _, _, _, _, _ => False
  | n125 + 1, x1, x2, x3, x4, x5, x6, m_x, m_y, m_pulses, m_last, m_time, m_made => ((m_points ≤ x6 → (vp_in x5 2400 ∧ (vp_in x5 2400 ∧ (wq_M_pulse_254 Q m_pause x1 x2 (m_centreX + (mx x5.toNatClampNeg)) (m_centreY + (my x5.toNatClampNeg)) m_pulses m_last m_time m_made)))) ∧ (¬ m_points ≤ x6 → (vp_in x6 2400 ∧ ((¬ (mx x6.toNatClampNeg) = x3 → (wq_M_pulse_161 Q (fun x1 x2 x3 x4 x5 x6 m_x m_y m_pulses m_last m_time m_made => wq_M_pulse_125 Q m_pause m_kind m_points m_centreX m_centreY mx my n125 x1 x2 x3 x4 x5 x6 m_x m_y m_pulses m_last m_time m_made) m_pause m_kind m_points m_centreX m_centreY mx my x1 x2 x3 x4 x5 x6 m_x m_y m_pulses m_last m_time m_made)) ∧ ((mx x6.toNatClampNeg) = x3 → (vp_in x6 2400 ∧ ((¬ (my x6.toNatClampNeg) = x4 → (wq_M_pulse_161 Q (fun x1 x2 x3 x4 x5 x6 m_x m_y m_pulses m_last m_time m_made => wq_M_pulse_125 Q m_pause m_kind m_points m_centreX m_centreY mx my n125 x1 x2 x3 x4 x5 x6 m_x m_y m_pulses m_last m_time m_made) m_pause m_kind m_points m_centreX m_centreY mx my x1 x2 x3 x4 x5 x6 m_x m_y m_pulses m_last m_time m_made)) ∧ ((my x6.toNatClampNeg) = x4 → (wq_M_pulse_162 Q (fun x1 x2 x3 x4 x5 x6 m_x m_y m_pulses m_last m_time m_made => wq_M_pulse_125 Q m_pause m_kind m_points m_centreX m_centreY mx my n125 x1 x2 x3 x4 x5 x6 m_x m_y m_pulses m_last m_time m_made) m_pause m_kind m_points m_centreX m_centreY mx my x1 x2 x3 x4 x5 x6 (1 : Int32) m_x m_y m_pulses m_last m_time m_made)))))))))
def wp_M_pulse (m_x m_y m_pulses m_last : Int32) (m_time m_pause : Int64) (m_kind m_made m_all m_fromX m_fromY m_wayX m_wayY m_points m_centreX m_centreY : Int32) (mx my : Nat → Int32) (Q : Int32 → Int32 → Int32 → Int32 → Int64 → Int32 → Prop) : Prop := ((¬ m_kind = 0 → (∃ n125 : Nat, wq_M_pulse_125 Q m_pause m_kind m_points m_centreX m_centreY mx my n125 m_x m_y (m_x - m_centreX) (m_y - m_centreY) (-1 : Int32) (0 : Int32) m_x m_y m_pulses m_last m_time (m_made + (1 : Int32)))) ∧ (m_kind = 0 → (wp_M_quotient ((((2 : Int32) * (m_made + (1 : Int32))) * m_wayX) + m_all) ((2 : Int32) * m_all) (fun r54 => (wp_M_quotient ((((2 : Int32) * (m_made + (1 : Int32))) * m_wayY) + m_all) ((2 : Int32) * m_all) (fun r88 => (wq_M_pulse_254 Q m_pause m_x m_y (m_fromX + r54) (m_fromY + r88) m_pulses m_last m_time (m_made + (1 : Int32)))))))))
abbrev rm_M_pulse : Room := { frames := 2, cells := 0, slots := 0, locals := 53 }
set_option maxRecDepth 100000 in
set_option maxHeartbeats 4000000 in
theorem c_M_pulse (l : Launch) {D : va_G} {X : xT} {a : Nat → Nat} {K : Nat → ClassId} {tl : va_W} {e1 : Nat × va_E} {m_length m_at m_lines m_x m_y m_mode m_feed m_state m_pulses m_last m_shown m_relative m_ending : Int32} {m_time m_pause : Int64} {m_kind m_made m_all m_fromX m_fromY m_wayX m_wayY m_points m_centreX m_centreY m_there m_newMode m_newWay m_newFeed m_ends : Int32} {mx my : Nat → Int32} {Q : Int32 → Int32 → Int32 → Int32 → Int64 → Int32 → Prop} : MV l y_M_pulse b_M_pulse 8 rm_M_pulse D cls (tys K) X [.ref (a 10)] ((o_M a m_length m_at m_lines m_x m_y m_mode m_feed m_state m_pulses m_last m_shown m_relative m_ending m_time m_pause m_kind m_made m_all m_fromX m_fromY m_wayX m_wayY m_points m_centreX m_centreY m_there m_newMode m_newWay m_newFeed m_ends) :: e1 :: (o_mx a K mx) :: (o_my a K my) :: tl) (fun u : Int32 × Int32 × Int32 × Int32 × Int64 × Int32 => (o_M a m_length m_at m_lines u.1 u.2.1 m_mode m_feed m_state u.2.2.1 u.2.2.2.1 m_shown m_relative m_ending u.2.2.2.2.1 m_pause m_kind u.2.2.2.2.2 m_all m_fromX m_fromY m_wayX m_wayY m_points m_centreX m_centreY m_there m_newMode m_newWay m_newFeed m_ends) :: e1 :: (o_mx a K mx) :: (o_my a K my) :: tl) (wp_M_pulse m_x m_y m_pulses m_last m_time m_pause m_kind m_made m_all m_fromX m_fromY m_wayX m_wayY m_points m_centreX m_centreY mx my Q) (fun u => Q u.1 u.2.1 u.2.2.1 u.2.2.2.1 u.2.2.2.2.1 u.2.2.2.2.2) := by
  refine my_of_V (by decide +kernel) (Nat.le_of_ble_eq_true rfl) (fun p e s m args below meth c A QQ H locs ls hx hb hts hown hml hK hX hA hP hD hS hl hw hret => ?_)
  replace hl : lv_has ls 8 [(0, .ref (a 10))] := hl
  have J254 : ∀ (H : Heap) (locs : List Loc) (ls : Array Slot) (x1 x2 m_x m_y m_pulses m_last : Int32) (m_time : Int64) (m_made : Int32), va_P D cls ((o_M a m_length m_at m_lines m_x m_y m_mode m_feed m_state m_pulses m_last m_shown m_relative m_ending m_time m_pause m_kind m_made m_all m_fromX m_fromY m_wayX m_wayY m_points m_centreX m_centreY m_there m_newMode m_newWay m_newFeed m_ends) :: e1 :: (o_mx a K mx) :: (o_my a K my) :: tl) H → va_D A ((o_M a m_length m_at m_lines m_x m_y m_mode m_feed m_state m_pulses m_last m_shown m_relative m_ending m_time m_pause m_kind m_made m_all m_fromX m_fromY m_wayX m_wayY m_points m_centreX m_centreY m_there m_newMode m_newWay m_newFeed m_ends) :: e1 :: (o_mx a K mx) :: (o_my a K my) :: tl) → va_S A s.heap H locs → lv_has ls 8 [(0, .ref (a 10)), (1, .int x1), (2, .int x2)] → wq_M_pulse_254 Q m_pause x1 x2 m_x m_y m_pulses m_last m_time m_made → W p l e rm_M_pulse s m args below meth c H locs 0 0 QQ (F0 m 254 ls []) := by
    intro H locs ls x1 x2 m_x m_y m_pulses m_last m_time m_made hP hD hS hl hw
    unfold wq_M_pulse_254 at hw
    refine lv_aload_n hx hb d_M_pulse_254 rfl (lv_at hl 0 rfl) ?_
    refine lv_aload_n hx hb d_M_pulse_255 rfl (lv_at hl 0 rfl) ?_
    refine g_M_time hx hb hts hown hK hP 0 rfl rfl d_M_pulse_256 ?_
    refine lv_aload_n hx hb d_M_pulse_259 rfl (lv_at hl 0 rfl) ?_
    refine g_M_pause hx hb hts hown hK hP 0 rfl rfl d_M_pulse_260 ?_
    refine lv_ladd hx hb d_M_pulse_263 ?_
    refine u_M_time hx hb hts hown hK hP hD hS 0 rfl rfl d_M_pulse_264 (fun H locs hP hD hS => ?_)
    have hP : va_P D cls ((o_M a m_length m_at m_lines m_x m_y m_mode m_feed m_state m_pulses m_last m_shown m_relative m_ending (m_time + m_pause) m_pause m_kind m_made m_all m_fromX m_fromY m_wayX m_wayY m_points m_centreX m_centreY m_there m_newMode m_newWay m_newFeed m_ends) :: e1 :: (o_mx a K mx) :: (o_my a K my) :: tl) H := hP
    have hD : va_D A ((o_M a m_length m_at m_lines m_x m_y m_mode m_feed m_state m_pulses m_last m_shown m_relative m_ending (m_time + m_pause) m_pause m_kind m_made m_all m_fromX m_fromY m_wayX m_wayY m_points m_centreX m_centreY m_there m_newMode m_newWay m_newFeed m_ends) :: e1 :: (o_mx a K mx) :: (o_my a K my) :: tl) := hD
    refine lv_aload_n hx hb d_M_pulse_267 rfl (lv_at hl 0 rfl) ?_
    refine lv_aload_n hx hb d_M_pulse_268 rfl (lv_at hl 0 rfl) ?_
    refine g_M_pulses hx hb hts hown hK hP 0 rfl rfl d_M_pulse_269 ?_
    refine lv_iconst (v := (1 : Int32)) hx hb d_M_pulse_272 (by decide) ?_
    refine lv_iadd hx hb d_M_pulse_273 ?_
    refine u_M_pulses hx hb hts hown hK hP hD hS 0 rfl rfl d_M_pulse_274 (fun H locs hP hD hS => ?_)
    have hP : va_P D cls ((o_M a m_length m_at m_lines m_x m_y m_mode m_feed m_state (m_pulses + (1 : Int32)) m_last m_shown m_relative m_ending (m_time + m_pause) m_pause m_kind m_made m_all m_fromX m_fromY m_wayX m_wayY m_points m_centreX m_centreY m_there m_newMode m_newWay m_newFeed m_ends) :: e1 :: (o_mx a K mx) :: (o_my a K my) :: tl) H := hP
    have hD : va_D A ((o_M a m_length m_at m_lines m_x m_y m_mode m_feed m_state (m_pulses + (1 : Int32)) m_last m_shown m_relative m_ending (m_time + m_pause) m_pause m_kind m_made m_all m_fromX m_fromY m_wayX m_wayY m_points m_centreX m_centreY m_there m_newMode m_newWay m_newFeed m_ends) :: e1 :: (o_mx a K mx) :: (o_my a K my) :: tl) := hD
    refine lv_aload_n hx hb d_M_pulse_277 rfl (lv_at hl 0 rfl) ?_
    refine lv_iconst (v := (3 : Int32)) hx hb d_M_pulse_278 (by decide) ?_
    refine lv_aload_n hx hb d_M_pulse_279 rfl (lv_at hl 0 rfl) ?_
    refine g_M_x hx hb hts hown hK hP 0 rfl rfl d_M_pulse_280 ?_
    refine lv_iload_n hx hb d_M_pulse_283 rfl (lv_at hl 1 rfl) ?_
    refine lv_isub hx hb d_M_pulse_284 ?_
    refine lv_iconst (v := (1 : Int32)) hx hb d_M_pulse_285 (by decide) ?_
    refine lv_iadd hx hb d_M_pulse_286 ?_
    refine lv_imul hx hb d_M_pulse_287 ?_
    refine lv_aload_n hx hb d_M_pulse_288 rfl (lv_at hl 0 rfl) ?_
    refine g_M_y hx hb hts hown hK hP 0 rfl rfl d_M_pulse_289 ?_
    refine lv_iadd hx hb d_M_pulse_292 ?_
    refine lv_iload_n hx hb d_M_pulse_293 rfl (lv_at hl 2 rfl) ?_
    refine lv_isub hx hb d_M_pulse_294 ?_
    refine lv_iconst (v := (1 : Int32)) hx hb d_M_pulse_295 (by decide) ?_
    refine lv_iadd hx hb d_M_pulse_296 ?_
    refine u_M_last hx hb hts hown hK hP hD hS 0 rfl rfl d_M_pulse_297 (fun H locs hP hD hS => ?_)
    have hP : va_P D cls ((o_M a m_length m_at m_lines m_x m_y m_mode m_feed m_state (m_pulses + (1 : Int32)) (((((3 : Int32) * ((m_x - x1) + (1 : Int32))) + m_y) - x2) + (1 : Int32)) m_shown m_relative m_ending (m_time + m_pause) m_pause m_kind m_made m_all m_fromX m_fromY m_wayX m_wayY m_points m_centreX m_centreY m_there m_newMode m_newWay m_newFeed m_ends) :: e1 :: (o_mx a K mx) :: (o_my a K my) :: tl) H := hP
    have hD : va_D A ((o_M a m_length m_at m_lines m_x m_y m_mode m_feed m_state (m_pulses + (1 : Int32)) (((((3 : Int32) * ((m_x - x1) + (1 : Int32))) + m_y) - x2) + (1 : Int32)) m_shown m_relative m_ending (m_time + m_pause) m_pause m_kind m_made m_all m_fromX m_fromY m_wayX m_wayY m_points m_centreX m_centreY m_there m_newMode m_newWay m_newFeed m_ends) :: e1 :: (o_mx a K mx) :: (o_my a K my) :: tl) := hD
    exact hret H locs ls 300 ((m_x, m_y, m_pulses + (1 : Int32), ((((3 : Int32) * ((m_x - x1) + (1 : Int32))) + m_y) - x2) + (1 : Int32), m_time + m_pause, m_made)) d_M_pulse_300 hP hD hS hw
  have J216 : ∀ (K125 : Int32 → Int32 → Int32 → Int32 → Int32 → Int32 → Int32 → Int32 → Int32 → Int32 → Int64 → Int32 → Prop) (hK125 : ∀ (H : Heap) (locs : List Loc) (ls : Array Slot) (x1 x2 x3 x4 x5 x6 m_x m_y m_pulses m_last : Int32) (m_time : Int64) (m_made : Int32), va_P D cls ((o_M a m_length m_at m_lines m_x m_y m_mode m_feed m_state m_pulses m_last m_shown m_relative m_ending m_time m_pause m_kind m_made m_all m_fromX m_fromY m_wayX m_wayY m_points m_centreX m_centreY m_there m_newMode m_newWay m_newFeed m_ends) :: e1 :: (o_mx a K mx) :: (o_my a K my) :: tl) H → va_D A ((o_M a m_length m_at m_lines m_x m_y m_mode m_feed m_state m_pulses m_last m_shown m_relative m_ending m_time m_pause m_kind m_made m_all m_fromX m_fromY m_wayX m_wayY m_points m_centreX m_centreY m_there m_newMode m_newWay m_newFeed m_ends) :: e1 :: (o_mx a K mx) :: (o_my a K my) :: tl) → va_S A s.heap H locs → lv_has ls 8 [(0, .ref (a 10)), (1, .int x1), (2, .int x2), (3, .int x3), (4, .int x4), (5, .int x5), (6, .int x6)] → K125 x1 x2 x3 x4 x5 x6 m_x m_y m_pulses m_last m_time m_made → W p l e rm_M_pulse s m args below meth c H locs 0 0 QQ (F0 m 125 ls [])) (H : Heap) (locs : List Loc) (ls : Array Slot) (x1 x2 x3 x4 x5 x6 m_x m_y m_pulses m_last : Int32) (m_time : Int64) (m_made : Int32), va_P D cls ((o_M a m_length m_at m_lines m_x m_y m_mode m_feed m_state m_pulses m_last m_shown m_relative m_ending m_time m_pause m_kind m_made m_all m_fromX m_fromY m_wayX m_wayY m_points m_centreX m_centreY m_there m_newMode m_newWay m_newFeed m_ends) :: e1 :: (o_mx a K mx) :: (o_my a K my) :: tl) H → va_D A ((o_M a m_length m_at m_lines m_x m_y m_mode m_feed m_state m_pulses m_last m_shown m_relative m_ending m_time m_pause m_kind m_made m_all m_fromX m_fromY m_wayX m_wayY m_points m_centreX m_centreY m_there m_newMode m_newWay m_newFeed m_ends) :: e1 :: (o_mx a K mx) :: (o_my a K my) :: tl) → va_S A s.heap H locs → lv_has ls 8 [(0, .ref (a 10)), (1, .int x1), (2, .int x2), (3, .int x3), (4, .int x4), (5, .int x5), (6, .int x6)] → wq_M_pulse_216 Q K125 m_pause m_kind m_points m_centreX m_centreY mx my x1 x2 x3 x4 x5 x6 m_x m_y m_pulses m_last m_time m_made → W p l e rm_M_pulse s m args below meth c H locs 0 0 QQ (F0 m 216 ls []) := by
    intro K125 hK125 H locs ls x1 x2 x3 x4 x5 x6 m_x m_y m_pulses m_last m_time m_made hP hD hS hl hw
    unfold wq_M_pulse_216 at hw
    refine lv_iinc (k := 6) (v := x6 + (1 : Int32)) (lv' := [(6, .int (x6 + (1 : Int32))), (0, .ref (a 10)), (1, .int x1), (2, .int x2), (3, .int x3), (4, .int x4), (5, .int x5)]) hx hb d_M_pulse_216 hl rfl (iinc_1 _) (Nat.le_of_ble_eq_true rfl) rfl (fun ls hl => ?_)
    refine lv_goto (tgt := 125) hx hb d_M_pulse_219 (by decide) ?_
    exact hK125 H locs ls x1 x2 x3 x4 x5 (x6 + (1 : Int32)) m_x m_y m_pulses m_last m_time m_made hP hD hS (lv_sub hl [1, 2, 3, 4, 5, 6, 0] rfl) hw
  have J212 : ∀ (K125 : Int32 → Int32 → Int32 → Int32 → Int32 → Int32 → Int32 → Int32 → Int32 → Int32 → Int64 → Int32 → Prop) (hK125 : ∀ (H : Heap) (locs : List Loc) (ls : Array Slot) (x1 x2 x3 x4 x5 x6 m_x m_y m_pulses m_last : Int32) (m_time : Int64) (m_made : Int32), va_P D cls ((o_M a m_length m_at m_lines m_x m_y m_mode m_feed m_state m_pulses m_last m_shown m_relative m_ending m_time m_pause m_kind m_made m_all m_fromX m_fromY m_wayX m_wayY m_points m_centreX m_centreY m_there m_newMode m_newWay m_newFeed m_ends) :: e1 :: (o_mx a K mx) :: (o_my a K my) :: tl) H → va_D A ((o_M a m_length m_at m_lines m_x m_y m_mode m_feed m_state m_pulses m_last m_shown m_relative m_ending m_time m_pause m_kind m_made m_all m_fromX m_fromY m_wayX m_wayY m_points m_centreX m_centreY m_there m_newMode m_newWay m_newFeed m_ends) :: e1 :: (o_mx a K mx) :: (o_my a K my) :: tl) → va_S A s.heap H locs → lv_has ls 8 [(0, .ref (a 10)), (1, .int x1), (2, .int x2), (3, .int x3), (4, .int x4), (5, .int x5), (6, .int x6)] → K125 x1 x2 x3 x4 x5 x6 m_x m_y m_pulses m_last m_time m_made → W p l e rm_M_pulse s m args below meth c H locs 0 0 QQ (F0 m 125 ls [])) (H : Heap) (locs : List Loc) (ls : Array Slot) (x1 x2 x3 x4 x6 m_x m_y m_pulses m_last : Int32) (m_time : Int64) (m_made : Int32), va_P D cls ((o_M a m_length m_at m_lines m_x m_y m_mode m_feed m_state m_pulses m_last m_shown m_relative m_ending m_time m_pause m_kind m_made m_all m_fromX m_fromY m_wayX m_wayY m_points m_centreX m_centreY m_there m_newMode m_newWay m_newFeed m_ends) :: e1 :: (o_mx a K mx) :: (o_my a K my) :: tl) H → va_D A ((o_M a m_length m_at m_lines m_x m_y m_mode m_feed m_state m_pulses m_last m_shown m_relative m_ending m_time m_pause m_kind m_made m_all m_fromX m_fromY m_wayX m_wayY m_points m_centreX m_centreY m_there m_newMode m_newWay m_newFeed m_ends) :: e1 :: (o_mx a K mx) :: (o_my a K my) :: tl) → va_S A s.heap H locs → lv_has ls 8 [(0, .ref (a 10)), (1, .int x1), (2, .int x2), (3, .int x3), (4, .int x4), (6, .int x6)] → wq_M_pulse_212 Q K125 m_pause m_kind m_points m_centreX m_centreY mx my x1 x2 x3 x4 x6 m_x m_y m_pulses m_last m_time m_made → W p l e rm_M_pulse s m args below meth c H locs 0 0 QQ (F0 m 212 ls []) := by
    intro K125 hK125 H locs ls x1 x2 x3 x4 x6 m_x m_y m_pulses m_last m_time m_made hP hD hS hl hw
    unfold wq_M_pulse_212 at hw
    refine lv_iload hx hb d_M_pulse_212 (lv_at hl 5 rfl) ?_
    refine lv_istore (lv' := [(5, .int x6), (0, .ref (a 10)), (1, .int x1), (2, .int x2), (3, .int x3), (4, .int x4), (6, .int x6)]) hx hb d_M_pulse_214 hl (Nat.le_of_ble_eq_true rfl) rfl (fun ls hl => ?_)
    exact J216 K125 hK125 H locs ls x1 x2 x3 x4 x6 x6 m_x m_y m_pulses m_last m_time m_made hP hD hS (lv_sub hl [1, 2, 3, 4, 5, 0, 6] rfl) hw
  have J162 : ∀ (K125 : Int32 → Int32 → Int32 → Int32 → Int32 → Int32 → Int32 → Int32 → Int32 → Int32 → Int64 → Int32 → Prop) (hK125 : ∀ (H : Heap) (locs : List Loc) (ls : Array Slot) (x1 x2 x3 x4 x5 x6 m_x m_y m_pulses m_last : Int32) (m_time : Int64) (m_made : Int32), va_P D cls ((o_M a m_length m_at m_lines m_x m_y m_mode m_feed m_state m_pulses m_last m_shown m_relative m_ending m_time m_pause m_kind m_made m_all m_fromX m_fromY m_wayX m_wayY m_points m_centreX m_centreY m_there m_newMode m_newWay m_newFeed m_ends) :: e1 :: (o_mx a K mx) :: (o_my a K my) :: tl) H → va_D A ((o_M a m_length m_at m_lines m_x m_y m_mode m_feed m_state m_pulses m_last m_shown m_relative m_ending m_time m_pause m_kind m_made m_all m_fromX m_fromY m_wayX m_wayY m_points m_centreX m_centreY m_there m_newMode m_newWay m_newFeed m_ends) :: e1 :: (o_mx a K mx) :: (o_my a K my) :: tl) → va_S A s.heap H locs → lv_has ls 8 [(0, .ref (a 10)), (1, .int x1), (2, .int x2), (3, .int x3), (4, .int x4), (5, .int x5), (6, .int x6)] → K125 x1 x2 x3 x4 x5 x6 m_x m_y m_pulses m_last m_time m_made → W p l e rm_M_pulse s m args below meth c H locs 0 0 QQ (F0 m 125 ls [])) (H : Heap) (locs : List Loc) (ls : Array Slot) (x1 x2 x3 x4 x5 x6 s0 m_x m_y m_pulses m_last : Int32) (m_time : Int64) (m_made : Int32), va_P D cls ((o_M a m_length m_at m_lines m_x m_y m_mode m_feed m_state m_pulses m_last m_shown m_relative m_ending m_time m_pause m_kind m_made m_all m_fromX m_fromY m_wayX m_wayY m_points m_centreX m_centreY m_there m_newMode m_newWay m_newFeed m_ends) :: e1 :: (o_mx a K mx) :: (o_my a K my) :: tl) H → va_D A ((o_M a m_length m_at m_lines m_x m_y m_mode m_feed m_state m_pulses m_last m_shown m_relative m_ending m_time m_pause m_kind m_made m_all m_fromX m_fromY m_wayX m_wayY m_points m_centreX m_centreY m_there m_newMode m_newWay m_newFeed m_ends) :: e1 :: (o_mx a K mx) :: (o_my a K my) :: tl) → va_S A s.heap H locs → lv_has ls 8 [(0, .ref (a 10)), (1, .int x1), (2, .int x2), (3, .int x3), (4, .int x4), (5, .int x5), (6, .int x6)] → wq_M_pulse_162 Q K125 m_pause m_kind m_points m_centreX m_centreY mx my x1 x2 x3 x4 x5 x6 s0 m_x m_y m_pulses m_last m_time m_made → W p l e rm_M_pulse s m args below meth c H locs 0 0 QQ (F0 m 162 ls [.int s0]) := by
    intro K125 hK125 H locs ls x1 x2 x3 x4 x5 x6 s0 m_x m_y m_pulses m_last m_time m_made hP hD hS hl hw
    unfold wq_M_pulse_162 at hw
    refine lv_istore (lv' := [(7, .int s0), (0, .ref (a 10)), (1, .int x1), (2, .int x2), (3, .int x3), (4, .int x4), (5, .int x5), (6, .int x6)]) hx hb d_M_pulse_162 hl (Nat.le_of_ble_eq_true rfl) rfl (fun ls hl => ?_)
    refine lv_iload hx hb d_M_pulse_164 (lv_at hl 0 rfl) ?_
    refine lv_if_ne (tgt := 216) hx hb d_M_pulse_166 (by decide) (fun hc => ?_) (fun hc => ?_)
    · replace hw := hw.1 hc
      exact J216 K125 hK125 H locs ls x1 x2 x3 x4 x5 x6 m_x m_y m_pulses m_last m_time m_made hP hD hS (lv_sub hl [1, 2, 3, 4, 5, 6, 7] rfl) hw
    · replace hw := hw.2 hc
      refine lv_iload hx hb d_M_pulse_169 (lv_at hl 6 rfl) ?_
      refine lv_if_lt (tgt := 212) hx hb d_M_pulse_171 (by decide) (fun hc => ?_) (fun hc => ?_)
      · replace hw := hw.1 hc
        exact J212 K125 hK125 H locs ls x1 x2 x3 x4 x6 m_x m_y m_pulses m_last m_time m_made hP hD hS (lv_sub hl [1, 2, 3, 4, 5, 7] rfl) hw
      · replace hw := hw.2 hc
        refine lv_aload_n hx hb d_M_pulse_174 rfl (lv_at hl 1 rfl) ?_
        refine lv_iload_n hx hb d_M_pulse_175 rfl (lv_at hl 4 rfl) ?_
        refine lv_iload hx hb d_M_pulse_176 (lv_at hl 5 rfl) ?_
        refine lv_aload_n hx hb d_M_pulse_178 rfl (lv_at hl 1 rfl) ?_
        refine g_M_px hx hb hts hown hK hP 0 rfl rfl d_M_pulse_179 ?_
        refine lv_iload hx hb d_M_pulse_182 (lv_at hl 7 rfl) ?_
        refine va_iald hx hb hK hP 2 6 rfl rfl hw.1 d_M_pulse_184 ?_
        replace hw := hw.2
        refine lv_aload_n hx hb d_M_pulse_185 rfl (lv_at hl 1 rfl) ?_
        refine g_M_py hx hb hts hown hK hP 0 rfl rfl d_M_pulse_186 ?_
        refine lv_iload hx hb d_M_pulse_189 (lv_at hl 7 rfl) ?_
        refine va_iald hx hb hK hP 3 7 rfl rfl hw.1 d_M_pulse_191 ?_
        replace hw := hw.2
        refine lv_aload_n hx hb d_M_pulse_192 rfl (lv_at hl 1 rfl) ?_
        refine g_M_px hx hb hts hown hK hP 0 rfl rfl d_M_pulse_193 ?_
        refine lv_iload hx hb d_M_pulse_196 (lv_at hl 6 rfl) ?_
        refine va_iald hx hb hK hP 2 6 rfl rfl hw.1 d_M_pulse_198 ?_
        replace hw := hw.2
        refine lv_aload_n hx hb d_M_pulse_199 rfl (lv_at hl 1 rfl) ?_
        refine g_M_py hx hb hts hown hK hP 0 rfl rfl d_M_pulse_200 ?_
        refine lv_iload hx hb d_M_pulse_203 (lv_at hl 6 rfl) ?_
        refine va_iald hx hb hK hP 3 7 rfl rfl hw.1 d_M_pulse_205 ?_
        replace hw := hw.2
        refine my_calli (va_runV (As := [.int x3, .int x4, .int (mx x6.toNatClampNeg), .int (my x6.toNatClampNeg), .int (mx x5.toNatClampNeg), .int (my x5.toNatClampNeg)]) (rest := []) ⟨hx, hb, hml, hown, hts⟩ (c_M_before l H.size) (cw_M_151 hts ⟨Nat.le_of_ble_eq_true rfl, Nat.le_of_ble_eq_true rfl⟩) (my_preV hK hP hX hD hS hA 0 rfl rfl hw) rfl rfl hl.1 rfl (lv_room (Nat.le_of_ble_eq_true rfl)) d_M_pulse_206 ⟨Nat.le_refl _, Nat.le_refl _⟩) hD hS hA (fun r206 _ H locs hw hP hD hS => ?_)
        have hP : va_P D cls ((o_M a m_length m_at m_lines m_x m_y m_mode m_feed m_state m_pulses m_last m_shown m_relative m_ending m_time m_pause m_kind m_made m_all m_fromX m_fromY m_wayX m_wayY m_points m_centreX m_centreY m_there m_newMode m_newWay m_newFeed m_ends) :: e1 :: (o_mx a K mx) :: (o_my a K my) :: tl) H := hP
        have hD : va_D A ((o_M a m_length m_at m_lines m_x m_y m_mode m_feed m_state m_pulses m_last m_shown m_relative m_ending m_time m_pause m_kind m_made m_all m_fromX m_fromY m_wayX m_wayY m_points m_centreX m_centreY m_there m_newMode m_newWay m_newFeed m_ends) :: e1 :: (o_mx a K mx) :: (o_my a K my) :: tl) := hD
        refine lv_if_eq (tgt := 216) hx hb d_M_pulse_209 (by decide) (fun hc => ?_) (fun hc => ?_)
        · replace hw := hw.1 hc
          exact J216 K125 hK125 H locs ls x1 x2 x3 x4 x5 x6 m_x m_y m_pulses m_last m_time m_made hP hD hS (lv_sub hl [1, 2, 3, 4, 5, 6, 7] rfl) hw
        · replace hw := hw.2 hc
          exact J212 K125 hK125 H locs ls x1 x2 x3 x4 x6 m_x m_y m_pulses m_last m_time m_made hP hD hS (lv_sub hl [1, 2, 3, 4, 5, 7] rfl) hw
  have J161 : ∀ (K125 : Int32 → Int32 → Int32 → Int32 → Int32 → Int32 → Int32 → Int32 → Int32 → Int32 → Int64 → Int32 → Prop) (hK125 : ∀ (H : Heap) (locs : List Loc) (ls : Array Slot) (x1 x2 x3 x4 x5 x6 m_x m_y m_pulses m_last : Int32) (m_time : Int64) (m_made : Int32), va_P D cls ((o_M a m_length m_at m_lines m_x m_y m_mode m_feed m_state m_pulses m_last m_shown m_relative m_ending m_time m_pause m_kind m_made m_all m_fromX m_fromY m_wayX m_wayY m_points m_centreX m_centreY m_there m_newMode m_newWay m_newFeed m_ends) :: e1 :: (o_mx a K mx) :: (o_my a K my) :: tl) H → va_D A ((o_M a m_length m_at m_lines m_x m_y m_mode m_feed m_state m_pulses m_last m_shown m_relative m_ending m_time m_pause m_kind m_made m_all m_fromX m_fromY m_wayX m_wayY m_points m_centreX m_centreY m_there m_newMode m_newWay m_newFeed m_ends) :: e1 :: (o_mx a K mx) :: (o_my a K my) :: tl) → va_S A s.heap H locs → lv_has ls 8 [(0, .ref (a 10)), (1, .int x1), (2, .int x2), (3, .int x3), (4, .int x4), (5, .int x5), (6, .int x6)] → K125 x1 x2 x3 x4 x5 x6 m_x m_y m_pulses m_last m_time m_made → W p l e rm_M_pulse s m args below meth c H locs 0 0 QQ (F0 m 125 ls [])) (H : Heap) (locs : List Loc) (ls : Array Slot) (x1 x2 x3 x4 x5 x6 m_x m_y m_pulses m_last : Int32) (m_time : Int64) (m_made : Int32), va_P D cls ((o_M a m_length m_at m_lines m_x m_y m_mode m_feed m_state m_pulses m_last m_shown m_relative m_ending m_time m_pause m_kind m_made m_all m_fromX m_fromY m_wayX m_wayY m_points m_centreX m_centreY m_there m_newMode m_newWay m_newFeed m_ends) :: e1 :: (o_mx a K mx) :: (o_my a K my) :: tl) H → va_D A ((o_M a m_length m_at m_lines m_x m_y m_mode m_feed m_state m_pulses m_last m_shown m_relative m_ending m_time m_pause m_kind m_made m_all m_fromX m_fromY m_wayX m_wayY m_points m_centreX m_centreY m_there m_newMode m_newWay m_newFeed m_ends) :: e1 :: (o_mx a K mx) :: (o_my a K my) :: tl) → va_S A s.heap H locs → lv_has ls 8 [(0, .ref (a 10)), (1, .int x1), (2, .int x2), (3, .int x3), (4, .int x4), (5, .int x5), (6, .int x6)] → wq_M_pulse_161 Q K125 m_pause m_kind m_points m_centreX m_centreY mx my x1 x2 x3 x4 x5 x6 m_x m_y m_pulses m_last m_time m_made → W p l e rm_M_pulse s m args below meth c H locs 0 0 QQ (F0 m 161 ls []) := by
    intro K125 hK125 H locs ls x1 x2 x3 x4 x5 x6 m_x m_y m_pulses m_last m_time m_made hP hD hS hl hw
    unfold wq_M_pulse_161 at hw
    refine lv_iconst (v := (0 : Int32)) hx hb d_M_pulse_161 (by decide) ?_
    exact J162 K125 hK125 H locs ls x1 x2 x3 x4 x5 x6 (0 : Int32) m_x m_y m_pulses m_last m_time m_made hP hD hS (lv_sub hl [0, 1, 2, 3, 4, 5, 6] rfl) hw
  have J125 : ∀ (n125 : Nat) (H : Heap) (locs : List Loc) (ls : Array Slot) (x1 x2 x3 x4 x5 x6 m_x m_y m_pulses m_last : Int32) (m_time : Int64) (m_made : Int32), va_P D cls ((o_M a m_length m_at m_lines m_x m_y m_mode m_feed m_state m_pulses m_last m_shown m_relative m_ending m_time m_pause m_kind m_made m_all m_fromX m_fromY m_wayX m_wayY m_points m_centreX m_centreY m_there m_newMode m_newWay m_newFeed m_ends) :: e1 :: (o_mx a K mx) :: (o_my a K my) :: tl) H → va_D A ((o_M a m_length m_at m_lines m_x m_y m_mode m_feed m_state m_pulses m_last m_shown m_relative m_ending m_time m_pause m_kind m_made m_all m_fromX m_fromY m_wayX m_wayY m_points m_centreX m_centreY m_there m_newMode m_newWay m_newFeed m_ends) :: e1 :: (o_mx a K mx) :: (o_my a K my) :: tl) → va_S A s.heap H locs → lv_has ls 8 [(0, .ref (a 10)), (1, .int x1), (2, .int x2), (3, .int x3), (4, .int x4), (5, .int x5), (6, .int x6)] → wq_M_pulse_125 Q m_pause m_kind m_points m_centreX m_centreY mx my n125 x1 x2 x3 x4 x5 x6 m_x m_y m_pulses m_last m_time m_made → W p l e rm_M_pulse s m args below meth c H locs 0 0 QQ (F0 m 125 ls []) := by
    intro n125
    induction n125 with
    | zero => intro H locs ls x1 x2 x3 x4 x5 x6 m_x m_y m_pulses m_last m_time m_made hP hD hS hl hw; exact False.elim hw
    | succ n125 ih =>
      intro H locs ls x1 x2 x3 x4 x5 x6 m_x m_y m_pulses m_last m_time m_made hP hD hS hl hw
      unfold wq_M_pulse_125 at hw
      refine lv_iload hx hb d_M_pulse_125 (lv_at hl 6 rfl) ?_
      refine lv_aload_n hx hb d_M_pulse_127 rfl (lv_at hl 0 rfl) ?_
      refine g_M_points hx hb hts hown hK hP 0 rfl rfl d_M_pulse_128 ?_
      refine lv_icmp_ge (tgt := 222) hx hb d_M_pulse_131 (by decide) (fun hc => ?_) (fun hc => ?_)
      · replace hw := hw.1 hc
        refine lv_aload_n hx hb d_M_pulse_222 rfl (lv_at hl 0 rfl) ?_
        refine lv_aload_n hx hb d_M_pulse_223 rfl (lv_at hl 0 rfl) ?_
        refine g_M_centreX hx hb hts hown hK hP 0 rfl rfl d_M_pulse_224 ?_
        refine lv_aload_n hx hb d_M_pulse_227 rfl (lv_at hl 0 rfl) ?_
        refine g_M_px hx hb hts hown hK hP 0 rfl rfl d_M_pulse_228 ?_
        refine lv_iload hx hb d_M_pulse_231 (lv_at hl 5 rfl) ?_
        refine va_iald hx hb hK hP 2 6 rfl rfl hw.1 d_M_pulse_233 ?_
        replace hw := hw.2
        refine lv_iadd hx hb d_M_pulse_234 ?_
        refine u_M_x hx hb hts hown hK hP hD hS 0 rfl rfl d_M_pulse_235 (fun H locs hP hD hS => ?_)
        have hP : va_P D cls ((o_M a m_length m_at m_lines (m_centreX + (mx x5.toNatClampNeg)) m_y m_mode m_feed m_state m_pulses m_last m_shown m_relative m_ending m_time m_pause m_kind m_made m_all m_fromX m_fromY m_wayX m_wayY m_points m_centreX m_centreY m_there m_newMode m_newWay m_newFeed m_ends) :: e1 :: (o_mx a K mx) :: (o_my a K my) :: tl) H := hP
        have hD : va_D A ((o_M a m_length m_at m_lines (m_centreX + (mx x5.toNatClampNeg)) m_y m_mode m_feed m_state m_pulses m_last m_shown m_relative m_ending m_time m_pause m_kind m_made m_all m_fromX m_fromY m_wayX m_wayY m_points m_centreX m_centreY m_there m_newMode m_newWay m_newFeed m_ends) :: e1 :: (o_mx a K mx) :: (o_my a K my) :: tl) := hD
        refine lv_aload_n hx hb d_M_pulse_238 rfl (lv_at hl 0 rfl) ?_
        refine lv_aload_n hx hb d_M_pulse_239 rfl (lv_at hl 0 rfl) ?_
        refine g_M_centreY hx hb hts hown hK hP 0 rfl rfl d_M_pulse_240 ?_
        refine lv_aload_n hx hb d_M_pulse_243 rfl (lv_at hl 0 rfl) ?_
        refine g_M_py hx hb hts hown hK hP 0 rfl rfl d_M_pulse_244 ?_
        refine lv_iload hx hb d_M_pulse_247 (lv_at hl 5 rfl) ?_
        refine va_iald hx hb hK hP 3 7 rfl rfl hw.1 d_M_pulse_249 ?_
        replace hw := hw.2
        refine lv_iadd hx hb d_M_pulse_250 ?_
        refine u_M_y hx hb hts hown hK hP hD hS 0 rfl rfl d_M_pulse_251 (fun H locs hP hD hS => ?_)
        have hP : va_P D cls ((o_M a m_length m_at m_lines (m_centreX + (mx x5.toNatClampNeg)) (m_centreY + (my x5.toNatClampNeg)) m_mode m_feed m_state m_pulses m_last m_shown m_relative m_ending m_time m_pause m_kind m_made m_all m_fromX m_fromY m_wayX m_wayY m_points m_centreX m_centreY m_there m_newMode m_newWay m_newFeed m_ends) :: e1 :: (o_mx a K mx) :: (o_my a K my) :: tl) H := hP
        have hD : va_D A ((o_M a m_length m_at m_lines (m_centreX + (mx x5.toNatClampNeg)) (m_centreY + (my x5.toNatClampNeg)) m_mode m_feed m_state m_pulses m_last m_shown m_relative m_ending m_time m_pause m_kind m_made m_all m_fromX m_fromY m_wayX m_wayY m_points m_centreX m_centreY m_there m_newMode m_newWay m_newFeed m_ends) :: e1 :: (o_mx a K mx) :: (o_my a K my) :: tl) := hD
        exact J254 H locs ls x1 x2 (m_centreX + (mx x5.toNatClampNeg)) (m_centreY + (my x5.toNatClampNeg)) m_pulses m_last m_time m_made hP hD hS (lv_sub hl [0, 1, 2] rfl) hw
      · replace hw := hw.2 hc
        refine lv_aload_n hx hb d_M_pulse_134 rfl (lv_at hl 0 rfl) ?_
        refine g_M_px hx hb hts hown hK hP 0 rfl rfl d_M_pulse_135 ?_
        refine lv_iload hx hb d_M_pulse_138 (lv_at hl 6 rfl) ?_
        refine va_iald hx hb hK hP 2 6 rfl rfl hw.1 d_M_pulse_140 ?_
        replace hw := hw.2
        refine lv_iload_n hx hb d_M_pulse_141 rfl (lv_at hl 3 rfl) ?_
        refine lv_icmp_ne (tgt := 161) hx hb d_M_pulse_142 (by decide) (fun hc => ?_) (fun hc => ?_)
        · replace hw := hw.1 hc
          exact J161 (fun x1 x2 x3 x4 x5 x6 m_x m_y m_pulses m_last m_time m_made => wq_M_pulse_125 Q m_pause m_kind m_points m_centreX m_centreY mx my n125 x1 x2 x3 x4 x5 x6 m_x m_y m_pulses m_last m_time m_made) ih H locs ls x1 x2 x3 x4 x5 x6 m_x m_y m_pulses m_last m_time m_made hP hD hS (lv_sub hl [0, 1, 2, 3, 4, 5, 6] rfl) hw
        · replace hw := hw.2 hc
          refine lv_aload_n hx hb d_M_pulse_145 rfl (lv_at hl 0 rfl) ?_
          refine g_M_py hx hb hts hown hK hP 0 rfl rfl d_M_pulse_146 ?_
          refine lv_iload hx hb d_M_pulse_149 (lv_at hl 6 rfl) ?_
          refine va_iald hx hb hK hP 3 7 rfl rfl hw.1 d_M_pulse_151 ?_
          replace hw := hw.2
          refine lv_iload hx hb d_M_pulse_152 (lv_at hl 4 rfl) ?_
          refine lv_icmp_ne (tgt := 161) hx hb d_M_pulse_154 (by decide) (fun hc => ?_) (fun hc => ?_)
          · replace hw := hw.1 hc
            exact J161 (fun x1 x2 x3 x4 x5 x6 m_x m_y m_pulses m_last m_time m_made => wq_M_pulse_125 Q m_pause m_kind m_points m_centreX m_centreY mx my n125 x1 x2 x3 x4 x5 x6 m_x m_y m_pulses m_last m_time m_made) ih H locs ls x1 x2 x3 x4 x5 x6 m_x m_y m_pulses m_last m_time m_made hP hD hS (lv_sub hl [0, 1, 2, 3, 4, 5, 6] rfl) hw
          · replace hw := hw.2 hc
            refine lv_iconst (v := (1 : Int32)) hx hb d_M_pulse_157 (by decide) ?_
            refine lv_goto (tgt := 162) hx hb d_M_pulse_158 (by decide) ?_
            exact J162 (fun x1 x2 x3 x4 x5 x6 m_x m_y m_pulses m_last m_time m_made => wq_M_pulse_125 Q m_pause m_kind m_points m_centreX m_centreY mx my n125 x1 x2 x3 x4 x5 x6 m_x m_y m_pulses m_last m_time m_made) ih H locs ls x1 x2 x3 x4 x5 x6 (1 : Int32) m_x m_y m_pulses m_last m_time m_made hP hD hS (lv_sub hl [0, 1, 2, 3, 4, 5, 6] rfl) hw
  unfold wp_M_pulse at hw
  refine lv_aload_n hx hb d_M_pulse_0 rfl (lv_at hl 0 rfl) ?_
  refine g_M_x hx hb hts hown hK hP 0 rfl rfl d_M_pulse_1 ?_
  refine lv_istore_n (lv' := [(1, .int m_x), (0, .ref (a 10))]) hx hb d_M_pulse_4 rfl hl (Nat.le_of_ble_eq_true rfl) rfl (fun ls hl => ?_)
  refine lv_aload_n hx hb d_M_pulse_5 rfl (lv_at hl 1 rfl) ?_
  refine g_M_y hx hb hts hown hK hP 0 rfl rfl d_M_pulse_6 ?_
  refine lv_istore_n (lv' := [(2, .int m_y), (1, .int m_x), (0, .ref (a 10))]) hx hb d_M_pulse_9 rfl hl (Nat.le_of_ble_eq_true rfl) rfl (fun ls hl => ?_)
  refine lv_aload_n hx hb d_M_pulse_10 rfl (lv_at hl 2 rfl) ?_
  refine lv_aload_n hx hb d_M_pulse_11 rfl (lv_at hl 2 rfl) ?_
  refine g_M_made hx hb hts hown hK hP 0 rfl rfl d_M_pulse_12 ?_
  refine lv_iconst (v := (1 : Int32)) hx hb d_M_pulse_15 (by decide) ?_
  refine lv_iadd hx hb d_M_pulse_16 ?_
  refine u_M_made hx hb hts hown hK hP hD hS 0 rfl rfl d_M_pulse_17 (fun H locs hP hD hS => ?_)
  have hP : va_P D cls ((o_M a m_length m_at m_lines m_x m_y m_mode m_feed m_state m_pulses m_last m_shown m_relative m_ending m_time m_pause m_kind (m_made + (1 : Int32)) m_all m_fromX m_fromY m_wayX m_wayY m_points m_centreX m_centreY m_there m_newMode m_newWay m_newFeed m_ends) :: e1 :: (o_mx a K mx) :: (o_my a K my) :: tl) H := hP
  have hD : va_D A ((o_M a m_length m_at m_lines m_x m_y m_mode m_feed m_state m_pulses m_last m_shown m_relative m_ending m_time m_pause m_kind (m_made + (1 : Int32)) m_all m_fromX m_fromY m_wayX m_wayY m_points m_centreX m_centreY m_there m_newMode m_newWay m_newFeed m_ends) :: e1 :: (o_mx a K mx) :: (o_my a K my) :: tl) := hD
  refine lv_aload_n hx hb d_M_pulse_20 rfl (lv_at hl 2 rfl) ?_
  refine g_M_kind hx hb hts hown hK hP 0 rfl rfl d_M_pulse_21 ?_
  refine lv_if_ne (tgt := 98) hx hb d_M_pulse_24 (by decide) (fun hc => ?_) (fun hc => ?_)
  · replace hw := hw.1 hc
    refine lv_aload_n hx hb d_M_pulse_98 rfl (lv_at hl 2 rfl) ?_
    refine g_M_x hx hb hts hown hK hP 0 rfl rfl d_M_pulse_99 ?_
    refine lv_aload_n hx hb d_M_pulse_102 rfl (lv_at hl 2 rfl) ?_
    refine g_M_centreX hx hb hts hown hK hP 0 rfl rfl d_M_pulse_103 ?_
    refine lv_isub hx hb d_M_pulse_106 ?_
    refine lv_istore_n (lv' := [(3, .int (m_x - m_centreX)), (2, .int m_y), (1, .int m_x), (0, .ref (a 10))]) hx hb d_M_pulse_107 rfl hl (Nat.le_of_ble_eq_true rfl) rfl (fun ls hl => ?_)
    refine lv_aload_n hx hb d_M_pulse_108 rfl (lv_at hl 3 rfl) ?_
    refine g_M_y hx hb hts hown hK hP 0 rfl rfl d_M_pulse_109 ?_
    refine lv_aload_n hx hb d_M_pulse_112 rfl (lv_at hl 3 rfl) ?_
    refine g_M_centreY hx hb hts hown hK hP 0 rfl rfl d_M_pulse_113 ?_
    refine lv_isub hx hb d_M_pulse_116 ?_
    refine lv_istore (lv' := [(4, .int (m_y - m_centreY)), (3, .int (m_x - m_centreX)), (2, .int m_y), (1, .int m_x), (0, .ref (a 10))]) hx hb d_M_pulse_117 hl (Nat.le_of_ble_eq_true rfl) rfl (fun ls hl => ?_)
    refine lv_iconst (v := (-1 : Int32)) hx hb d_M_pulse_119 (by decide) ?_
    refine lv_istore (lv' := [(5, .int (-1 : Int32)), (4, .int (m_y - m_centreY)), (3, .int (m_x - m_centreX)), (2, .int m_y), (1, .int m_x), (0, .ref (a 10))]) hx hb d_M_pulse_120 hl (Nat.le_of_ble_eq_true rfl) rfl (fun ls hl => ?_)
    refine lv_iconst (v := (0 : Int32)) hx hb d_M_pulse_122 (by decide) ?_
    refine lv_istore (lv' := [(6, .int (0 : Int32)), (5, .int (-1 : Int32)), (4, .int (m_y - m_centreY)), (3, .int (m_x - m_centreX)), (2, .int m_y), (1, .int m_x), (0, .ref (a 10))]) hx hb d_M_pulse_123 hl (Nat.le_of_ble_eq_true rfl) rfl (fun ls hl => ?_)
    obtain ⟨n125, hw⟩ := hw
    exact J125 n125 H locs ls m_x m_y (m_x - m_centreX) (m_y - m_centreY) (-1 : Int32) (0 : Int32) m_x m_y m_pulses m_last m_time (m_made + (1 : Int32)) hP hD hS (lv_sub hl [6, 5, 4, 3, 2, 1, 0] rfl) hw
  · replace hw := hw.2 hc
    refine lv_aload_n hx hb d_M_pulse_27 rfl (lv_at hl 2 rfl) ?_
    refine lv_aload_n hx hb d_M_pulse_28 rfl (lv_at hl 2 rfl) ?_
    refine g_M_fromX hx hb hts hown hK hP 0 rfl rfl d_M_pulse_29 ?_
    refine lv_iconst (v := (2 : Int32)) hx hb d_M_pulse_32 (by decide) ?_
    refine lv_aload_n hx hb d_M_pulse_33 rfl (lv_at hl 2 rfl) ?_
    refine g_M_made hx hb hts hown hK hP 0 rfl rfl d_M_pulse_34 ?_
    refine lv_imul hx hb d_M_pulse_37 ?_
    refine lv_aload_n hx hb d_M_pulse_38 rfl (lv_at hl 2 rfl) ?_
    refine g_M_wayX hx hb hts hown hK hP 0 rfl rfl d_M_pulse_39 ?_
    refine lv_imul hx hb d_M_pulse_42 ?_
    refine lv_aload_n hx hb d_M_pulse_43 rfl (lv_at hl 2 rfl) ?_
    refine g_M_all hx hb hts hown hK hP 0 rfl rfl d_M_pulse_44 ?_
    refine lv_iadd hx hb d_M_pulse_47 ?_
    refine lv_iconst (v := (2 : Int32)) hx hb d_M_pulse_48 (by decide) ?_
    refine lv_aload_n hx hb d_M_pulse_49 rfl (lv_at hl 2 rfl) ?_
    refine g_M_all hx hb hts hown hK hP 0 rfl rfl d_M_pulse_50 ?_
    refine lv_imul hx hb d_M_pulse_53 ?_
    refine my_calli (va_runS (As := [.int ((((2 : Int32) * (m_made + (1 : Int32))) * m_wayX) + m_all), .int ((2 : Int32) * m_all)]) (rest := [.int m_fromX, .ref (a 10)]) ⟨hx, hb, hml, hown, hts⟩ (c_M_quotient l H.size) (cw_M_172 hts ⟨Nat.le_of_ble_eq_true rfl, Nat.le_of_ble_eq_true rfl⟩) (my_preS hK hP hX hD hS hA hw) rfl rfl hl.1 rfl (lv_room (Nat.le_of_ble_eq_true rfl)) d_M_pulse_54 ⟨Nat.le_refl _, Nat.le_refl _⟩) hD hS hA (fun r54 _ H locs hw hP hD hS => ?_)
    have hP : va_P D cls ((o_M a m_length m_at m_lines m_x m_y m_mode m_feed m_state m_pulses m_last m_shown m_relative m_ending m_time m_pause m_kind (m_made + (1 : Int32)) m_all m_fromX m_fromY m_wayX m_wayY m_points m_centreX m_centreY m_there m_newMode m_newWay m_newFeed m_ends) :: e1 :: (o_mx a K mx) :: (o_my a K my) :: tl) H := hP
    have hD : va_D A ((o_M a m_length m_at m_lines m_x m_y m_mode m_feed m_state m_pulses m_last m_shown m_relative m_ending m_time m_pause m_kind (m_made + (1 : Int32)) m_all m_fromX m_fromY m_wayX m_wayY m_points m_centreX m_centreY m_there m_newMode m_newWay m_newFeed m_ends) :: e1 :: (o_mx a K mx) :: (o_my a K my) :: tl) := hD
    refine lv_iadd hx hb d_M_pulse_57 ?_
    refine u_M_x hx hb hts hown hK hP hD hS 0 rfl rfl d_M_pulse_58 (fun H locs hP hD hS => ?_)
    have hP : va_P D cls ((o_M a m_length m_at m_lines (m_fromX + r54) m_y m_mode m_feed m_state m_pulses m_last m_shown m_relative m_ending m_time m_pause m_kind (m_made + (1 : Int32)) m_all m_fromX m_fromY m_wayX m_wayY m_points m_centreX m_centreY m_there m_newMode m_newWay m_newFeed m_ends) :: e1 :: (o_mx a K mx) :: (o_my a K my) :: tl) H := hP
    have hD : va_D A ((o_M a m_length m_at m_lines (m_fromX + r54) m_y m_mode m_feed m_state m_pulses m_last m_shown m_relative m_ending m_time m_pause m_kind (m_made + (1 : Int32)) m_all m_fromX m_fromY m_wayX m_wayY m_points m_centreX m_centreY m_there m_newMode m_newWay m_newFeed m_ends) :: e1 :: (o_mx a K mx) :: (o_my a K my) :: tl) := hD
    refine lv_aload_n hx hb d_M_pulse_61 rfl (lv_at hl 2 rfl) ?_
    refine lv_aload_n hx hb d_M_pulse_62 rfl (lv_at hl 2 rfl) ?_
    refine g_M_fromY hx hb hts hown hK hP 0 rfl rfl d_M_pulse_63 ?_
    refine lv_iconst (v := (2 : Int32)) hx hb d_M_pulse_66 (by decide) ?_
    refine lv_aload_n hx hb d_M_pulse_67 rfl (lv_at hl 2 rfl) ?_
    refine g_M_made hx hb hts hown hK hP 0 rfl rfl d_M_pulse_68 ?_
    refine lv_imul hx hb d_M_pulse_71 ?_
    refine lv_aload_n hx hb d_M_pulse_72 rfl (lv_at hl 2 rfl) ?_
    refine g_M_wayY hx hb hts hown hK hP 0 rfl rfl d_M_pulse_73 ?_
    refine lv_imul hx hb d_M_pulse_76 ?_
    refine lv_aload_n hx hb d_M_pulse_77 rfl (lv_at hl 2 rfl) ?_
    refine g_M_all hx hb hts hown hK hP 0 rfl rfl d_M_pulse_78 ?_
    refine lv_iadd hx hb d_M_pulse_81 ?_
    refine lv_iconst (v := (2 : Int32)) hx hb d_M_pulse_82 (by decide) ?_
    refine lv_aload_n hx hb d_M_pulse_83 rfl (lv_at hl 2 rfl) ?_
    refine g_M_all hx hb hts hown hK hP 0 rfl rfl d_M_pulse_84 ?_
    refine lv_imul hx hb d_M_pulse_87 ?_
    refine my_calli (va_runS (As := [.int ((((2 : Int32) * (m_made + (1 : Int32))) * m_wayY) + m_all), .int ((2 : Int32) * m_all)]) (rest := [.int m_fromY, .ref (a 10)]) ⟨hx, hb, hml, hown, hts⟩ (c_M_quotient l H.size) (cw_M_172 hts ⟨Nat.le_of_ble_eq_true rfl, Nat.le_of_ble_eq_true rfl⟩) (my_preS hK hP hX hD hS hA hw) rfl rfl hl.1 rfl (lv_room (Nat.le_of_ble_eq_true rfl)) d_M_pulse_88 ⟨Nat.le_refl _, Nat.le_refl _⟩) hD hS hA (fun r88 _ H locs hw hP hD hS => ?_)
    have hP : va_P D cls ((o_M a m_length m_at m_lines (m_fromX + r54) m_y m_mode m_feed m_state m_pulses m_last m_shown m_relative m_ending m_time m_pause m_kind (m_made + (1 : Int32)) m_all m_fromX m_fromY m_wayX m_wayY m_points m_centreX m_centreY m_there m_newMode m_newWay m_newFeed m_ends) :: e1 :: (o_mx a K mx) :: (o_my a K my) :: tl) H := hP
    have hD : va_D A ((o_M a m_length m_at m_lines (m_fromX + r54) m_y m_mode m_feed m_state m_pulses m_last m_shown m_relative m_ending m_time m_pause m_kind (m_made + (1 : Int32)) m_all m_fromX m_fromY m_wayX m_wayY m_points m_centreX m_centreY m_there m_newMode m_newWay m_newFeed m_ends) :: e1 :: (o_mx a K mx) :: (o_my a K my) :: tl) := hD
    refine lv_iadd hx hb d_M_pulse_91 ?_
    refine u_M_y hx hb hts hown hK hP hD hS 0 rfl rfl d_M_pulse_92 (fun H locs hP hD hS => ?_)
    have hP : va_P D cls ((o_M a m_length m_at m_lines (m_fromX + r54) (m_fromY + r88) m_mode m_feed m_state m_pulses m_last m_shown m_relative m_ending m_time m_pause m_kind (m_made + (1 : Int32)) m_all m_fromX m_fromY m_wayX m_wayY m_points m_centreX m_centreY m_there m_newMode m_newWay m_newFeed m_ends) :: e1 :: (o_mx a K mx) :: (o_my a K my) :: tl) H := hP
    have hD : va_D A ((o_M a m_length m_at m_lines (m_fromX + r54) (m_fromY + r88) m_mode m_feed m_state m_pulses m_last m_shown m_relative m_ending m_time m_pause m_kind (m_made + (1 : Int32)) m_all m_fromX m_fromY m_wayX m_wayY m_points m_centreX m_centreY m_there m_newMode m_newWay m_newFeed m_ends) :: e1 :: (o_mx a K mx) :: (o_my a K my) :: tl) := hD
    refine lv_goto (tgt := 254) hx hb d_M_pulse_95 (by decide) ?_
    exact J254 H locs ls m_x m_y (m_fromX + r54) (m_fromY + r88) m_pulses m_last m_time (m_made + (1 : Int32)) hP hD hS (lv_sub hl [2, 1, 0] rfl) hw
def wq_M_run_41 (Q : Int32 → Int32 → Int32 → Int32 → Int32 → Int32 → Int32 → Int32 → Int32 → Int32 → Int32 → Int32 → Int32 → Int64 → Int64 → Int32 → Int32 → Int32 → Int32 → Int32 → Int32 → Int32 → Int32 → Int32 → Int32 → Int32 → Int32 → Int32 → Int32 → Int32 → (Nat → Int32) → (Nat → Int32) → (Nat → Int32) → Prop) (K4 : Int32 → Int32 → Int32 → Int32 → Int32 → Int32 → Int32 → Int32 → Int32 → Int32 → Int32 → Int32 → Int32 → Int32 → Int32 → Int64 → Int64 → Int32 → Int32 → Int32 → Int32 → Int32 → Int32 → Int32 → Int32 → Int32 → Int32 → Int32 → Int32 → Int32 → Int32 → Int32 → (Nat → Int32) → (Nat → Int32) → (Nat → Int32) → Prop) (m_length : Int32) (mt : Nat → Int32) (x1 x2 x3 m_at m_lines m_x m_y m_mode m_feed m_state m_pulses m_last m_shown m_relative m_ending : Int32) (m_time m_pause : Int64) (m_kind m_made m_all m_fromX m_fromY m_wayX m_wayY m_points m_centreX m_centreY m_there m_newMode m_newWay m_newFeed m_ends : Int32) (mx my mn : Nat → Int32) : Prop := (K4 x1 x2 (x3 + (1 : Int32)) m_at m_lines m_x m_y m_mode m_feed m_state m_pulses m_last m_shown m_relative m_ending m_time m_pause m_kind m_made m_all m_fromX m_fromY m_wayX m_wayY m_points m_centreX m_centreY m_there m_newMode m_newWay m_newFeed m_ends mx my mn)
def wq_M_run_4 (Q : Int32 → Int32 → Int32 → Int32 → Int32 → Int32 → Int32 → Int32 → Int32 → Int32 → Int32 → Int32 → Int32 → Int64 → Int64 → Int32 → Int32 → Int32 → Int32 → Int32 → Int32 → Int32 → Int32 → Int32 → Int32 → Int32 → Int32 → Int32 → Int32 → Int32 → (Nat → Int32) → (Nat → Int32) → (Nat → Int32) → Prop) (m_length : Int32) (mt : Nat → Int32) : Nat → Int32 → Int32 → Int32 → Int32 → Int32 → Int32 → Int32 → Int32 → Int32 → Int32 → Int32 → Int32 → Int32 → Int32 → Int32 → Int64 → Int64 → Int32 → Int32 → Int32 → Int32 → Int32 → Int32 → Int32 → Int32 → Int32 → Int32 → Int32 → Int32 → Int32 → Int32 → Int32 → (Nat → Int32) → (Nat → Int32) → (Nat → Int32) → Prop
  | 0, _, _, _, _, _, _, _, _, _, _, _, _, _, _, _, _, _, _, _, _, _, _, _, _, _, _, _, _, _, _, _, _, _, _, _ => False
  | n4 + 1, x1, x2, x3, m_at, m_lines, m_x, m_y, m_mode, m_feed, m_state, m_pulses, m_last, m_shown, m_relative, m_ending, m_time, m_pause, m_kind, m_made, m_all, m_fromX, m_fromY, m_wayX, m_wayY, m_points, m_centreX, m_centreY, m_there, m_newMode, m_newWay, m_newFeed, m_ends, mx, my, mn => (((1000000 : Int32) ≤ x3 → (Q x2 m_at m_lines m_x m_y m_mode m_feed m_state m_pulses m_last m_shown m_relative m_ending m_time m_pause m_kind m_made m_all m_fromX m_fromY m_wayX m_wayY m_points m_centreX m_centreY m_there m_newMode m_newWay m_newFeed m_ends mx my mn)) ∧ (¬ (1000000 : Int32) ≤ x3 → ((x1 ≤ x2 → (Q x2 m_at m_lines m_x m_y m_mode m_feed m_state m_pulses m_last m_shown m_relative m_ending m_time m_pause m_kind m_made m_all m_fromX m_fromY m_wayX m_wayY m_points m_centreX m_centreY m_there m_newMode m_newWay m_newFeed m_ends mx my mn)) ∧ (¬ x1 ≤ x2 → ((¬ m_state = 0 → (Q x2 m_at m_lines m_x m_y m_mode m_feed m_state m_pulses m_last m_shown m_relative m_ending m_time m_pause m_kind m_made m_all m_fromX m_fromY m_wayX m_wayY m_points m_centreX m_centreY m_there m_newMode m_newWay m_newFeed m_ends mx my mn)) ∧ (m_state = 0 → (wp_M_look m_length m_at m_lines m_x m_y m_mode m_feed m_state m_shown m_relative m_ending m_pause m_kind m_made m_all m_fromX m_fromY m_wayX m_wayY m_points m_centreX m_centreY m_there m_newMode m_newWay m_newFeed m_ends mt mx my mn (fun m_at_23 m_lines_23 m_mode_23 m_feed_23 m_state_23 m_shown_23 m_relative_23 m_ending_23 m_pause_23 m_kind_23 m_made_23 m_all_23 m_fromX_23 m_fromY_23 m_wayX_23 m_wayY_23 m_points_23 m_centreX_23 m_centreY_23 m_there_23 m_newMode_23 m_newWay_23 m_newFeed_23 m_ends_23 mx_23 my_23 mn_23 => ((¬ m_state_23 = 0 → (wq_M_run_41 Q (fun x1 x2 x3 m_at m_lines m_x m_y m_mode m_feed m_state m_pulses m_last m_shown m_relative m_ending m_time m_pause m_kind m_made m_all m_fromX m_fromY m_wayX m_wayY m_points m_centreX m_centreY m_there m_newMode m_newWay m_newFeed m_ends mx my mn => wq_M_run_4 Q m_length mt n4 x1 x2 x3 m_at m_lines m_x m_y m_mode m_feed m_state m_pulses m_last m_shown m_relative m_ending m_time m_pause m_kind m_made m_all m_fromX m_fromY m_wayX m_wayY m_points m_centreX m_centreY m_there m_newMode m_newWay m_newFeed m_ends mx my mn) m_length mt x1 x2 x3 m_at_23 m_lines_23 m_x m_y m_mode_23 m_feed_23 m_state_23 m_pulses m_last m_shown_23 m_relative_23 m_ending_23 m_time m_pause_23 m_kind_23 m_made_23 m_all_23 m_fromX_23 m_fromY_23 m_wayX_23 m_wayY_23 m_points_23 m_centreX_23 m_centreY_23 m_there_23 m_newMode_23 m_newWay_23 m_newFeed_23 m_ends_23 mx_23 my_23 mn_23)) ∧ (m_state_23 = 0 → (wp_M_pulse m_x m_y m_pulses m_last m_time m_pause_23 m_kind_23 m_made_23 m_all_23 m_fromX_23 m_fromY_23 m_wayX_23 m_wayY_23 m_points_23 m_centreX_23 m_centreY_23 mx_23 my_23 (fun m_x_34 m_y_34 m_pulses_34 m_last_34 m_time_34 m_made_34 => (wq_M_run_41 Q (fun x1 x2 x3 m_at m_lines m_x m_y m_mode m_feed m_state m_pulses m_last m_shown m_relative m_ending m_time m_pause m_kind m_made m_all m_fromX m_fromY m_wayX m_wayY m_points m_centreX m_centreY m_there m_newMode m_newWay m_newFeed m_ends mx my mn => wq_M_run_4 Q m_length mt n4 x1 x2 x3 m_at m_lines m_x m_y m_mode m_feed m_state m_pulses m_last m_shown m_relative m_ending m_time m_pause m_kind m_made m_all m_fromX m_fromY m_wayX m_wayY m_points m_centreX m_centreY m_there m_newMode m_newWay m_newFeed m_ends mx my mn) m_length mt x1 (x2 + (1 : Int32)) x3 m_at_23 m_lines_23 m_x_34 m_y_34 m_mode_23 m_feed_23 m_state_23 m_pulses_34 m_last_34 m_shown_23 m_relative_23 m_ending_23 m_time_34 m_pause_23 m_kind_23 m_made_34 m_all_23 m_fromX_23 m_fromY_23 m_wayX_23 m_wayY_23 m_points_23 m_centreX_23 m_centreY_23 m_there_23 m_newMode_23 m_newWay_23 m_newFeed_23 m_ends_23 mx_23 my_23 mn_23)))))))))))))
def wp_M_run (x1 m_length m_at m_lines m_x m_y m_mode m_feed m_state m_pulses m_last m_shown m_relative m_ending : Int32) (m_time m_pause : Int64) (m_kind m_made m_all m_fromX m_fromY m_wayX m_wayY m_points m_centreX m_centreY m_there m_newMode m_newWay m_newFeed m_ends : Int32) (mt mx my mn : Nat → Int32) (Q : Int32 → Int32 → Int32 → Int32 → Int32 → Int32 → Int32 → Int32 → Int32 → Int32 → Int32 → Int32 → Int32 → Int64 → Int64 → Int32 → Int32 → Int32 → Int32 → Int32 → Int32 → Int32 → Int32 → Int32 → Int32 → Int32 → Int32 → Int32 → Int32 → Int32 → (Nat → Int32) → (Nat → Int32) → (Nat → Int32) → Prop) : Prop := (∃ n4 : Nat, wq_M_run_4 Q m_length mt n4 x1 (0 : Int32) (0 : Int32) m_at m_lines m_x m_y m_mode m_feed m_state m_pulses m_last m_shown m_relative m_ending m_time m_pause m_kind m_made m_all m_fromX m_fromY m_wayX m_wayY m_points m_centreX m_centreY m_there m_newMode m_newWay m_newFeed m_ends mx my mn)
abbrev rm_M_run : Room := { frames := 5, cells := 0, slots := 0, locals := 130 }
set_option maxRecDepth 100000 in
set_option maxHeartbeats 4000000 in
theorem c_M_run (l : Launch) {D : va_G} {X : xT} {a : Nat → Nat} {K : Nat → ClassId} {tl : va_W} {x1 m_length m_at m_lines m_x m_y m_mode m_feed m_state m_pulses m_last m_shown m_relative m_ending : Int32} {m_time m_pause : Int64} {m_kind m_made m_all m_fromX m_fromY m_wayX m_wayY m_points m_centreX m_centreY m_there m_newMode m_newWay m_newFeed m_ends : Int32} {mt mx my mn : Nat → Int32} {Q : Int32 → Int32 → Int32 → Int32 → Int32 → Int32 → Int32 → Int32 → Int32 → Int32 → Int32 → Int32 → Int32 → Int64 → Int64 → Int32 → Int32 → Int32 → Int32 → Int32 → Int32 → Int32 → Int32 → Int32 → Int32 → Int32 → Int32 → Int32 → Int32 → Int32 → (Nat → Int32) → (Nat → Int32) → (Nat → Int32) → Prop} : MI l y_M_run b_M_run 4 rm_M_run D cls (tys K) X [.ref (a 10), .int x1] ((o_M a m_length m_at m_lines m_x m_y m_mode m_feed m_state m_pulses m_last m_shown m_relative m_ending m_time m_pause m_kind m_made m_all m_fromX m_fromY m_wayX m_wayY m_points m_centreX m_centreY m_there m_newMode m_newWay m_newFeed m_ends) :: (o_mt a K mt) :: (o_mx a K mx) :: (o_my a K my) :: (o_mn a K mn) :: tl) (fun u : Int32 × Int32 × Int32 × Int32 × Int32 × Int32 × Int32 × Int32 × Int32 × Int32 × Int32 × Int32 × Int64 × Int64 × Int32 × Int32 × Int32 × Int32 × Int32 × Int32 × Int32 × Int32 × Int32 × Int32 × Int32 × Int32 × Int32 × Int32 × Int32 × (Nat → Int32) × (Nat → Int32) × (Nat → Int32) => (o_M a m_length u.1 u.2.1 u.2.2.1 u.2.2.2.1 u.2.2.2.2.1 u.2.2.2.2.2.1 u.2.2.2.2.2.2.1 u.2.2.2.2.2.2.2.1 u.2.2.2.2.2.2.2.2.1 u.2.2.2.2.2.2.2.2.2.1 u.2.2.2.2.2.2.2.2.2.2.1 u.2.2.2.2.2.2.2.2.2.2.2.1 u.2.2.2.2.2.2.2.2.2.2.2.2.1 u.2.2.2.2.2.2.2.2.2.2.2.2.2.1 u.2.2.2.2.2.2.2.2.2.2.2.2.2.2.1 u.2.2.2.2.2.2.2.2.2.2.2.2.2.2.2.1 u.2.2.2.2.2.2.2.2.2.2.2.2.2.2.2.2.1 u.2.2.2.2.2.2.2.2.2.2.2.2.2.2.2.2.2.1 u.2.2.2.2.2.2.2.2.2.2.2.2.2.2.2.2.2.2.1 u.2.2.2.2.2.2.2.2.2.2.2.2.2.2.2.2.2.2.2.1 u.2.2.2.2.2.2.2.2.2.2.2.2.2.2.2.2.2.2.2.2.1 u.2.2.2.2.2.2.2.2.2.2.2.2.2.2.2.2.2.2.2.2.2.1 u.2.2.2.2.2.2.2.2.2.2.2.2.2.2.2.2.2.2.2.2.2.2.1 u.2.2.2.2.2.2.2.2.2.2.2.2.2.2.2.2.2.2.2.2.2.2.2.1 u.2.2.2.2.2.2.2.2.2.2.2.2.2.2.2.2.2.2.2.2.2.2.2.2.1 u.2.2.2.2.2.2.2.2.2.2.2.2.2.2.2.2.2.2.2.2.2.2.2.2.2.1 u.2.2.2.2.2.2.2.2.2.2.2.2.2.2.2.2.2.2.2.2.2.2.2.2.2.2.1 u.2.2.2.2.2.2.2.2.2.2.2.2.2.2.2.2.2.2.2.2.2.2.2.2.2.2.2.1 u.2.2.2.2.2.2.2.2.2.2.2.2.2.2.2.2.2.2.2.2.2.2.2.2.2.2.2.2.1) :: (o_mt a K mt) :: (o_mx a K u.2.2.2.2.2.2.2.2.2.2.2.2.2.2.2.2.2.2.2.2.2.2.2.2.2.2.2.2.2.1) :: (o_my a K u.2.2.2.2.2.2.2.2.2.2.2.2.2.2.2.2.2.2.2.2.2.2.2.2.2.2.2.2.2.2.1) :: (o_mn a K u.2.2.2.2.2.2.2.2.2.2.2.2.2.2.2.2.2.2.2.2.2.2.2.2.2.2.2.2.2.2.2) :: tl) (wp_M_run x1 m_length m_at m_lines m_x m_y m_mode m_feed m_state m_pulses m_last m_shown m_relative m_ending m_time m_pause m_kind m_made m_all m_fromX m_fromY m_wayX m_wayY m_points m_centreX m_centreY m_there m_newMode m_newWay m_newFeed m_ends mt mx my mn Q) (fun r u => Q r u.1 u.2.1 u.2.2.1 u.2.2.2.1 u.2.2.2.2.1 u.2.2.2.2.2.1 u.2.2.2.2.2.2.1 u.2.2.2.2.2.2.2.1 u.2.2.2.2.2.2.2.2.1 u.2.2.2.2.2.2.2.2.2.1 u.2.2.2.2.2.2.2.2.2.2.1 u.2.2.2.2.2.2.2.2.2.2.2.1 u.2.2.2.2.2.2.2.2.2.2.2.2.1 u.2.2.2.2.2.2.2.2.2.2.2.2.2.1 u.2.2.2.2.2.2.2.2.2.2.2.2.2.2.1 u.2.2.2.2.2.2.2.2.2.2.2.2.2.2.2.1 u.2.2.2.2.2.2.2.2.2.2.2.2.2.2.2.2.1 u.2.2.2.2.2.2.2.2.2.2.2.2.2.2.2.2.2.1 u.2.2.2.2.2.2.2.2.2.2.2.2.2.2.2.2.2.2.1 u.2.2.2.2.2.2.2.2.2.2.2.2.2.2.2.2.2.2.2.1 u.2.2.2.2.2.2.2.2.2.2.2.2.2.2.2.2.2.2.2.2.1 u.2.2.2.2.2.2.2.2.2.2.2.2.2.2.2.2.2.2.2.2.2.1 u.2.2.2.2.2.2.2.2.2.2.2.2.2.2.2.2.2.2.2.2.2.2.1 u.2.2.2.2.2.2.2.2.2.2.2.2.2.2.2.2.2.2.2.2.2.2.2.1 u.2.2.2.2.2.2.2.2.2.2.2.2.2.2.2.2.2.2.2.2.2.2.2.2.1 u.2.2.2.2.2.2.2.2.2.2.2.2.2.2.2.2.2.2.2.2.2.2.2.2.2.1 u.2.2.2.2.2.2.2.2.2.2.2.2.2.2.2.2.2.2.2.2.2.2.2.2.2.2.1 u.2.2.2.2.2.2.2.2.2.2.2.2.2.2.2.2.2.2.2.2.2.2.2.2.2.2.2.1 u.2.2.2.2.2.2.2.2.2.2.2.2.2.2.2.2.2.2.2.2.2.2.2.2.2.2.2.2.1 u.2.2.2.2.2.2.2.2.2.2.2.2.2.2.2.2.2.2.2.2.2.2.2.2.2.2.2.2.2.1 u.2.2.2.2.2.2.2.2.2.2.2.2.2.2.2.2.2.2.2.2.2.2.2.2.2.2.2.2.2.2.1 u.2.2.2.2.2.2.2.2.2.2.2.2.2.2.2.2.2.2.2.2.2.2.2.2.2.2.2.2.2.2.2) := by
  refine my_of_I (by decide +kernel) (Nat.le_of_ble_eq_true rfl) (fun p e s m args below meth c A QQ H locs ls hx hb hts hown hml hK hX hA hP hD hS hl hw hret => ?_)
  replace hl : lv_has ls 4 [(0, .ref (a 10)), (1, .int x1)] := hl
  have J41 : ∀ (K4 : Int32 → Int32 → Int32 → Int32 → Int32 → Int32 → Int32 → Int32 → Int32 → Int32 → Int32 → Int32 → Int32 → Int32 → Int32 → Int64 → Int64 → Int32 → Int32 → Int32 → Int32 → Int32 → Int32 → Int32 → Int32 → Int32 → Int32 → Int32 → Int32 → Int32 → Int32 → Int32 → (Nat → Int32) → (Nat → Int32) → (Nat → Int32) → Prop) (hK4 : ∀ (H : Heap) (locs : List Loc) (ls : Array Slot) (x1 x2 x3 m_at m_lines m_x m_y m_mode m_feed m_state m_pulses m_last m_shown m_relative m_ending : Int32) (m_time m_pause : Int64) (m_kind m_made m_all m_fromX m_fromY m_wayX m_wayY m_points m_centreX m_centreY m_there m_newMode m_newWay m_newFeed m_ends : Int32) (mx my mn : Nat → Int32), va_P D cls ((o_M a m_length m_at m_lines m_x m_y m_mode m_feed m_state m_pulses m_last m_shown m_relative m_ending m_time m_pause m_kind m_made m_all m_fromX m_fromY m_wayX m_wayY m_points m_centreX m_centreY m_there m_newMode m_newWay m_newFeed m_ends) :: (o_mt a K mt) :: (o_mx a K mx) :: (o_my a K my) :: (o_mn a K mn) :: tl) H → va_D A ((o_M a m_length m_at m_lines m_x m_y m_mode m_feed m_state m_pulses m_last m_shown m_relative m_ending m_time m_pause m_kind m_made m_all m_fromX m_fromY m_wayX m_wayY m_points m_centreX m_centreY m_there m_newMode m_newWay m_newFeed m_ends) :: (o_mt a K mt) :: (o_mx a K mx) :: (o_my a K my) :: (o_mn a K mn) :: tl) → va_S A s.heap H locs → lv_has ls 4 [(0, .ref (a 10)), (1, .int x1), (2, .int x2), (3, .int x3)] → K4 x1 x2 x3 m_at m_lines m_x m_y m_mode m_feed m_state m_pulses m_last m_shown m_relative m_ending m_time m_pause m_kind m_made m_all m_fromX m_fromY m_wayX m_wayY m_points m_centreX m_centreY m_there m_newMode m_newWay m_newFeed m_ends mx my mn → W p l e rm_M_run s m args below meth c H locs 0 0 QQ (F0 m 4 ls [])) (H : Heap) (locs : List Loc) (ls : Array Slot) (x1 x2 x3 m_at m_lines m_x m_y m_mode m_feed m_state m_pulses m_last m_shown m_relative m_ending : Int32) (m_time m_pause : Int64) (m_kind m_made m_all m_fromX m_fromY m_wayX m_wayY m_points m_centreX m_centreY m_there m_newMode m_newWay m_newFeed m_ends : Int32) (mx my mn : Nat → Int32), va_P D cls ((o_M a m_length m_at m_lines m_x m_y m_mode m_feed m_state m_pulses m_last m_shown m_relative m_ending m_time m_pause m_kind m_made m_all m_fromX m_fromY m_wayX m_wayY m_points m_centreX m_centreY m_there m_newMode m_newWay m_newFeed m_ends) :: (o_mt a K mt) :: (o_mx a K mx) :: (o_my a K my) :: (o_mn a K mn) :: tl) H → va_D A ((o_M a m_length m_at m_lines m_x m_y m_mode m_feed m_state m_pulses m_last m_shown m_relative m_ending m_time m_pause m_kind m_made m_all m_fromX m_fromY m_wayX m_wayY m_points m_centreX m_centreY m_there m_newMode m_newWay m_newFeed m_ends) :: (o_mt a K mt) :: (o_mx a K mx) :: (o_my a K my) :: (o_mn a K mn) :: tl) → va_S A s.heap H locs → lv_has ls 4 [(0, .ref (a 10)), (1, .int x1), (2, .int x2), (3, .int x3)] → wq_M_run_41 Q K4 m_length mt x1 x2 x3 m_at m_lines m_x m_y m_mode m_feed m_state m_pulses m_last m_shown m_relative m_ending m_time m_pause m_kind m_made m_all m_fromX m_fromY m_wayX m_wayY m_points m_centreX m_centreY m_there m_newMode m_newWay m_newFeed m_ends mx my mn → W p l e rm_M_run s m args below meth c H locs 0 0 QQ (F0 m 41 ls []) := by
    intro K4 hK4 H locs ls x1 x2 x3 m_at m_lines m_x m_y m_mode m_feed m_state m_pulses m_last m_shown m_relative m_ending m_time m_pause m_kind m_made m_all m_fromX m_fromY m_wayX m_wayY m_points m_centreX m_centreY m_there m_newMode m_newWay m_newFeed m_ends mx my mn hP hD hS hl hw
    unfold wq_M_run_41 at hw
    refine lv_iinc (k := 3) (v := x3 + (1 : Int32)) (lv' := [(3, .int (x3 + (1 : Int32))), (0, .ref (a 10)), (1, .int x1), (2, .int x2)]) hx hb d_M_run_41 hl rfl (iinc_1 _) (Nat.le_of_ble_eq_true rfl) rfl (fun ls hl => ?_)
    refine lv_goto (tgt := 4) hx hb d_M_run_44 (by decide) ?_
    exact hK4 H locs ls x1 x2 (x3 + (1 : Int32)) m_at m_lines m_x m_y m_mode m_feed m_state m_pulses m_last m_shown m_relative m_ending m_time m_pause m_kind m_made m_all m_fromX m_fromY m_wayX m_wayY m_points m_centreX m_centreY m_there m_newMode m_newWay m_newFeed m_ends mx my mn hP hD hS (lv_sub hl [1, 2, 3, 0] rfl) hw
  have J4 : ∀ (n4 : Nat) (H : Heap) (locs : List Loc) (ls : Array Slot) (x1 x2 x3 m_at m_lines m_x m_y m_mode m_feed m_state m_pulses m_last m_shown m_relative m_ending : Int32) (m_time m_pause : Int64) (m_kind m_made m_all m_fromX m_fromY m_wayX m_wayY m_points m_centreX m_centreY m_there m_newMode m_newWay m_newFeed m_ends : Int32) (mx my mn : Nat → Int32), va_P D cls ((o_M a m_length m_at m_lines m_x m_y m_mode m_feed m_state m_pulses m_last m_shown m_relative m_ending m_time m_pause m_kind m_made m_all m_fromX m_fromY m_wayX m_wayY m_points m_centreX m_centreY m_there m_newMode m_newWay m_newFeed m_ends) :: (o_mt a K mt) :: (o_mx a K mx) :: (o_my a K my) :: (o_mn a K mn) :: tl) H → va_D A ((o_M a m_length m_at m_lines m_x m_y m_mode m_feed m_state m_pulses m_last m_shown m_relative m_ending m_time m_pause m_kind m_made m_all m_fromX m_fromY m_wayX m_wayY m_points m_centreX m_centreY m_there m_newMode m_newWay m_newFeed m_ends) :: (o_mt a K mt) :: (o_mx a K mx) :: (o_my a K my) :: (o_mn a K mn) :: tl) → va_S A s.heap H locs → lv_has ls 4 [(0, .ref (a 10)), (1, .int x1), (2, .int x2), (3, .int x3)] → wq_M_run_4 Q m_length mt n4 x1 x2 x3 m_at m_lines m_x m_y m_mode m_feed m_state m_pulses m_last m_shown m_relative m_ending m_time m_pause m_kind m_made m_all m_fromX m_fromY m_wayX m_wayY m_points m_centreX m_centreY m_there m_newMode m_newWay m_newFeed m_ends mx my mn → W p l e rm_M_run s m args below meth c H locs 0 0 QQ (F0 m 4 ls []) := by
    intro n4
    induction n4 with
    | zero => intro H locs ls x1 x2 x3 m_at m_lines m_x m_y m_mode m_feed m_state m_pulses m_last m_shown m_relative m_ending m_time m_pause m_kind m_made m_all m_fromX m_fromY m_wayX m_wayY m_points m_centreX m_centreY m_there m_newMode m_newWay m_newFeed m_ends mx my mn hP hD hS hl hw; exact False.elim hw
    | succ n4 ih =>
      intro H locs ls x1 x2 x3 m_at m_lines m_x m_y m_mode m_feed m_state m_pulses m_last m_shown m_relative m_ending m_time m_pause m_kind m_made m_all m_fromX m_fromY m_wayX m_wayY m_points m_centreX m_centreY m_there m_newMode m_newWay m_newFeed m_ends mx my mn hP hD hS hl hw
      unfold wq_M_run_4 at hw
      refine lv_iload_n hx hb d_M_run_4 rfl (lv_at hl 3 rfl) ?_
      refine lv_ldc (v := (1000000 : Int32)) hx hb hown (hts _ k_M_111) d_M_run_5 ?_
      refine lv_icmp_ge (tgt := 47) hx hb d_M_run_7 (by decide) (fun hc => ?_) (fun hc => ?_)
      · replace hw := hw.1 hc
        refine lv_iload_n hx hb d_M_run_47 rfl (lv_at hl 2 rfl) ?_
        exact hret H locs ls 48 (x2) ((m_at, m_lines, m_x, m_y, m_mode, m_feed, m_state, m_pulses, m_last, m_shown, m_relative, m_ending, m_time, m_pause, m_kind, m_made, m_all, m_fromX, m_fromY, m_wayX, m_wayY, m_points, m_centreX, m_centreY, m_there, m_newMode, m_newWay, m_newFeed, m_ends, mx, my, mn)) d_M_run_48 hP hD hS hw
      · replace hw := hw.2 hc
        refine lv_iload_n hx hb d_M_run_10 rfl (lv_at hl 2 rfl) ?_
        refine lv_iload_n hx hb d_M_run_11 rfl (lv_at hl 1 rfl) ?_
        refine lv_icmp_ge (tgt := 47) hx hb d_M_run_12 (by decide) (fun hc => ?_) (fun hc => ?_)
        · replace hw := hw.1 hc
          refine lv_iload_n hx hb d_M_run_47 rfl (lv_at hl 2 rfl) ?_
          exact hret H locs ls 48 (x2) ((m_at, m_lines, m_x, m_y, m_mode, m_feed, m_state, m_pulses, m_last, m_shown, m_relative, m_ending, m_time, m_pause, m_kind, m_made, m_all, m_fromX, m_fromY, m_wayX, m_wayY, m_points, m_centreX, m_centreY, m_there, m_newMode, m_newWay, m_newFeed, m_ends, mx, my, mn)) d_M_run_48 hP hD hS hw
        · replace hw := hw.2 hc
          refine lv_aload_n hx hb d_M_run_15 rfl (lv_at hl 0 rfl) ?_
          refine g_M_state hx hb hts hown hK hP 0 rfl rfl d_M_run_16 ?_
          refine lv_if_ne (tgt := 47) hx hb d_M_run_19 (by decide) (fun hc => ?_) (fun hc => ?_)
          · replace hw := hw.1 hc
            refine lv_iload_n hx hb d_M_run_47 rfl (lv_at hl 2 rfl) ?_
            exact hret H locs ls 48 (x2) ((m_at, m_lines, m_x, m_y, m_mode, m_feed, m_state, m_pulses, m_last, m_shown, m_relative, m_ending, m_time, m_pause, m_kind, m_made, m_all, m_fromX, m_fromY, m_wayX, m_wayY, m_points, m_centreX, m_centreY, m_there, m_newMode, m_newWay, m_newFeed, m_ends, mx, my, mn)) d_M_run_48 hP hD hS hw
          · replace hw := hw.2 hc
            refine lv_aload_n hx hb d_M_run_22 rfl (lv_at hl 0 rfl) ?_
            refine my_callv (va_runV (As := []) (rest := []) ⟨hx, hb, hml, hown, hts⟩ (c_M_look l H.size) (cw_M_175 hts ⟨Nat.le_of_ble_eq_true rfl, Nat.le_of_ble_eq_true rfl⟩) (my_preV hK hP hX hD hS hA 0 rfl rfl hw) rfl rfl hl.1 rfl (lv_room (Nat.le_of_ble_eq_true rfl)) d_M_run_23 ⟨Nat.le_refl _, Nat.le_refl _⟩) hD hS hA (fun u H locs hw hP hD hS => ?_)
            obtain ⟨m_at_23, m_lines_23, m_mode_23, m_feed_23, m_state_23, m_shown_23, m_relative_23, m_ending_23, m_pause_23, m_kind_23, m_made_23, m_all_23, m_fromX_23, m_fromY_23, m_wayX_23, m_wayY_23, m_points_23, m_centreX_23, m_centreY_23, m_there_23, m_newMode_23, m_newWay_23, m_newFeed_23, m_ends_23, mx_23, my_23, mn_23⟩ := u
            dsimp only at hw
            have hP : va_P D cls ((o_M a m_length m_at_23 m_lines_23 m_x m_y m_mode_23 m_feed_23 m_state_23 m_pulses m_last m_shown_23 m_relative_23 m_ending_23 m_time m_pause_23 m_kind_23 m_made_23 m_all_23 m_fromX_23 m_fromY_23 m_wayX_23 m_wayY_23 m_points_23 m_centreX_23 m_centreY_23 m_there_23 m_newMode_23 m_newWay_23 m_newFeed_23 m_ends_23) :: (o_mt a K mt) :: (o_mx a K mx_23) :: (o_my a K my_23) :: (o_mn a K mn_23) :: tl) H := hP
            have hD : va_D A ((o_M a m_length m_at_23 m_lines_23 m_x m_y m_mode_23 m_feed_23 m_state_23 m_pulses m_last m_shown_23 m_relative_23 m_ending_23 m_time m_pause_23 m_kind_23 m_made_23 m_all_23 m_fromX_23 m_fromY_23 m_wayX_23 m_wayY_23 m_points_23 m_centreX_23 m_centreY_23 m_there_23 m_newMode_23 m_newWay_23 m_newFeed_23 m_ends_23) :: (o_mt a K mt) :: (o_mx a K mx_23) :: (o_my a K my_23) :: (o_mn a K mn_23) :: tl) := hD
            refine lv_aload_n hx hb d_M_run_26 rfl (lv_at hl 0 rfl) ?_
            refine g_M_state hx hb hts hown hK hP 0 rfl rfl d_M_run_27 ?_
            refine lv_if_ne (tgt := 41) hx hb d_M_run_30 (by decide) (fun hc => ?_) (fun hc => ?_)
            · replace hw := hw.1 hc
              exact J41 (fun x1 x2 x3 m_at m_lines m_x m_y m_mode m_feed m_state m_pulses m_last m_shown m_relative m_ending m_time m_pause m_kind m_made m_all m_fromX m_fromY m_wayX m_wayY m_points m_centreX m_centreY m_there m_newMode m_newWay m_newFeed m_ends mx my mn => wq_M_run_4 Q m_length mt n4 x1 x2 x3 m_at m_lines m_x m_y m_mode m_feed m_state m_pulses m_last m_shown m_relative m_ending m_time m_pause m_kind m_made m_all m_fromX m_fromY m_wayX m_wayY m_points m_centreX m_centreY m_there m_newMode m_newWay m_newFeed m_ends mx my mn) ih H locs ls x1 x2 x3 m_at_23 m_lines_23 m_x m_y m_mode_23 m_feed_23 m_state_23 m_pulses m_last m_shown_23 m_relative_23 m_ending_23 m_time m_pause_23 m_kind_23 m_made_23 m_all_23 m_fromX_23 m_fromY_23 m_wayX_23 m_wayY_23 m_points_23 m_centreX_23 m_centreY_23 m_there_23 m_newMode_23 m_newWay_23 m_newFeed_23 m_ends_23 mx_23 my_23 mn_23 hP hD hS (lv_sub hl [0, 1, 2, 3] rfl) hw
            · replace hw := hw.2 hc
              refine lv_aload_n hx hb d_M_run_33 rfl (lv_at hl 0 rfl) ?_
              refine my_callv (va_runV (As := []) (rest := []) ⟨hx, hb, hml, hown, hts⟩ (c_M_pulse l H.size) (cw_M_178 hts ⟨Nat.le_of_ble_eq_true rfl, Nat.le_of_ble_eq_true rfl⟩) (my_preV hK hP hX hD hS hA 0 rfl rfl hw) rfl rfl hl.1 rfl (lv_room (Nat.le_of_ble_eq_true rfl)) d_M_run_34 ⟨Nat.le_refl _, Nat.le_refl _⟩) hD hS hA (fun u H locs hw hP hD hS => ?_)
              obtain ⟨m_x_34, m_y_34, m_pulses_34, m_last_34, m_time_34, m_made_34⟩ := u
              dsimp only at hw
              have hP : va_P D cls ((o_M a m_length m_at_23 m_lines_23 m_x_34 m_y_34 m_mode_23 m_feed_23 m_state_23 m_pulses_34 m_last_34 m_shown_23 m_relative_23 m_ending_23 m_time_34 m_pause_23 m_kind_23 m_made_34 m_all_23 m_fromX_23 m_fromY_23 m_wayX_23 m_wayY_23 m_points_23 m_centreX_23 m_centreY_23 m_there_23 m_newMode_23 m_newWay_23 m_newFeed_23 m_ends_23) :: (o_mt a K mt) :: (o_mx a K mx_23) :: (o_my a K my_23) :: (o_mn a K mn_23) :: tl) H := hP
              have hD : va_D A ((o_M a m_length m_at_23 m_lines_23 m_x_34 m_y_34 m_mode_23 m_feed_23 m_state_23 m_pulses_34 m_last_34 m_shown_23 m_relative_23 m_ending_23 m_time_34 m_pause_23 m_kind_23 m_made_34 m_all_23 m_fromX_23 m_fromY_23 m_wayX_23 m_wayY_23 m_points_23 m_centreX_23 m_centreY_23 m_there_23 m_newMode_23 m_newWay_23 m_newFeed_23 m_ends_23) :: (o_mt a K mt) :: (o_mx a K mx_23) :: (o_my a K my_23) :: (o_mn a K mn_23) :: tl) := hD
              refine lv_iload_n hx hb d_M_run_37 rfl (lv_at hl 2 rfl) ?_
              refine lv_iconst (v := (1 : Int32)) hx hb d_M_run_38 (by decide) ?_
              refine lv_iadd hx hb d_M_run_39 ?_
              refine lv_istore_n (lv' := [(2, .int (x2 + (1 : Int32))), (0, .ref (a 10)), (1, .int x1), (3, .int x3)]) hx hb d_M_run_40 rfl hl (Nat.le_of_ble_eq_true rfl) rfl (fun ls hl => ?_)
              exact J41 (fun x1 x2 x3 m_at m_lines m_x m_y m_mode m_feed m_state m_pulses m_last m_shown m_relative m_ending m_time m_pause m_kind m_made m_all m_fromX m_fromY m_wayX m_wayY m_points m_centreX m_centreY m_there m_newMode m_newWay m_newFeed m_ends mx my mn => wq_M_run_4 Q m_length mt n4 x1 x2 x3 m_at m_lines m_x m_y m_mode m_feed m_state m_pulses m_last m_shown m_relative m_ending m_time m_pause m_kind m_made m_all m_fromX m_fromY m_wayX m_wayY m_points m_centreX m_centreY m_there m_newMode m_newWay m_newFeed m_ends mx my mn) ih H locs ls x1 (x2 + (1 : Int32)) x3 m_at_23 m_lines_23 m_x_34 m_y_34 m_mode_23 m_feed_23 m_state_23 m_pulses_34 m_last_34 m_shown_23 m_relative_23 m_ending_23 m_time_34 m_pause_23 m_kind_23 m_made_34 m_all_23 m_fromX_23 m_fromY_23 m_wayX_23 m_wayY_23 m_points_23 m_centreX_23 m_centreY_23 m_there_23 m_newMode_23 m_newWay_23 m_newFeed_23 m_ends_23 mx_23 my_23 mn_23 hP hD hS (lv_sub hl [1, 2, 0, 3] rfl) hw
  unfold wp_M_run at hw
  refine lv_iconst (v := (0 : Int32)) hx hb d_M_run_0 (by decide) ?_
  refine lv_istore_n (lv' := [(2, .int (0 : Int32)), (0, .ref (a 10)), (1, .int x1)]) hx hb d_M_run_1 rfl hl (Nat.le_of_ble_eq_true rfl) rfl (fun ls hl => ?_)
  refine lv_iconst (v := (0 : Int32)) hx hb d_M_run_2 (by decide) ?_
  refine lv_istore_n (lv' := [(3, .int (0 : Int32)), (2, .int (0 : Int32)), (0, .ref (a 10)), (1, .int x1)]) hx hb d_M_run_3 rfl hl (Nat.le_of_ble_eq_true rfl) rfl (fun ls hl => ?_)
  obtain ⟨n4, hw⟩ := hw
  exact J4 n4 H locs ls x1 (0 : Int32) (0 : Int32) m_at m_lines m_x m_y m_mode m_feed m_state m_pulses m_last m_shown m_relative m_ending m_time m_pause m_kind m_made m_all m_fromX m_fromY m_wayX m_wayY m_points m_centreX m_centreY m_there m_newMode m_newWay m_newFeed m_ends mx my mn hP hD hS (lv_sub hl [2, 3, 1, 0] rfl) hw
def wp_M_state (m_state : Int32) (Q : Int32 → Prop) : Prop := (Q m_state)
abbrev rm_M_state : Room := { frames := 0, cells := 0, slots := 0, locals := 0 }
set_option maxRecDepth 100000 in
set_option maxHeartbeats 4000000 in
theorem c_M_state (l : Launch) {D : va_G} {X : xT} {a : Nat → Nat} {K : Nat → ClassId} {tl : va_W} {m_length m_at m_lines m_x m_y m_mode m_feed m_state m_pulses m_last m_shown m_relative m_ending : Int32} {m_time m_pause : Int64} {m_kind m_made m_all m_fromX m_fromY m_wayX m_wayY m_points m_centreX m_centreY m_there m_newMode m_newWay m_newFeed m_ends : Int32} {Q : Int32 → Prop} : MI l y_M_state b_M_state 1 rm_M_state D cls (tys K) X [.ref (a 10)] ((o_M a m_length m_at m_lines m_x m_y m_mode m_feed m_state m_pulses m_last m_shown m_relative m_ending m_time m_pause m_kind m_made m_all m_fromX m_fromY m_wayX m_wayY m_points m_centreX m_centreY m_there m_newMode m_newWay m_newFeed m_ends) :: tl) (fun _ : Unit => (o_M a m_length m_at m_lines m_x m_y m_mode m_feed m_state m_pulses m_last m_shown m_relative m_ending m_time m_pause m_kind m_made m_all m_fromX m_fromY m_wayX m_wayY m_points m_centreX m_centreY m_there m_newMode m_newWay m_newFeed m_ends) :: tl) (wp_M_state m_state Q) (fun r _ => Q r) := by
  refine my_of_I (by decide +kernel) (Nat.le_of_ble_eq_true rfl) (fun p e s m args below meth c A QQ H locs ls hx hb hts hown hml hK hX hA hP hD hS hl hw hret => ?_)
  replace hl : lv_has ls 1 [(0, .ref (a 10))] := hl
  unfold wp_M_state at hw
  refine lv_aload_n hx hb d_M_state_0 rfl (lv_at hl 0 rfl) ?_
  refine g_M_state hx hb hts hown hK hP 0 rfl rfl d_M_state_1 ?_
  exact hret H locs ls 4 (m_state) (()) d_M_state_4 hP hD hS hw
def wp_M_x (m_x : Int32) (Q : Int32 → Prop) : Prop := (Q m_x)
abbrev rm_M_x : Room := { frames := 0, cells := 0, slots := 0, locals := 0 }
set_option maxRecDepth 100000 in
set_option maxHeartbeats 4000000 in
theorem c_M_x (l : Launch) {D : va_G} {X : xT} {a : Nat → Nat} {K : Nat → ClassId} {tl : va_W} {m_length m_at m_lines m_x m_y m_mode m_feed m_state m_pulses m_last m_shown m_relative m_ending : Int32} {m_time m_pause : Int64} {m_kind m_made m_all m_fromX m_fromY m_wayX m_wayY m_points m_centreX m_centreY m_there m_newMode m_newWay m_newFeed m_ends : Int32} {Q : Int32 → Prop} : MI l y_M_x b_M_x 1 rm_M_x D cls (tys K) X [.ref (a 10)] ((o_M a m_length m_at m_lines m_x m_y m_mode m_feed m_state m_pulses m_last m_shown m_relative m_ending m_time m_pause m_kind m_made m_all m_fromX m_fromY m_wayX m_wayY m_points m_centreX m_centreY m_there m_newMode m_newWay m_newFeed m_ends) :: tl) (fun _ : Unit => (o_M a m_length m_at m_lines m_x m_y m_mode m_feed m_state m_pulses m_last m_shown m_relative m_ending m_time m_pause m_kind m_made m_all m_fromX m_fromY m_wayX m_wayY m_points m_centreX m_centreY m_there m_newMode m_newWay m_newFeed m_ends) :: tl) (wp_M_x m_x Q) (fun r _ => Q r) := by
  refine my_of_I (by decide +kernel) (Nat.le_of_ble_eq_true rfl) (fun p e s m args below meth c A QQ H locs ls hx hb hts hown hml hK hX hA hP hD hS hl hw hret => ?_)
  replace hl : lv_has ls 1 [(0, .ref (a 10))] := hl
  unfold wp_M_x at hw
  refine lv_aload_n hx hb d_M_x_0 rfl (lv_at hl 0 rfl) ?_
  refine g_M_x hx hb hts hown hK hP 0 rfl rfl d_M_x_1 ?_
  exact hret H locs ls 4 (m_x) (()) d_M_x_4 hP hD hS hw
def wp_M_y (m_y : Int32) (Q : Int32 → Prop) : Prop := (Q m_y)
abbrev rm_M_y : Room := { frames := 0, cells := 0, slots := 0, locals := 0 }
set_option maxRecDepth 100000 in
set_option maxHeartbeats 4000000 in
theorem c_M_y (l : Launch) {D : va_G} {X : xT} {a : Nat → Nat} {K : Nat → ClassId} {tl : va_W} {m_length m_at m_lines m_x m_y m_mode m_feed m_state m_pulses m_last m_shown m_relative m_ending : Int32} {m_time m_pause : Int64} {m_kind m_made m_all m_fromX m_fromY m_wayX m_wayY m_points m_centreX m_centreY m_there m_newMode m_newWay m_newFeed m_ends : Int32} {Q : Int32 → Prop} : MI l y_M_y b_M_y 1 rm_M_y D cls (tys K) X [.ref (a 10)] ((o_M a m_length m_at m_lines m_x m_y m_mode m_feed m_state m_pulses m_last m_shown m_relative m_ending m_time m_pause m_kind m_made m_all m_fromX m_fromY m_wayX m_wayY m_points m_centreX m_centreY m_there m_newMode m_newWay m_newFeed m_ends) :: tl) (fun _ : Unit => (o_M a m_length m_at m_lines m_x m_y m_mode m_feed m_state m_pulses m_last m_shown m_relative m_ending m_time m_pause m_kind m_made m_all m_fromX m_fromY m_wayX m_wayY m_points m_centreX m_centreY m_there m_newMode m_newWay m_newFeed m_ends) :: tl) (wp_M_y m_y Q) (fun r _ => Q r) := by
  refine my_of_I (by decide +kernel) (Nat.le_of_ble_eq_true rfl) (fun p e s m args below meth c A QQ H locs ls hx hb hts hown hml hK hX hA hP hD hS hl hw hret => ?_)
  replace hl : lv_has ls 1 [(0, .ref (a 10))] := hl
  unfold wp_M_y at hw
  refine lv_aload_n hx hb d_M_y_0 rfl (lv_at hl 0 rfl) ?_
  refine g_M_y hx hb hts hown hK hP 0 rfl rfl d_M_y_1 ?_
  exact hret H locs ls 4 (m_y) (()) d_M_y_4 hP hD hS hw
def wp_M_time (m_time : Int64) (Q : Int64 → Prop) : Prop := (Q m_time)
abbrev rm_M_time : Room := { frames := 0, cells := 0, slots := 0, locals := 0 }
set_option maxRecDepth 100000 in
set_option maxHeartbeats 4000000 in
theorem c_M_time (l : Launch) {D : va_G} {X : xT} {a : Nat → Nat} {K : Nat → ClassId} {tl : va_W} {m_length m_at m_lines m_x m_y m_mode m_feed m_state m_pulses m_last m_shown m_relative m_ending : Int32} {m_time m_pause : Int64} {m_kind m_made m_all m_fromX m_fromY m_wayX m_wayY m_points m_centreX m_centreY m_there m_newMode m_newWay m_newFeed m_ends : Int32} {Q : Int64 → Prop} : ML l y_M_time b_M_time 1 rm_M_time D cls (tys K) X [.ref (a 10)] ((o_M a m_length m_at m_lines m_x m_y m_mode m_feed m_state m_pulses m_last m_shown m_relative m_ending m_time m_pause m_kind m_made m_all m_fromX m_fromY m_wayX m_wayY m_points m_centreX m_centreY m_there m_newMode m_newWay m_newFeed m_ends) :: tl) (fun _ : Unit => (o_M a m_length m_at m_lines m_x m_y m_mode m_feed m_state m_pulses m_last m_shown m_relative m_ending m_time m_pause m_kind m_made m_all m_fromX m_fromY m_wayX m_wayY m_points m_centreX m_centreY m_there m_newMode m_newWay m_newFeed m_ends) :: tl) (wp_M_time m_time Q) (fun r _ => Q r) := by
  refine my_of_L (by decide +kernel) (Nat.le_of_ble_eq_true rfl) (fun p e s m args below meth c A QQ H locs ls hx hb hts hown hml hK hX hA hP hD hS hl hw hret => ?_)
  replace hl : lv_has ls 1 [(0, .ref (a 10))] := hl
  unfold wp_M_time at hw
  refine lv_aload_n hx hb d_M_time_0 rfl (lv_at hl 0 rfl) ?_
  refine g_M_time hx hb hts hown hK hP 0 rfl rfl d_M_time_1 ?_
  exact hret H locs ls 4 (m_time) (()) d_M_time_4 hP hD hS hw
def wp_M_pulses (m_pulses : Int32) (Q : Int32 → Prop) : Prop := (Q m_pulses)
abbrev rm_M_pulses : Room := { frames := 0, cells := 0, slots := 0, locals := 0 }
set_option maxRecDepth 100000 in
set_option maxHeartbeats 4000000 in
theorem c_M_pulses (l : Launch) {D : va_G} {X : xT} {a : Nat → Nat} {K : Nat → ClassId} {tl : va_W} {m_length m_at m_lines m_x m_y m_mode m_feed m_state m_pulses m_last m_shown m_relative m_ending : Int32} {m_time m_pause : Int64} {m_kind m_made m_all m_fromX m_fromY m_wayX m_wayY m_points m_centreX m_centreY m_there m_newMode m_newWay m_newFeed m_ends : Int32} {Q : Int32 → Prop} : MI l y_M_pulses b_M_pulses 1 rm_M_pulses D cls (tys K) X [.ref (a 10)] ((o_M a m_length m_at m_lines m_x m_y m_mode m_feed m_state m_pulses m_last m_shown m_relative m_ending m_time m_pause m_kind m_made m_all m_fromX m_fromY m_wayX m_wayY m_points m_centreX m_centreY m_there m_newMode m_newWay m_newFeed m_ends) :: tl) (fun _ : Unit => (o_M a m_length m_at m_lines m_x m_y m_mode m_feed m_state m_pulses m_last m_shown m_relative m_ending m_time m_pause m_kind m_made m_all m_fromX m_fromY m_wayX m_wayY m_points m_centreX m_centreY m_there m_newMode m_newWay m_newFeed m_ends) :: tl) (wp_M_pulses m_pulses Q) (fun r _ => Q r) := by
  refine my_of_I (by decide +kernel) (Nat.le_of_ble_eq_true rfl) (fun p e s m args below meth c A QQ H locs ls hx hb hts hown hml hK hX hA hP hD hS hl hw hret => ?_)
  replace hl : lv_has ls 1 [(0, .ref (a 10))] := hl
  unfold wp_M_pulses at hw
  refine lv_aload_n hx hb d_M_pulses_0 rfl (lv_at hl 0 rfl) ?_
  refine g_M_pulses hx hb hts hown hK hP 0 rfl rfl d_M_pulses_1 ?_
  exact hret H locs ls 4 (m_pulses) (()) d_M_pulses_4 hP hD hS hw
def wp_M_last (m_last : Int32) (Q : Int32 → Prop) : Prop := (Q m_last)
abbrev rm_M_last : Room := { frames := 0, cells := 0, slots := 0, locals := 0 }
set_option maxRecDepth 100000 in
set_option maxHeartbeats 4000000 in
theorem c_M_last (l : Launch) {D : va_G} {X : xT} {a : Nat → Nat} {K : Nat → ClassId} {tl : va_W} {m_length m_at m_lines m_x m_y m_mode m_feed m_state m_pulses m_last m_shown m_relative m_ending : Int32} {m_time m_pause : Int64} {m_kind m_made m_all m_fromX m_fromY m_wayX m_wayY m_points m_centreX m_centreY m_there m_newMode m_newWay m_newFeed m_ends : Int32} {Q : Int32 → Prop} : MI l y_M_last b_M_last 1 rm_M_last D cls (tys K) X [.ref (a 10)] ((o_M a m_length m_at m_lines m_x m_y m_mode m_feed m_state m_pulses m_last m_shown m_relative m_ending m_time m_pause m_kind m_made m_all m_fromX m_fromY m_wayX m_wayY m_points m_centreX m_centreY m_there m_newMode m_newWay m_newFeed m_ends) :: tl) (fun _ : Unit => (o_M a m_length m_at m_lines m_x m_y m_mode m_feed m_state m_pulses m_last m_shown m_relative m_ending m_time m_pause m_kind m_made m_all m_fromX m_fromY m_wayX m_wayY m_points m_centreX m_centreY m_there m_newMode m_newWay m_newFeed m_ends) :: tl) (wp_M_last m_last Q) (fun r _ => Q r) := by
  refine my_of_I (by decide +kernel) (Nat.le_of_ble_eq_true rfl) (fun p e s m args below meth c A QQ H locs ls hx hb hts hown hml hK hX hA hP hD hS hl hw hret => ?_)
  replace hl : lv_has ls 1 [(0, .ref (a 10))] := hl
  unfold wp_M_last at hw
  refine lv_aload_n hx hb d_M_last_0 rfl (lv_at hl 0 rfl) ?_
  refine g_M_last hx hb hts hown hK hP 0 rfl rfl d_M_last_1 ?_
  exact hret H locs ls 4 (m_last) (()) d_M_last_4 hP hD hS hw
def wp_M_line (m_shown : Int32) (Q : Int32 → Prop) : Prop := (Q m_shown)
abbrev rm_M_line : Room := { frames := 0, cells := 0, slots := 0, locals := 0 }
set_option maxRecDepth 100000 in
set_option maxHeartbeats 4000000 in
theorem c_M_line (l : Launch) {D : va_G} {X : xT} {a : Nat → Nat} {K : Nat → ClassId} {tl : va_W} {m_length m_at m_lines m_x m_y m_mode m_feed m_state m_pulses m_last m_shown m_relative m_ending : Int32} {m_time m_pause : Int64} {m_kind m_made m_all m_fromX m_fromY m_wayX m_wayY m_points m_centreX m_centreY m_there m_newMode m_newWay m_newFeed m_ends : Int32} {Q : Int32 → Prop} : MI l y_M_line b_M_line 1 rm_M_line D cls (tys K) X [.ref (a 10)] ((o_M a m_length m_at m_lines m_x m_y m_mode m_feed m_state m_pulses m_last m_shown m_relative m_ending m_time m_pause m_kind m_made m_all m_fromX m_fromY m_wayX m_wayY m_points m_centreX m_centreY m_there m_newMode m_newWay m_newFeed m_ends) :: tl) (fun _ : Unit => (o_M a m_length m_at m_lines m_x m_y m_mode m_feed m_state m_pulses m_last m_shown m_relative m_ending m_time m_pause m_kind m_made m_all m_fromX m_fromY m_wayX m_wayY m_points m_centreX m_centreY m_there m_newMode m_newWay m_newFeed m_ends) :: tl) (wp_M_line m_shown Q) (fun r _ => Q r) := by
  refine my_of_I (by decide +kernel) (Nat.le_of_ble_eq_true rfl) (fun p e s m args below meth c A QQ H locs ls hx hb hts hown hml hK hX hA hP hD hS hl hw hret => ?_)
  replace hl : lv_has ls 1 [(0, .ref (a 10))] := hl
  unfold wp_M_line at hw
  refine lv_aload_n hx hb d_M_line_0 rfl (lv_at hl 0 rfl) ?_
  refine g_M_shown hx hb hts hown hK hP 0 rfl rfl d_M_line_1 ?_
  exact hret H locs ls 4 (m_shown) (()) d_M_line_4 hP hD hS hw
def wp_M_feedRate (m_feed : Int32) (Q : Int32 → Prop) : Prop := (Q m_feed)
abbrev rm_M_feedRate : Room := { frames := 0, cells := 0, slots := 0, locals := 0 }
set_option maxRecDepth 100000 in
set_option maxHeartbeats 4000000 in
theorem c_M_feedRate (l : Launch) {D : va_G} {X : xT} {a : Nat → Nat} {K : Nat → ClassId} {tl : va_W} {m_length m_at m_lines m_x m_y m_mode m_feed m_state m_pulses m_last m_shown m_relative m_ending : Int32} {m_time m_pause : Int64} {m_kind m_made m_all m_fromX m_fromY m_wayX m_wayY m_points m_centreX m_centreY m_there m_newMode m_newWay m_newFeed m_ends : Int32} {Q : Int32 → Prop} : MI l y_M_feedRate b_M_feedRate 1 rm_M_feedRate D cls (tys K) X [.ref (a 10)] ((o_M a m_length m_at m_lines m_x m_y m_mode m_feed m_state m_pulses m_last m_shown m_relative m_ending m_time m_pause m_kind m_made m_all m_fromX m_fromY m_wayX m_wayY m_points m_centreX m_centreY m_there m_newMode m_newWay m_newFeed m_ends) :: tl) (fun _ : Unit => (o_M a m_length m_at m_lines m_x m_y m_mode m_feed m_state m_pulses m_last m_shown m_relative m_ending m_time m_pause m_kind m_made m_all m_fromX m_fromY m_wayX m_wayY m_points m_centreX m_centreY m_there m_newMode m_newWay m_newFeed m_ends) :: tl) (wp_M_feedRate m_feed Q) (fun r _ => Q r) := by
  refine my_of_I (by decide +kernel) (Nat.le_of_ble_eq_true rfl) (fun p e s m args below meth c A QQ H locs ls hx hb hts hown hml hK hX hA hP hD hS hl hw hret => ?_)
  replace hl : lv_has ls 1 [(0, .ref (a 10))] := hl
  unfold wp_M_feedRate at hw
  refine lv_aload_n hx hb d_M_feedRate_0 rfl (lv_at hl 0 rfl) ?_
  refine g_M_feed hx hb hts hown hK hP 0 rfl rfl d_M_feedRate_1 ?_
  exact hret H locs ls 4 (m_feed) (()) d_M_feedRate_4 hP hD hS hw
def wp_M_mode (m_mode m_relative : Int32) (Q : Int32 → Prop) : Prop := ((m_relative = 0 → (Q (m_mode + (0 : Int32)))) ∧ (¬ m_relative = 0 → (Q (m_mode + (4 : Int32)))))
abbrev rm_M_mode : Room := { frames := 0, cells := 0, slots := 0, locals := 0 }
set_option maxRecDepth 100000 in
set_option maxHeartbeats 4000000 in
theorem c_M_mode (l : Launch) {D : va_G} {X : xT} {a : Nat → Nat} {K : Nat → ClassId} {tl : va_W} {m_length m_at m_lines m_x m_y m_mode m_feed m_state m_pulses m_last m_shown m_relative m_ending : Int32} {m_time m_pause : Int64} {m_kind m_made m_all m_fromX m_fromY m_wayX m_wayY m_points m_centreX m_centreY m_there m_newMode m_newWay m_newFeed m_ends : Int32} {Q : Int32 → Prop} : MI l y_M_mode b_M_mode 1 rm_M_mode D cls (tys K) X [.ref (a 10)] ((o_M a m_length m_at m_lines m_x m_y m_mode m_feed m_state m_pulses m_last m_shown m_relative m_ending m_time m_pause m_kind m_made m_all m_fromX m_fromY m_wayX m_wayY m_points m_centreX m_centreY m_there m_newMode m_newWay m_newFeed m_ends) :: tl) (fun _ : Unit => (o_M a m_length m_at m_lines m_x m_y m_mode m_feed m_state m_pulses m_last m_shown m_relative m_ending m_time m_pause m_kind m_made m_all m_fromX m_fromY m_wayX m_wayY m_points m_centreX m_centreY m_there m_newMode m_newWay m_newFeed m_ends) :: tl) (wp_M_mode m_mode m_relative Q) (fun r _ => Q r) := by
  refine my_of_I (by decide +kernel) (Nat.le_of_ble_eq_true rfl) (fun p e s m args below meth c A QQ H locs ls hx hb hts hown hml hK hX hA hP hD hS hl hw hret => ?_)
  replace hl : lv_has ls 1 [(0, .ref (a 10))] := hl
  unfold wp_M_mode at hw
  refine lv_aload_n hx hb d_M_mode_0 rfl (lv_at hl 0 rfl) ?_
  refine g_M_mode hx hb hts hown hK hP 0 rfl rfl d_M_mode_1 ?_
  refine lv_aload_n hx hb d_M_mode_4 rfl (lv_at hl 0 rfl) ?_
  refine g_M_relative hx hb hts hown hK hP 0 rfl rfl d_M_mode_5 ?_
  refine lv_if_eq (tgt := 15) hx hb d_M_mode_8 (by decide) (fun hc => ?_) (fun hc => ?_)
  · replace hw := hw.1 hc
    refine lv_iconst (v := (0 : Int32)) hx hb d_M_mode_15 (by decide) ?_
    refine lv_iadd hx hb d_M_mode_16 ?_
    exact hret H locs ls 17 (m_mode + (0 : Int32)) (()) d_M_mode_17 hP hD hS hw
  · replace hw := hw.2 hc
    refine lv_iconst (v := (4 : Int32)) hx hb d_M_mode_11 (by decide) ?_
    refine lv_goto (tgt := 16) hx hb d_M_mode_12 (by decide) ?_
    refine lv_iadd hx hb d_M_mode_16 ?_
    exact hret H locs ls 17 (m_mode + (4 : Int32)) (()) d_M_mode_17 hP hD hS hw
def wp_M_left (m_made m_all : Int32) (Q : Int32 → Prop) : Prop := (Q (m_all - m_made))
abbrev rm_M_left : Room := { frames := 0, cells := 0, slots := 0, locals := 0 }
set_option maxRecDepth 100000 in
set_option maxHeartbeats 4000000 in
theorem c_M_left (l : Launch) {D : va_G} {X : xT} {a : Nat → Nat} {K : Nat → ClassId} {tl : va_W} {m_length m_at m_lines m_x m_y m_mode m_feed m_state m_pulses m_last m_shown m_relative m_ending : Int32} {m_time m_pause : Int64} {m_kind m_made m_all m_fromX m_fromY m_wayX m_wayY m_points m_centreX m_centreY m_there m_newMode m_newWay m_newFeed m_ends : Int32} {Q : Int32 → Prop} : MI l y_M_left b_M_left 1 rm_M_left D cls (tys K) X [.ref (a 10)] ((o_M a m_length m_at m_lines m_x m_y m_mode m_feed m_state m_pulses m_last m_shown m_relative m_ending m_time m_pause m_kind m_made m_all m_fromX m_fromY m_wayX m_wayY m_points m_centreX m_centreY m_there m_newMode m_newWay m_newFeed m_ends) :: tl) (fun _ : Unit => (o_M a m_length m_at m_lines m_x m_y m_mode m_feed m_state m_pulses m_last m_shown m_relative m_ending m_time m_pause m_kind m_made m_all m_fromX m_fromY m_wayX m_wayY m_points m_centreX m_centreY m_there m_newMode m_newWay m_newFeed m_ends) :: tl) (wp_M_left m_made m_all Q) (fun r _ => Q r) := by
  refine my_of_I (by decide +kernel) (Nat.le_of_ble_eq_true rfl) (fun p e s m args below meth c A QQ H locs ls hx hb hts hown hml hK hX hA hP hD hS hl hw hret => ?_)
  replace hl : lv_has ls 1 [(0, .ref (a 10))] := hl
  unfold wp_M_left at hw
  refine lv_aload_n hx hb d_M_left_0 rfl (lv_at hl 0 rfl) ?_
  refine g_M_all hx hb hts hown hK hP 0 rfl rfl d_M_left_1 ?_
  refine lv_aload_n hx hb d_M_left_4 rfl (lv_at hl 0 rfl) ?_
  refine g_M_made hx hb hts hown hK hP 0 rfl rfl d_M_left_5 ?_
  refine lv_isub hx hb d_M_left_8 ?_
  exact hret H locs ls 9 (m_all - m_made) (()) d_M_left_9 hP hD hS hw
