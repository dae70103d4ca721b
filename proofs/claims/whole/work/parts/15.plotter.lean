theorem d_P_init_0 : decode b_P_init 0 = .ok (.aload_n 0, 1) := by decide +kernel
theorem d_P_init_1 : decode b_P_init 1 = .ok (.invokespecial 1, 3) := by decide +kernel
theorem d_P_init_4 : decode b_P_init 4 = .ok (.aload_n 0, 1) := by decide +kernel
theorem d_P_init_5 : decode b_P_init 5 = .ok (.new 7, 3) := by decide +kernel
theorem d_P_init_8 : decode b_P_init 8 = .ok (.dup, 1) := by decide +kernel
theorem d_P_init_9 : decode b_P_init 9 = .ok (.invokespecial 9, 3) := by decide +kernel
theorem d_P_init_12 : decode b_P_init 12 = .ok (.putfield 10, 3) := by decide +kernel
theorem d_P_init_15 : decode b_P_init 15 = .ok (.aload_n 0, 1) := by decide +kernel
theorem d_P_init_16 : decode b_P_init 16 = .ok (.new 16, 3) := by decide +kernel
theorem d_P_init_19 : decode b_P_init 19 = .ok (.dup, 1) := by decide +kernel
theorem d_P_init_20 : decode b_P_init 20 = .ok (.invokespecial 18, 3) := by decide +kernel
theorem d_P_init_23 : decode b_P_init 23 = .ok (.putfield 19, 3) := by decide +kernel
theorem d_P_init_26 : decode b_P_init 26 = .ok (.aload_n 0, 1) := by decide +kernel
theorem d_P_init_27 : decode b_P_init 27 = .ok (.new 23, 3) := by decide +kernel
theorem d_P_init_30 : decode b_P_init 30 = .ok (.dup, 1) := by decide +kernel
theorem d_P_init_31 : decode b_P_init 31 = .ok (.invokespecial 25, 3) := by decide +kernel
theorem d_P_init_34 : decode b_P_init 34 = .ok (.putfield 26, 3) := by decide +kernel
theorem d_P_init_37 : decode b_P_init 37 = .ok (.aload_n 0, 1) := by decide +kernel
theorem d_P_init_38 : decode b_P_init 38 = .ok (.new 30, 3) := by decide +kernel
theorem d_P_init_41 : decode b_P_init 41 = .ok (.dup, 1) := by decide +kernel
theorem d_P_init_42 : decode b_P_init 42 = .ok (.invokespecial 32, 3) := by decide +kernel
theorem d_P_init_45 : decode b_P_init 45 = .ok (.putfield 33, 3) := by decide +kernel
theorem d_P_init_48 : decode b_P_init 48 = .ok (.aload_n 0, 1) := by decide +kernel
theorem d_P_init_49 : decode b_P_init 49 = .ok (.aload_n 0, 1) := by decide +kernel
theorem d_P_init_50 : decode b_P_init 50 = .ok (.getfield 26, 3) := by decide +kernel
theorem d_P_init_53 : decode b_P_init 53 = .ok (.putfield 37, 3) := by decide +kernel
theorem d_P_init_56 : decode b_P_init 56 = .ok (.aload_n 0, 1) := by decide +kernel
theorem d_P_init_57 : decode b_P_init 57 = .ok (.invokevirtual 41, 3) := by decide +kernel
theorem d_P_init_60 : decode b_P_init 60 = .ok (.return_, 1) := by decide +kernel
theorem d_P_feed_0 : decode b_P_feed 0 = .ok (.aload_n 0, 1) := by decide +kernel
theorem d_P_feed_1 : decode b_P_feed 1 = .ok (.getfield 10, 3) := by decide +kernel
theorem d_P_feed_4 : decode b_P_feed 4 = .ok (.iload_n 1, 1) := by decide +kernel
theorem d_P_feed_5 : decode b_P_feed 5 = .ok (.invokevirtual 44, 3) := by decide +kernel
theorem d_P_feed_8 : decode b_P_feed 8 = .ok (.istore_n 2, 1) := by decide +kernel
theorem d_P_feed_9 : decode b_P_feed 9 = .ok (.iload_n 2, 1) := by decide +kernel
theorem d_P_feed_10 : decode b_P_feed 10 = .ok (.ifCond .lt 7, 3) := by decide +kernel
theorem d_P_feed_13 : decode b_P_feed 13 = .ok (.aload_n 0, 1) := by decide +kernel
theorem d_P_feed_14 : decode b_P_feed 14 = .ok (.invokevirtual 41, 3) := by decide +kernel
theorem d_P_feed_17 : decode b_P_feed 17 = .ok (.iload_n 2, 1) := by decide +kernel
theorem d_P_feed_18 : decode b_P_feed 18 = .ok (.ireturn, 1) := by decide +kernel
theorem d_P_clear_0 : decode b_P_clear 0 = .ok (.aload_n 0, 1) := by decide +kernel
theorem d_P_clear_1 : decode b_P_clear 1 = .ok (.getfield 10, 3) := by decide +kernel
theorem d_P_clear_4 : decode b_P_clear 4 = .ok (.invokevirtual 48, 3) := by decide +kernel
theorem d_P_clear_7 : decode b_P_clear 7 = .ok (.aload_n 0, 1) := by decide +kernel
theorem d_P_clear_8 : decode b_P_clear 8 = .ok (.invokevirtual 41, 3) := by decide +kernel
theorem d_P_clear_11 : decode b_P_clear 11 = .ok (.return_, 1) := by decide +kernel
theorem d_P_begin_0 : decode b_P_begin 0 = .ok (.aload_n 0, 1) := by decide +kernel
theorem d_P_begin_1 : decode b_P_begin 1 = .ok (.iconst 0, 1) := by decide +kernel
theorem d_P_begin_2 : decode b_P_begin 2 = .ok (.putfield 51, 3) := by decide +kernel
theorem d_P_begin_5 : decode b_P_begin 5 = .ok (.aload_n 0, 1) := by decide +kernel
theorem d_P_begin_6 : decode b_P_begin 6 = .ok (.iconst 0, 1) := by decide +kernel
theorem d_P_begin_7 : decode b_P_begin 7 = .ok (.putfield 55, 3) := by decide +kernel
theorem d_P_begin_10 : decode b_P_begin 10 = .ok (.aload_n 0, 1) := by decide +kernel
theorem d_P_begin_11 : decode b_P_begin 11 = .ok (.iconst 0, 1) := by decide +kernel
theorem d_P_begin_12 : decode b_P_begin 12 = .ok (.putfield 58, 3) := by decide +kernel
theorem d_P_begin_15 : decode b_P_begin 15 = .ok (.aload_n 0, 1) := by decide +kernel
theorem d_P_begin_16 : decode b_P_begin 16 = .ok (.iconst 0, 1) := by decide +kernel
theorem d_P_begin_17 : decode b_P_begin 17 = .ok (.putfield 61, 3) := by decide +kernel
theorem d_P_begin_20 : decode b_P_begin 20 = .ok (.aload_n 0, 1) := by decide +kernel
theorem d_P_begin_21 : decode b_P_begin 21 = .ok (.iconst 0, 1) := by decide +kernel
theorem d_P_begin_22 : decode b_P_begin 22 = .ok (.putfield 64, 3) := by decide +kernel
theorem d_P_begin_25 : decode b_P_begin 25 = .ok (.aload_n 0, 1) := by decide +kernel
theorem d_P_begin_26 : decode b_P_begin 26 = .ok (.iconst 0, 1) := by decide +kernel
theorem d_P_begin_27 : decode b_P_begin 27 = .ok (.putfield 67, 3) := by decide +kernel
theorem d_P_begin_30 : decode b_P_begin 30 = .ok (.aload_n 0, 1) := by decide +kernel
theorem d_P_begin_31 : decode b_P_begin 31 = .ok (.iconst 0, 1) := by decide +kernel
theorem d_P_begin_32 : decode b_P_begin 32 = .ok (.putfield 71, 3) := by decide +kernel
theorem d_P_begin_35 : decode b_P_begin 35 = .ok (.aload_n 0, 1) := by decide +kernel
theorem d_P_begin_36 : decode b_P_begin 36 = .ok (.iconst 0, 1) := by decide +kernel
theorem d_P_begin_37 : decode b_P_begin 37 = .ok (.putfield 74, 3) := by decide +kernel
theorem d_P_begin_40 : decode b_P_begin 40 = .ok (.aload_n 0, 1) := by decide +kernel
theorem d_P_begin_41 : decode b_P_begin 41 = .ok (.lconst 0, 1) := by decide +kernel
theorem d_P_begin_42 : decode b_P_begin 42 = .ok (.putfield 77, 3) := by decide +kernel
theorem d_P_begin_45 : decode b_P_begin 45 = .ok (.aload_n 0, 1) := by decide +kernel
theorem d_P_begin_46 : decode b_P_begin 46 = .ok (.iconst 0, 1) := by decide +kernel
theorem d_P_begin_47 : decode b_P_begin 47 = .ok (.putfield 81, 3) := by decide +kernel
theorem d_P_begin_50 : decode b_P_begin 50 = .ok (.aload_n 0, 1) := by decide +kernel
theorem d_P_begin_51 : decode b_P_begin 51 = .ok (.iconst 4, 1) := by decide +kernel
theorem d_P_begin_52 : decode b_P_begin 52 = .ok (.putfield 84, 3) := by decide +kernel
theorem d_P_begin_55 : decode b_P_begin 55 = .ok (.aload_n 0, 1) := by decide +kernel
theorem d_P_begin_56 : decode b_P_begin 56 = .ok (.iconst 0, 1) := by decide +kernel
theorem d_P_begin_57 : decode b_P_begin 57 = .ok (.putfield 87, 3) := by decide +kernel
theorem d_P_begin_60 : decode b_P_begin 60 = .ok (.aload_n 0, 1) := by decide +kernel
theorem d_P_begin_61 : decode b_P_begin 61 = .ok (.iconst 0, 1) := by decide +kernel
theorem d_P_begin_62 : decode b_P_begin 62 = .ok (.putfield 90, 3) := by decide +kernel
theorem d_P_begin_65 : decode b_P_begin 65 = .ok (.aload_n 0, 1) := by decide +kernel
theorem d_P_begin_66 : decode b_P_begin 66 = .ok (.iconst 0, 1) := by decide +kernel
theorem d_P_begin_67 : decode b_P_begin 67 = .ok (.putfield 93, 3) := by decide +kernel
theorem d_P_begin_70 : decode b_P_begin 70 = .ok (.return_, 1) := by decide +kernel
theorem d_P_run_0 : decode b_P_run 0 = .ok (.aload_n 0, 1) := by decide +kernel
theorem d_P_run_1 : decode b_P_run 1 = .ok (.iload_n 1, 1) := by decide +kernel
theorem d_P_run_2 : decode b_P_run 2 = .ok (.invokevirtual 96, 3) := by decide +kernel
theorem d_P_run_5 : decode b_P_run 5 = .ok (.istore_n 2, 1) := by decide +kernel
theorem d_P_run_6 : decode b_P_run 6 = .ok (.iconst 0, 1) := by decide +kernel
theorem d_P_run_7 : decode b_P_run 7 = .ok (.istore_n 3, 1) := by decide +kernel
theorem d_P_run_8 : decode b_P_run 8 = .ok (.iload_n 3, 1) := by decide +kernel
theorem d_P_run_9 : decode b_P_run 9 = .ok (.sipush 400, 3) := by decide +kernel
theorem d_P_run_12 : decode b_P_run 12 = .ok (.if_icmp .gt 35, 3) := by decide +kernel
theorem d_P_run_15 : decode b_P_run 15 = .ok (.iload_n 2, 1) := by decide +kernel
theorem d_P_run_16 : decode b_P_run 16 = .ok (.iload_n 1, 1) := by decide +kernel
theorem d_P_run_17 : decode b_P_run 17 = .ok (.if_icmp .ge 30, 3) := by decide +kernel
theorem d_P_run_20 : decode b_P_run 20 = .ok (.aload_n 0, 1) := by decide +kernel
theorem d_P_run_21 : decode b_P_run 21 = .ok (.getfield 64, 3) := by decide +kernel
theorem d_P_run_24 : decode b_P_run 24 = .ok (.ifCond .ne 23, 3) := by decide +kernel
theorem d_P_run_27 : decode b_P_run 27 = .ok (.aload_n 0, 1) := by decide +kernel
theorem d_P_run_28 : decode b_P_run 28 = .ok (.invokevirtual 99, 3) := by decide +kernel
theorem d_P_run_31 : decode b_P_run 31 = .ok (.iload_n 2, 1) := by decide +kernel
theorem d_P_run_32 : decode b_P_run 32 = .ok (.aload_n 0, 1) := by decide +kernel
theorem d_P_run_33 : decode b_P_run 33 = .ok (.iload_n 1, 1) := by decide +kernel
theorem d_P_run_34 : decode b_P_run 34 = .ok (.iload_n 2, 1) := by decide +kernel
theorem d_P_run_35 : decode b_P_run 35 = .ok (.isub, 1) := by decide +kernel
theorem d_P_run_36 : decode b_P_run 36 = .ok (.invokevirtual 96, 3) := by decide +kernel
theorem d_P_run_39 : decode b_P_run 39 = .ok (.iadd, 1) := by decide +kernel
theorem d_P_run_40 : decode b_P_run 40 = .ok (.istore_n 2, 1) := by decide +kernel
theorem d_P_run_41 : decode b_P_run 41 = .ok (.iinc 3 1, 3) := by decide +kernel
theorem d_P_run_44 : decode b_P_run 44 = .ok (.goto (-36), 3) := by decide +kernel
theorem d_P_run_47 : decode b_P_run 47 = .ok (.iload_n 2, 1) := by decide +kernel
theorem d_P_run_48 : decode b_P_run 48 = .ok (.ireturn, 1) := by decide +kernel
theorem d_P_state_0 : decode b_P_state 0 = .ok (.aload_n 0, 1) := by decide +kernel
theorem d_P_state_1 : decode b_P_state 1 = .ok (.getfield 64, 3) := by decide +kernel
theorem d_P_state_4 : decode b_P_state 4 = .ok (.ireturn, 1) := by decide +kernel
theorem d_P_x_0 : decode b_P_x 0 = .ok (.aload_n 0, 1) := by decide +kernel
theorem d_P_x_1 : decode b_P_x 1 = .ok (.getfield 71, 3) := by decide +kernel
theorem d_P_x_4 : decode b_P_x 4 = .ok (.ireturn, 1) := by decide +kernel
theorem d_P_y_0 : decode b_P_y 0 = .ok (.aload_n 0, 1) := by decide +kernel
theorem d_P_y_1 : decode b_P_y 1 = .ok (.getfield 74, 3) := by decide +kernel
theorem d_P_y_4 : decode b_P_y 4 = .ok (.ireturn, 1) := by decide +kernel
theorem d_P_time_0 : decode b_P_time 0 = .ok (.aload_n 0, 1) := by decide +kernel
theorem d_P_time_1 : decode b_P_time 1 = .ok (.getfield 77, 3) := by decide +kernel
theorem d_P_time_4 : decode b_P_time 4 = .ok (.lreturn, 1) := by decide +kernel
theorem d_P_pulses_0 : decode b_P_pulses 0 = .ok (.aload_n 0, 1) := by decide +kernel
theorem d_P_pulses_1 : decode b_P_pulses 1 = .ok (.getfield 81, 3) := by decide +kernel
theorem d_P_pulses_4 : decode b_P_pulses 4 = .ok (.ireturn, 1) := by decide +kernel
theorem d_P_last_0 : decode b_P_last 0 = .ok (.aload_n 0, 1) := by decide +kernel
theorem d_P_last_1 : decode b_P_last 1 = .ok (.getfield 84, 3) := by decide +kernel
theorem d_P_last_4 : decode b_P_last 4 = .ok (.ireturn, 1) := by decide +kernel
theorem d_P_line_0 : decode b_P_line 0 = .ok (.aload_n 0, 1) := by decide +kernel
theorem d_P_line_1 : decode b_P_line 1 = .ok (.getfield 61, 3) := by decide +kernel
theorem d_P_line_4 : decode b_P_line 4 = .ok (.ireturn, 1) := by decide +kernel
theorem d_P_feedRate_0 : decode b_P_feedRate 0 = .ok (.aload_n 0, 1) := by decide +kernel
theorem d_P_feedRate_1 : decode b_P_feedRate 1 = .ok (.getfield 87, 3) := by decide +kernel
theorem d_P_feedRate_4 : decode b_P_feedRate 4 = .ok (.ireturn, 1) := by decide +kernel
theorem d_P_mode_0 : decode b_P_mode 0 = .ok (.aload_n 0, 1) := by decide +kernel
theorem d_P_mode_1 : decode b_P_mode 1 = .ok (.getfield 93, 3) := by decide +kernel
theorem d_P_mode_4 : decode b_P_mode 4 = .ok (.ifCond .eq 12, 3) := by decide +kernel
theorem d_P_mode_7 : decode b_P_mode 7 = .ok (.aload_n 0, 1) := by decide +kernel
theorem d_P_mode_8 : decode b_P_mode 8 = .ok (.getfield 90, 3) := by decide +kernel
theorem d_P_mode_11 : decode b_P_mode 11 = .ok (.iconst 4, 1) := by decide +kernel
theorem d_P_mode_12 : decode b_P_mode 12 = .ok (.iadd, 1) := by decide +kernel
theorem d_P_mode_13 : decode b_P_mode 13 = .ok (.goto 7, 3) := by decide +kernel
theorem d_P_mode_16 : decode b_P_mode 16 = .ok (.aload_n 0, 1) := by decide +kernel
theorem d_P_mode_17 : decode b_P_mode 17 = .ok (.getfield 90, 3) := by decide +kernel
theorem d_P_mode_20 : decode b_P_mode 20 = .ok (.ireturn, 1) := by decide +kernel
theorem d_P_left_0 : decode b_P_left 0 = .ok (.aload_n 0, 1) := by decide +kernel
theorem d_P_left_1 : decode b_P_left 1 = .ok (.getfield 55, 3) := by decide +kernel
theorem d_P_left_4 : decode b_P_left 4 = .ok (.ireturn, 1) := by decide +kernel
theorem d_P_makePulses_0 : decode b_P_makePulses 0 = .ok (.iload_n 1, 1) := by decide +kernel
theorem d_P_makePulses_1 : decode b_P_makePulses 1 = .ok (.aload_n 0, 1) := by decide +kernel
theorem d_P_makePulses_2 : decode b_P_makePulses 2 = .ok (.getfield 55, 3) := by decide +kernel
theorem d_P_makePulses_5 : decode b_P_makePulses 5 = .ok (.invokestatic 102, 3) := by decide +kernel
theorem d_P_makePulses_8 : decode b_P_makePulses 8 = .ok (.istore_n 2, 1) := by decide +kernel
theorem d_P_makePulses_9 : decode b_P_makePulses 9 = .ok (.iload_n 2, 1) := by decide +kernel
theorem d_P_makePulses_10 : decode b_P_makePulses 10 = .ok (.iconst 1, 1) := by decide +kernel
theorem d_P_makePulses_11 : decode b_P_makePulses 11 = .ok (.if_icmp .ge 5, 3) := by decide +kernel
theorem d_P_makePulses_14 : decode b_P_makePulses 14 = .ok (.iconst 0, 1) := by decide +kernel
theorem d_P_makePulses_15 : decode b_P_makePulses 15 = .ok (.ireturn, 1) := by decide +kernel
theorem d_P_makePulses_16 : decode b_P_makePulses 16 = .ok (.aload_n 0, 1) := by decide +kernel
theorem d_P_makePulses_17 : decode b_P_makePulses 17 = .ok (.dup, 1) := by decide +kernel
theorem d_P_makePulses_18 : decode b_P_makePulses 18 = .ok (.getfield 51, 3) := by decide +kernel
theorem d_P_makePulses_21 : decode b_P_makePulses 21 = .ok (.iload_n 2, 1) := by decide +kernel
theorem d_P_makePulses_22 : decode b_P_makePulses 22 = .ok (.iadd, 1) := by decide +kernel
theorem d_P_makePulses_23 : decode b_P_makePulses 23 = .ok (.putfield 51, 3) := by decide +kernel
theorem d_P_makePulses_26 : decode b_P_makePulses 26 = .ok (.aload_n 0, 1) := by decide +kernel
theorem d_P_makePulses_27 : decode b_P_makePulses 27 = .ok (.dup, 1) := by decide +kernel
theorem d_P_makePulses_28 : decode b_P_makePulses 28 = .ok (.getfield 55, 3) := by decide +kernel
theorem d_P_makePulses_31 : decode b_P_makePulses 31 = .ok (.iload_n 2, 1) := by decide +kernel
theorem d_P_makePulses_32 : decode b_P_makePulses 32 = .ok (.isub, 1) := by decide +kernel
theorem d_P_makePulses_33 : decode b_P_makePulses 33 = .ok (.putfield 55, 3) := by decide +kernel
theorem d_P_makePulses_36 : decode b_P_makePulses 36 = .ok (.aload_n 0, 1) := by decide +kernel
theorem d_P_makePulses_37 : decode b_P_makePulses 37 = .ok (.aload_n 0, 1) := by decide +kernel
theorem d_P_makePulses_38 : decode b_P_makePulses 38 = .ok (.getfield 37, 3) := by decide +kernel
theorem d_P_makePulses_41 : decode b_P_makePulses 41 = .ok (.aload_n 0, 1) := by decide +kernel
theorem d_P_makePulses_42 : decode b_P_makePulses 42 = .ok (.getfield 51, 3) := by decide +kernel
theorem d_P_makePulses_45 : decode b_P_makePulses 45 = .ok (.invokevirtual 108, 3) := by decide +kernel
theorem d_P_makePulses_48 : decode b_P_makePulses 48 = .ok (.putfield 71, 3) := by decide +kernel
theorem d_P_makePulses_51 : decode b_P_makePulses 51 = .ok (.aload_n 0, 1) := by decide +kernel
theorem d_P_makePulses_52 : decode b_P_makePulses 52 = .ok (.aload_n 0, 1) := by decide +kernel
theorem d_P_makePulses_53 : decode b_P_makePulses 53 = .ok (.getfield 37, 3) := by decide +kernel
theorem d_P_makePulses_56 : decode b_P_makePulses 56 = .ok (.aload_n 0, 1) := by decide +kernel
theorem d_P_makePulses_57 : decode b_P_makePulses 57 = .ok (.getfield 51, 3) := by decide +kernel
theorem d_P_makePulses_60 : decode b_P_makePulses 60 = .ok (.invokevirtual 113, 3) := by decide +kernel
theorem d_P_makePulses_63 : decode b_P_makePulses 63 = .ok (.putfield 74, 3) := by decide +kernel
theorem d_P_makePulses_66 : decode b_P_makePulses 66 = .ok (.aload_n 0, 1) := by decide +kernel
theorem d_P_makePulses_67 : decode b_P_makePulses 67 = .ok (.getfield 71, 3) := by decide +kernel
theorem d_P_makePulses_70 : decode b_P_makePulses 70 = .ok (.aload_n 0, 1) := by decide +kernel
theorem d_P_makePulses_71 : decode b_P_makePulses 71 = .ok (.getfield 37, 3) := by decide +kernel
theorem d_P_makePulses_74 : decode b_P_makePulses 74 = .ok (.aload_n 0, 1) := by decide +kernel
theorem d_P_makePulses_75 : decode b_P_makePulses 75 = .ok (.getfield 51, 3) := by decide +kernel
theorem d_P_makePulses_78 : decode b_P_makePulses 78 = .ok (.iconst 1, 1) := by decide +kernel
theorem d_P_makePulses_79 : decode b_P_makePulses 79 = .ok (.isub, 1) := by decide +kernel
theorem d_P_makePulses_80 : decode b_P_makePulses 80 = .ok (.invokevirtual 108, 3) := by decide +kernel
theorem d_P_makePulses_83 : decode b_P_makePulses 83 = .ok (.isub, 1) := by decide +kernel
theorem d_P_makePulses_84 : decode b_P_makePulses 84 = .ok (.istore_n 3, 1) := by decide +kernel
theorem d_P_makePulses_85 : decode b_P_makePulses 85 = .ok (.aload_n 0, 1) := by decide +kernel
theorem d_P_makePulses_86 : decode b_P_makePulses 86 = .ok (.getfield 74, 3) := by decide +kernel
theorem d_P_makePulses_89 : decode b_P_makePulses 89 = .ok (.aload_n 0, 1) := by decide +kernel
theorem d_P_makePulses_90 : decode b_P_makePulses 90 = .ok (.getfield 37, 3) := by decide +kernel
theorem d_P_makePulses_93 : decode b_P_makePulses 93 = .ok (.aload_n 0, 1) := by decide +kernel
theorem d_P_makePulses_94 : decode b_P_makePulses 94 = .ok (.getfield 51, 3) := by decide +kernel
theorem d_P_makePulses_97 : decode b_P_makePulses 97 = .ok (.iconst 1, 1) := by decide +kernel
theorem d_P_makePulses_98 : decode b_P_makePulses 98 = .ok (.isub, 1) := by decide +kernel
theorem d_P_makePulses_99 : decode b_P_makePulses 99 = .ok (.invokevirtual 113, 3) := by decide +kernel
theorem d_P_makePulses_102 : decode b_P_makePulses 102 = .ok (.isub, 1) := by decide +kernel
theorem d_P_makePulses_103 : decode b_P_makePulses 103 = .ok (.istore 4, 2) := by decide +kernel
theorem d_P_makePulses_105 : decode b_P_makePulses 105 = .ok (.aload_n 0, 1) := by decide +kernel
theorem d_P_makePulses_106 : decode b_P_makePulses 106 = .ok (.iconst 3, 1) := by decide +kernel
theorem d_P_makePulses_107 : decode b_P_makePulses 107 = .ok (.iload_n 3, 1) := by decide +kernel
theorem d_P_makePulses_108 : decode b_P_makePulses 108 = .ok (.iconst 1, 1) := by decide +kernel
theorem d_P_makePulses_109 : decode b_P_makePulses 109 = .ok (.iadd, 1) := by decide +kernel
theorem d_P_makePulses_110 : decode b_P_makePulses 110 = .ok (.imul, 1) := by decide +kernel
theorem d_P_makePulses_111 : decode b_P_makePulses 111 = .ok (.iload 4, 2) := by decide +kernel
theorem d_P_makePulses_113 : decode b_P_makePulses 113 = .ok (.iadd, 1) := by decide +kernel
theorem d_P_makePulses_114 : decode b_P_makePulses 114 = .ok (.iconst 1, 1) := by decide +kernel
theorem d_P_makePulses_115 : decode b_P_makePulses 115 = .ok (.iadd, 1) := by decide +kernel
theorem d_P_makePulses_116 : decode b_P_makePulses 116 = .ok (.putfield 84, 3) := by decide +kernel
theorem d_P_makePulses_119 : decode b_P_makePulses 119 = .ok (.aload_n 0, 1) := by decide +kernel
theorem d_P_makePulses_120 : decode b_P_makePulses 120 = .ok (.dup, 1) := by decide +kernel
theorem d_P_makePulses_121 : decode b_P_makePulses 121 = .ok (.getfield 81, 3) := by decide +kernel
theorem d_P_makePulses_124 : decode b_P_makePulses 124 = .ok (.iload_n 2, 1) := by decide +kernel
theorem d_P_makePulses_125 : decode b_P_makePulses 125 = .ok (.iadd, 1) := by decide +kernel
theorem d_P_makePulses_126 : decode b_P_makePulses 126 = .ok (.putfield 81, 3) := by decide +kernel
theorem d_P_makePulses_129 : decode b_P_makePulses 129 = .ok (.aload_n 0, 1) := by decide +kernel
theorem d_P_makePulses_130 : decode b_P_makePulses 130 = .ok (.dup, 1) := by decide +kernel
theorem d_P_makePulses_131 : decode b_P_makePulses 131 = .ok (.getfield 77, 3) := by decide +kernel
theorem d_P_makePulses_134 : decode b_P_makePulses 134 = .ok (.iload_n 2, 1) := by decide +kernel
theorem d_P_makePulses_135 : decode b_P_makePulses 135 = .ok (.i2l, 1) := by decide +kernel
theorem d_P_makePulses_136 : decode b_P_makePulses 136 = .ok (.aload_n 0, 1) := by decide +kernel
theorem d_P_makePulses_137 : decode b_P_makePulses 137 = .ok (.invokevirtual 116, 3) := by decide +kernel
theorem d_P_makePulses_140 : decode b_P_makePulses 140 = .ok (.i2l, 1) := by decide +kernel
theorem d_P_makePulses_141 : decode b_P_makePulses 141 = .ok (.lmul, 1) := by decide +kernel
theorem d_P_makePulses_142 : decode b_P_makePulses 142 = .ok (.ladd, 1) := by decide +kernel
theorem d_P_makePulses_143 : decode b_P_makePulses 143 = .ok (.putfield 77, 3) := by decide +kernel
theorem d_P_makePulses_146 : decode b_P_makePulses 146 = .ok (.iload_n 2, 1) := by decide +kernel
theorem d_P_makePulses_147 : decode b_P_makePulses 147 = .ok (.ireturn, 1) := by decide +kernel
theorem d_P_pause_0 : decode b_P_pause 0 = .ok (.aload_n 0, 1) := by decide +kernel
theorem d_P_pause_1 : decode b_P_pause 1 = .ok (.getfield 90, 3) := by decide +kernel
theorem d_P_pause_4 : decode b_P_pause 4 = .ok (.ifCond .eq 11, 3) := by decide +kernel
theorem d_P_pause_7 : decode b_P_pause 7 = .ok (.aload_n 0, 1) := by decide +kernel
theorem d_P_pause_8 : decode b_P_pause 8 = .ok (.getfield 87, 3) := by decide +kernel
theorem d_P_pause_11 : decode b_P_pause 11 = .ok (.iconst 1, 1) := by decide +kernel
theorem d_P_pause_12 : decode b_P_pause 12 = .ok (.if_icmp .ge 6, 3) := by decide +kernel
theorem d_P_pause_15 : decode b_P_pause 15 = .ok (.bipush 100, 2) := by decide +kernel
theorem d_P_pause_17 : decode b_P_pause 17 = .ok (.ireturn, 1) := by decide +kernel
theorem d_P_pause_18 : decode b_P_pause 18 = .ok (.ldc 120, 2) := by decide +kernel
theorem d_P_pause_20 : decode b_P_pause 20 = .ok (.aload_n 0, 1) := by decide +kernel
theorem d_P_pause_21 : decode b_P_pause 21 = .ok (.getfield 87, 3) := by decide +kernel
theorem d_P_pause_24 : decode b_P_pause 24 = .ok (.iadd, 1) := by decide +kernel
theorem d_P_pause_25 : decode b_P_pause 25 = .ok (.iconst 1, 1) := by decide +kernel
theorem d_P_pause_26 : decode b_P_pause 26 = .ok (.isub, 1) := by decide +kernel
theorem d_P_pause_27 : decode b_P_pause 27 = .ok (.aload_n 0, 1) := by decide +kernel
theorem d_P_pause_28 : decode b_P_pause 28 = .ok (.getfield 87, 3) := by decide +kernel
theorem d_P_pause_31 : decode b_P_pause 31 = .ok (.idiv, 1) := by decide +kernel
theorem d_P_pause_32 : decode b_P_pause 32 = .ok (.ireturn, 1) := by decide +kernel
theorem d_P_lookAtNextLine_0 : decode b_P_lookAtNextLine 0 = .ok (.aload_n 0, 1) := by decide +kernel
theorem d_P_lookAtNextLine_1 : decode b_P_lookAtNextLine 1 = .ok (.getfield 67, 3) := by decide +kernel
theorem d_P_lookAtNextLine_4 : decode b_P_lookAtNextLine 4 = .ok (.ifCond .ne 17, 3) := by decide +kernel
theorem d_P_lookAtNextLine_7 : decode b_P_lookAtNextLine 7 = .ok (.aload_n 0, 1) := by decide +kernel
theorem d_P_lookAtNextLine_8 : decode b_P_lookAtNextLine 8 = .ok (.getfield 58, 3) := by decide +kernel
theorem d_P_lookAtNextLine_11 : decode b_P_lookAtNextLine 11 = .ok (.aload_n 0, 1) := by decide +kernel
theorem d_P_lookAtNextLine_12 : decode b_P_lookAtNextLine 12 = .ok (.getfield 10, 3) := by decide +kernel
theorem d_P_lookAtNextLine_15 : decode b_P_lookAtNextLine 15 = .ok (.invokevirtual 121, 3) := by decide +kernel
theorem d_P_lookAtNextLine_18 : decode b_P_lookAtNextLine 18 = .ok (.if_icmp .lt 10, 3) := by decide +kernel
theorem d_P_lookAtNextLine_21 : decode b_P_lookAtNextLine 21 = .ok (.aload_n 0, 1) := by decide +kernel
theorem d_P_lookAtNextLine_22 : decode b_P_lookAtNextLine 22 = .ok (.bipush 100, 2) := by decide +kernel
theorem d_P_lookAtNextLine_24 : decode b_P_lookAtNextLine 24 = .ok (.putfield 64, 3) := by decide +kernel
theorem d_P_lookAtNextLine_27 : decode b_P_lookAtNextLine 27 = .ok (.return_, 1) := by decide +kernel
theorem d_P_lookAtNextLine_28 : decode b_P_lookAtNextLine 28 = .ok (.aload_n 0, 1) := by decide +kernel
theorem d_P_lookAtNextLine_29 : decode b_P_lookAtNextLine 29 = .ok (.getfield 10, 3) := by decide +kernel
theorem d_P_lookAtNextLine_32 : decode b_P_lookAtNextLine 32 = .ok (.aload_n 0, 1) := by decide +kernel
theorem d_P_lookAtNextLine_33 : decode b_P_lookAtNextLine 33 = .ok (.getfield 58, 3) := by decide +kernel
theorem d_P_lookAtNextLine_36 : decode b_P_lookAtNextLine 36 = .ok (.invokevirtual 124, 3) := by decide +kernel
theorem d_P_lookAtNextLine_39 : decode b_P_lookAtNextLine 39 = .ok (.istore_n 1, 1) := by decide +kernel
theorem d_P_lookAtNextLine_40 : decode b_P_lookAtNextLine 40 = .ok (.aload_n 0, 1) := by decide +kernel
theorem d_P_lookAtNextLine_41 : decode b_P_lookAtNextLine 41 = .ok (.aload_n 0, 1) := by decide +kernel
theorem d_P_lookAtNextLine_42 : decode b_P_lookAtNextLine 42 = .ok (.getfield 19, 3) := by decide +kernel
theorem d_P_lookAtNextLine_45 : decode b_P_lookAtNextLine 45 = .ok (.aload_n 0, 1) := by decide +kernel
theorem d_P_lookAtNextLine_46 : decode b_P_lookAtNextLine 46 = .ok (.getfield 10, 3) := by decide +kernel
theorem d_P_lookAtNextLine_49 : decode b_P_lookAtNextLine 49 = .ok (.aload_n 0, 1) := by decide +kernel
theorem d_P_lookAtNextLine_50 : decode b_P_lookAtNextLine 50 = .ok (.getfield 58, 3) := by decide +kernel
theorem d_P_lookAtNextLine_53 : decode b_P_lookAtNextLine 53 = .ok (.iload_n 1, 1) := by decide +kernel
theorem d_P_lookAtNextLine_54 : decode b_P_lookAtNextLine 54 = .ok (.invokevirtual 127, 3) := by decide +kernel
theorem d_P_lookAtNextLine_57 : decode b_P_lookAtNextLine 57 = .ok (.putfield 64, 3) := by decide +kernel
theorem d_P_lookAtNextLine_60 : decode b_P_lookAtNextLine 60 = .ok (.aload_n 0, 1) := by decide +kernel
theorem d_P_lookAtNextLine_61 : decode b_P_lookAtNextLine 61 = .ok (.iload_n 1, 1) := by decide +kernel
theorem d_P_lookAtNextLine_62 : decode b_P_lookAtNextLine 62 = .ok (.iconst 1, 1) := by decide +kernel
theorem d_P_lookAtNextLine_63 : decode b_P_lookAtNextLine 63 = .ok (.iadd, 1) := by decide +kernel
theorem d_P_lookAtNextLine_64 : decode b_P_lookAtNextLine 64 = .ok (.putfield 58, 3) := by decide +kernel
theorem d_P_lookAtNextLine_67 : decode b_P_lookAtNextLine 67 = .ok (.aload_n 0, 1) := by decide +kernel
theorem d_P_lookAtNextLine_68 : decode b_P_lookAtNextLine 68 = .ok (.dup, 1) := by decide +kernel
theorem d_P_lookAtNextLine_69 : decode b_P_lookAtNextLine 69 = .ok (.getfield 61, 3) := by decide +kernel
theorem d_P_lookAtNextLine_72 : decode b_P_lookAtNextLine 72 = .ok (.iconst 1, 1) := by decide +kernel
theorem d_P_lookAtNextLine_73 : decode b_P_lookAtNextLine 73 = .ok (.iadd, 1) := by decide +kernel
theorem d_P_lookAtNextLine_74 : decode b_P_lookAtNextLine 74 = .ok (.putfield 61, 3) := by decide +kernel
theorem d_P_lookAtNextLine_77 : decode b_P_lookAtNextLine 77 = .ok (.aload_n 0, 1) := by decide +kernel
theorem d_P_lookAtNextLine_78 : decode b_P_lookAtNextLine 78 = .ok (.getfield 64, 3) := by decide +kernel
theorem d_P_lookAtNextLine_81 : decode b_P_lookAtNextLine 81 = .ok (.ifCond .ne 15, 3) := by decide +kernel
theorem d_P_lookAtNextLine_84 : decode b_P_lookAtNextLine 84 = .ok (.aload_n 0, 1) := by decide +kernel
theorem d_P_lookAtNextLine_85 : decode b_P_lookAtNextLine 85 = .ok (.invokevirtual 131, 3) := by decide +kernel
theorem d_P_lookAtNextLine_88 : decode b_P_lookAtNextLine 88 = .ok (.aload_n 0, 1) := by decide +kernel
theorem d_P_lookAtNextLine_89 : decode b_P_lookAtNextLine 89 = .ok (.aload_n 0, 1) := by decide +kernel
theorem d_P_lookAtNextLine_90 : decode b_P_lookAtNextLine 90 = .ok (.invokevirtual 134, 3) := by decide +kernel
theorem d_P_lookAtNextLine_93 : decode b_P_lookAtNextLine 93 = .ok (.putfield 64, 3) := by decide +kernel
theorem d_P_lookAtNextLine_96 : decode b_P_lookAtNextLine 96 = .ok (.return_, 1) := by decide +kernel
theorem d_P_applySettings_0 : decode b_P_applySettings 0 = .ok (.aload_n 0, 1) := by decide +kernel
theorem d_P_applySettings_1 : decode b_P_applySettings 1 = .ok (.getfield 19, 3) := by decide +kernel
theorem d_P_applySettings_4 : decode b_P_applySettings 4 = .ok (.bipush 6, 2) := by decide +kernel
theorem d_P_applySettings_6 : decode b_P_applySettings 6 = .ok (.invokevirtual 137, 3) := by decide +kernel
theorem d_P_applySettings_9 : decode b_P_applySettings 9 = .ok (.ifCond .eq 16, 3) := by decide +kernel
theorem d_P_applySettings_12 : decode b_P_applySettings 12 = .ok (.aload_n 0, 1) := by decide +kernel
theorem d_P_applySettings_13 : decode b_P_applySettings 13 = .ok (.aload_n 0, 1) := by decide +kernel
theorem d_P_applySettings_14 : decode b_P_applySettings 14 = .ok (.getfield 19, 3) := by decide +kernel
theorem d_P_applySettings_17 : decode b_P_applySettings 17 = .ok (.bipush 6, 2) := by decide +kernel
theorem d_P_applySettings_19 : decode b_P_applySettings 19 = .ok (.invokevirtual 141, 3) := by decide +kernel
theorem d_P_applySettings_22 : decode b_P_applySettings 22 = .ok (.putfield 87, 3) := by decide +kernel
theorem d_P_applySettings_25 : decode b_P_applySettings 25 = .ok (.aload_n 0, 1) := by decide +kernel
theorem d_P_applySettings_26 : decode b_P_applySettings 26 = .ok (.getfield 19, 3) := by decide +kernel
theorem d_P_applySettings_29 : decode b_P_applySettings 29 = .ok (.invokevirtual 144, 3) := by decide +kernel
theorem d_P_applySettings_32 : decode b_P_applySettings 32 = .ok (.iconst (-1), 1) := by decide +kernel
theorem d_P_applySettings_33 : decode b_P_applySettings 33 = .ok (.if_icmp .eq 24, 3) := by decide +kernel
theorem d_P_applySettings_36 : decode b_P_applySettings 36 = .ok (.aload_n 0, 1) := by decide +kernel
theorem d_P_applySettings_37 : decode b_P_applySettings 37 = .ok (.aload_n 0, 1) := by decide +kernel
theorem d_P_applySettings_38 : decode b_P_applySettings 38 = .ok (.getfield 19, 3) := by decide +kernel
theorem d_P_applySettings_41 : decode b_P_applySettings 41 = .ok (.invokevirtual 144, 3) := by decide +kernel
theorem d_P_applySettings_44 : decode b_P_applySettings 44 = .ok (.bipush 91, 2) := by decide +kernel
theorem d_P_applySettings_46 : decode b_P_applySettings 46 = .ok (.if_icmp .ne 7, 3) := by decide +kernel
theorem d_P_applySettings_49 : decode b_P_applySettings 49 = .ok (.iconst 1, 1) := by decide +kernel
theorem d_P_applySettings_50 : decode b_P_applySettings 50 = .ok (.goto 4, 3) := by decide +kernel
theorem d_P_applySettings_53 : decode b_P_applySettings 53 = .ok (.iconst 0, 1) := by decide +kernel
theorem d_P_applySettings_54 : decode b_P_applySettings 54 = .ok (.putfield 93, 3) := by decide +kernel
theorem d_P_applySettings_57 : decode b_P_applySettings 57 = .ok (.aload_n 0, 1) := by decide +kernel
theorem d_P_applySettings_58 : decode b_P_applySettings 58 = .ok (.getfield 19, 3) := by decide +kernel
theorem d_P_applySettings_61 : decode b_P_applySettings 61 = .ok (.invokevirtual 147, 3) := by decide +kernel
theorem d_P_applySettings_64 : decode b_P_applySettings 64 = .ok (.iconst (-1), 1) := by decide +kernel
theorem d_P_applySettings_65 : decode b_P_applySettings 65 = .ok (.if_icmp .eq 14, 3) := by decide +kernel
theorem d_P_applySettings_68 : decode b_P_applySettings 68 = .ok (.aload_n 0, 1) := by decide +kernel
theorem d_P_applySettings_69 : decode b_P_applySettings 69 = .ok (.aload_n 0, 1) := by decide +kernel
theorem d_P_applySettings_70 : decode b_P_applySettings 70 = .ok (.getfield 19, 3) := by decide +kernel
theorem d_P_applySettings_73 : decode b_P_applySettings 73 = .ok (.invokevirtual 147, 3) := by decide +kernel
theorem d_P_applySettings_76 : decode b_P_applySettings 76 = .ok (.putfield 90, 3) := by decide +kernel
theorem d_P_applySettings_79 : decode b_P_applySettings 79 = .ok (.aload_n 0, 1) := by decide +kernel
theorem d_P_applySettings_80 : decode b_P_applySettings 80 = .ok (.aload_n 0, 1) := by decide +kernel
theorem d_P_applySettings_81 : decode b_P_applySettings 81 = .ok (.getfield 19, 3) := by decide +kernel
theorem d_P_applySettings_84 : decode b_P_applySettings 84 = .ok (.iconst 1, 1) := by decide +kernel
theorem d_P_applySettings_85 : decode b_P_applySettings 85 = .ok (.invokevirtual 137, 3) := by decide +kernel
theorem d_P_applySettings_88 : decode b_P_applySettings 88 = .ok (.putfield 67, 3) := by decide +kernel
theorem d_P_applySettings_91 : decode b_P_applySettings 91 = .ok (.return_, 1) := by decide +kernel
theorem d_P_startMove_0 : decode b_P_startMove 0 = .ok (.aload_n 0, 1) := by decide +kernel
theorem d_P_startMove_1 : decode b_P_startMove 1 = .ok (.getfield 19, 3) := by decide +kernel
theorem d_P_startMove_4 : decode b_P_startMove 4 = .ok (.iconst 2, 1) := by decide +kernel
theorem d_P_startMove_5 : decode b_P_startMove 5 = .ok (.invokevirtual 137, 3) := by decide +kernel
theorem d_P_startMove_8 : decode b_P_startMove 8 = .ok (.ifCond .ne 14, 3) := by decide +kernel
theorem d_P_startMove_11 : decode b_P_startMove 11 = .ok (.aload_n 0, 1) := by decide +kernel
theorem d_P_startMove_12 : decode b_P_startMove 12 = .ok (.getfield 19, 3) := by decide +kernel
theorem d_P_startMove_15 : decode b_P_startMove 15 = .ok (.iconst 3, 1) := by decide +kernel
theorem d_P_startMove_16 : decode b_P_startMove 16 = .ok (.invokevirtual 137, 3) := by decide +kernel
theorem d_P_startMove_19 : decode b_P_startMove 19 = .ok (.ifCond .eq 7, 3) := by decide +kernel
theorem d_P_startMove_22 : decode b_P_startMove 22 = .ok (.iconst 1, 1) := by decide +kernel
theorem d_P_startMove_23 : decode b_P_startMove 23 = .ok (.goto 4, 3) := by decide +kernel
theorem d_P_startMove_26 : decode b_P_startMove 26 = .ok (.iconst 0, 1) := by decide +kernel
theorem d_P_startMove_27 : decode b_P_startMove 27 = .ok (.istore_n 1, 1) := by decide +kernel
theorem d_P_startMove_28 : decode b_P_startMove 28 = .ok (.aload_n 0, 1) := by decide +kernel
theorem d_P_startMove_29 : decode b_P_startMove 29 = .ok (.getfield 19, 3) := by decide +kernel
theorem d_P_startMove_32 : decode b_P_startMove 32 = .ok (.iconst 4, 1) := by decide +kernel
theorem d_P_startMove_33 : decode b_P_startMove 33 = .ok (.invokevirtual 137, 3) := by decide +kernel
theorem d_P_startMove_36 : decode b_P_startMove 36 = .ok (.ifCond .ne 14, 3) := by decide +kernel
theorem d_P_startMove_39 : decode b_P_startMove 39 = .ok (.aload_n 0, 1) := by decide +kernel
theorem d_P_startMove_40 : decode b_P_startMove 40 = .ok (.getfield 19, 3) := by decide +kernel
theorem d_P_startMove_43 : decode b_P_startMove 43 = .ok (.iconst 5, 1) := by decide +kernel
theorem d_P_startMove_44 : decode b_P_startMove 44 = .ok (.invokevirtual 137, 3) := by decide +kernel
theorem d_P_startMove_47 : decode b_P_startMove 47 = .ok (.ifCond .eq 7, 3) := by decide +kernel
theorem d_P_startMove_50 : decode b_P_startMove 50 = .ok (.iconst 1, 1) := by decide +kernel
theorem d_P_startMove_51 : decode b_P_startMove 51 = .ok (.goto 4, 3) := by decide +kernel
theorem d_P_startMove_54 : decode b_P_startMove 54 = .ok (.iconst 0, 1) := by decide +kernel
theorem d_P_startMove_55 : decode b_P_startMove 55 = .ok (.istore_n 2, 1) := by decide +kernel
theorem d_P_startMove_56 : decode b_P_startMove 56 = .ok (.aload_n 0, 1) := by decide +kernel
theorem d_P_startMove_57 : decode b_P_startMove 57 = .ok (.getfield 90, 3) := by decide +kernel
theorem d_P_startMove_60 : decode b_P_startMove 60 = .ok (.iconst 2, 1) := by decide +kernel
theorem d_P_startMove_61 : decode b_P_startMove 61 = .ok (.if_icmp .eq 11, 3) := by decide +kernel
theorem d_P_startMove_64 : decode b_P_startMove 64 = .ok (.aload_n 0, 1) := by decide +kernel
theorem d_P_startMove_65 : decode b_P_startMove 65 = .ok (.getfield 90, 3) := by decide +kernel
theorem d_P_startMove_68 : decode b_P_startMove 68 = .ok (.iconst 3, 1) := by decide +kernel
theorem d_P_startMove_69 : decode b_P_startMove 69 = .ok (.if_icmp .ne 7, 3) := by decide +kernel
theorem d_P_startMove_72 : decode b_P_startMove 72 = .ok (.iconst 1, 1) := by decide +kernel
theorem d_P_startMove_73 : decode b_P_startMove 73 = .ok (.goto 4, 3) := by decide +kernel
theorem d_P_startMove_76 : decode b_P_startMove 76 = .ok (.iconst 0, 1) := by decide +kernel
theorem d_P_startMove_77 : decode b_P_startMove 77 = .ok (.istore_n 3, 1) := by decide +kernel
theorem d_P_startMove_78 : decode b_P_startMove 78 = .ok (.iload_n 3, 1) := by decide +kernel
theorem d_P_startMove_79 : decode b_P_startMove 79 = .ok (.ifCond .eq 14, 3) := by decide +kernel
theorem d_P_startMove_82 : decode b_P_startMove 82 = .ok (.iload_n 1, 1) := by decide +kernel
theorem d_P_startMove_83 : decode b_P_startMove 83 = .ok (.ifCond .eq 17, 3) := by decide +kernel
theorem d_P_startMove_86 : decode b_P_startMove 86 = .ok (.iload_n 2, 1) := by decide +kernel
theorem d_P_startMove_87 : decode b_P_startMove 87 = .ok (.ifCond .ne 13, 3) := by decide +kernel
theorem d_P_startMove_90 : decode b_P_startMove 90 = .ok (.goto 7, 3) := by decide +kernel
theorem d_P_startMove_93 : decode b_P_startMove 93 = .ok (.iload_n 2, 1) := by decide +kernel
theorem d_P_startMove_94 : decode b_P_startMove 94 = .ok (.ifCond .eq 6, 3) := by decide +kernel
theorem d_P_startMove_97 : decode b_P_startMove 97 = .ok (.bipush 104, 2) := by decide +kernel
theorem d_P_startMove_99 : decode b_P_startMove 99 = .ok (.ireturn, 1) := by decide +kernel
theorem d_P_startMove_100 : decode b_P_startMove 100 = .ok (.iload_n 1, 1) := by decide +kernel
theorem d_P_startMove_101 : decode b_P_startMove 101 = .ok (.ifCond .ne 9, 3) := by decide +kernel
theorem d_P_startMove_104 : decode b_P_startMove 104 = .ok (.iload_n 2, 1) := by decide +kernel
theorem d_P_startMove_105 : decode b_P_startMove 105 = .ok (.ifCond .ne 5, 3) := by decide +kernel
theorem d_P_startMove_108 : decode b_P_startMove 108 = .ok (.iconst 0, 1) := by decide +kernel
theorem d_P_startMove_109 : decode b_P_startMove 109 = .ok (.ireturn, 1) := by decide +kernel
theorem d_P_startMove_110 : decode b_P_startMove 110 = .ok (.aload_n 0, 1) := by decide +kernel
theorem d_P_startMove_111 : decode b_P_startMove 111 = .ok (.getfield 90, 3) := by decide +kernel
theorem d_P_startMove_114 : decode b_P_startMove 114 = .ok (.ifCond .eq 13, 3) := by decide +kernel
theorem d_P_startMove_117 : decode b_P_startMove 117 = .ok (.aload_n 0, 1) := by decide +kernel
theorem d_P_startMove_118 : decode b_P_startMove 118 = .ok (.getfield 87, 3) := by decide +kernel
theorem d_P_startMove_121 : decode b_P_startMove 121 = .ok (.ifCond .ne 6, 3) := by decide +kernel
theorem d_P_startMove_124 : decode b_P_startMove 124 = .ok (.bipush 105, 2) := by decide +kernel
theorem d_P_startMove_126 : decode b_P_startMove 126 = .ok (.ireturn, 1) := by decide +kernel
theorem d_P_startMove_127 : decode b_P_startMove 127 = .ok (.aload_n 0, 1) := by decide +kernel
theorem d_P_startMove_128 : decode b_P_startMove 128 = .ok (.iconst 2, 1) := by decide +kernel
theorem d_P_startMove_129 : decode b_P_startMove 129 = .ok (.aload_n 0, 1) := by decide +kernel
theorem d_P_startMove_130 : decode b_P_startMove 130 = .ok (.getfield 71, 3) := by decide +kernel
theorem d_P_startMove_133 : decode b_P_startMove 133 = .ok (.invokevirtual 149, 3) := by decide +kernel
theorem d_P_startMove_136 : decode b_P_startMove 136 = .ok (.istore 4, 2) := by decide +kernel
theorem d_P_startMove_138 : decode b_P_startMove 138 = .ok (.aload_n 0, 1) := by decide +kernel
theorem d_P_startMove_139 : decode b_P_startMove 139 = .ok (.iconst 3, 1) := by decide +kernel
theorem d_P_startMove_140 : decode b_P_startMove 140 = .ok (.aload_n 0, 1) := by decide +kernel
theorem d_P_startMove_141 : decode b_P_startMove 141 = .ok (.getfield 74, 3) := by decide +kernel
theorem d_P_startMove_144 : decode b_P_startMove 144 = .ok (.invokevirtual 149, 3) := by decide +kernel
theorem d_P_startMove_147 : decode b_P_startMove 147 = .ok (.istore 5, 2) := by decide +kernel
theorem d_P_startMove_149 : decode b_P_startMove 149 = .ok (.iload_n 3, 1) := by decide +kernel
theorem d_P_startMove_150 : decode b_P_startMove 150 = .ok (.ifCond .eq 14, 3) := by decide +kernel
theorem d_P_startMove_153 : decode b_P_startMove 153 = .ok (.aload_n 0, 1) := by decide +kernel
theorem d_P_startMove_154 : decode b_P_startMove 154 = .ok (.iload 4, 2) := by decide +kernel
theorem d_P_startMove_156 : decode b_P_startMove 156 = .ok (.iload 5, 2) := by decide +kernel
theorem d_P_startMove_158 : decode b_P_startMove 158 = .ok (.invokevirtual 152, 3) := by decide +kernel
theorem d_P_startMove_161 : decode b_P_startMove 161 = .ok (.goto 11, 3) := by decide +kernel
theorem d_P_startMove_164 : decode b_P_startMove 164 = .ok (.aload_n 0, 1) := by decide +kernel
theorem d_P_startMove_165 : decode b_P_startMove 165 = .ok (.iload 4, 2) := by decide +kernel
theorem d_P_startMove_167 : decode b_P_startMove 167 = .ok (.iload 5, 2) := by decide +kernel
theorem d_P_startMove_169 : decode b_P_startMove 169 = .ok (.invokevirtual 155, 3) := by decide +kernel
theorem d_P_startMove_172 : decode b_P_startMove 172 = .ok (.ireturn, 1) := by decide +kernel
theorem d_P_goal_0 : decode b_P_goal 0 = .ok (.aload_n 0, 1) := by decide +kernel
theorem d_P_goal_1 : decode b_P_goal 1 = .ok (.getfield 19, 3) := by decide +kernel
theorem d_P_goal_4 : decode b_P_goal 4 = .ok (.iload_n 1, 1) := by decide +kernel
theorem d_P_goal_5 : decode b_P_goal 5 = .ok (.invokevirtual 137, 3) := by decide +kernel
theorem d_P_goal_8 : decode b_P_goal 8 = .ok (.ifCond .ne 5, 3) := by decide +kernel
theorem d_P_goal_11 : decode b_P_goal 11 = .ok (.iload_n 2, 1) := by decide +kernel
theorem d_P_goal_12 : decode b_P_goal 12 = .ok (.ireturn, 1) := by decide +kernel
theorem d_P_goal_13 : decode b_P_goal 13 = .ok (.aload_n 0, 1) := by decide +kernel
theorem d_P_goal_14 : decode b_P_goal 14 = .ok (.getfield 93, 3) := by decide +kernel
theorem d_P_goal_17 : decode b_P_goal 17 = .ok (.ifCond .eq 16, 3) := by decide +kernel
theorem d_P_goal_20 : decode b_P_goal 20 = .ok (.iload_n 2, 1) := by decide +kernel
theorem d_P_goal_21 : decode b_P_goal 21 = .ok (.aload_n 0, 1) := by decide +kernel
theorem d_P_goal_22 : decode b_P_goal 22 = .ok (.getfield 19, 3) := by decide +kernel
theorem d_P_goal_25 : decode b_P_goal 25 = .ok (.iload_n 1, 1) := by decide +kernel
theorem d_P_goal_26 : decode b_P_goal 26 = .ok (.invokevirtual 141, 3) := by decide +kernel
theorem d_P_goal_29 : decode b_P_goal 29 = .ok (.iadd, 1) := by decide +kernel
theorem d_P_goal_30 : decode b_P_goal 30 = .ok (.goto 11, 3) := by decide +kernel
theorem d_P_goal_33 : decode b_P_goal 33 = .ok (.aload_n 0, 1) := by decide +kernel
theorem d_P_goal_34 : decode b_P_goal 34 = .ok (.getfield 19, 3) := by decide +kernel
theorem d_P_goal_37 : decode b_P_goal 37 = .ok (.iload_n 1, 1) := by decide +kernel
theorem d_P_goal_38 : decode b_P_goal 38 = .ok (.invokevirtual 141, 3) := by decide +kernel
theorem d_P_goal_41 : decode b_P_goal 41 = .ok (.ireturn, 1) := by decide +kernel
theorem d_P_startStraight_0 : decode b_P_startStraight 0 = .ok (.iload_n 1, 1) := by decide +kernel
theorem d_P_startStraight_1 : decode b_P_startStraight 1 = .ok (.invokestatic 158, 3) := by decide +kernel
theorem d_P_startStraight_4 : decode b_P_startStraight 4 = .ok (.ifCond .ne 10, 3) := by decide +kernel
theorem d_P_startStraight_7 : decode b_P_startStraight 7 = .ok (.iload_n 2, 1) := by decide +kernel
theorem d_P_startStraight_8 : decode b_P_startStraight 8 = .ok (.invokestatic 158, 3) := by decide +kernel
theorem d_P_startStraight_11 : decode b_P_startStraight 11 = .ok (.ifCond .eq 6, 3) := by decide +kernel
theorem d_P_startStraight_14 : decode b_P_startStraight 14 = .ok (.bipush 107, 2) := by decide +kernel
theorem d_P_startStraight_16 : decode b_P_startStraight 16 = .ok (.ireturn, 1) := by decide +kernel
theorem d_P_startStraight_17 : decode b_P_startStraight 17 = .ok (.aload_n 0, 1) := by decide +kernel
theorem d_P_startStraight_18 : decode b_P_startStraight 18 = .ok (.getfield 26, 3) := by decide +kernel
theorem d_P_startStraight_21 : decode b_P_startStraight 21 = .ok (.aload_n 0, 1) := by decide +kernel
theorem d_P_startStraight_22 : decode b_P_startStraight 22 = .ok (.getfield 71, 3) := by decide +kernel
theorem d_P_startStraight_25 : decode b_P_startStraight 25 = .ok (.aload_n 0, 1) := by decide +kernel
theorem d_P_startStraight_26 : decode b_P_startStraight 26 = .ok (.getfield 74, 3) := by decide +kernel
theorem d_P_startStraight_29 : decode b_P_startStraight 29 = .ok (.iload_n 1, 1) := by decide +kernel
theorem d_P_startStraight_30 : decode b_P_startStraight 30 = .ok (.aload_n 0, 1) := by decide +kernel
theorem d_P_startStraight_31 : decode b_P_startStraight 31 = .ok (.getfield 71, 3) := by decide +kernel
theorem d_P_startStraight_34 : decode b_P_startStraight 34 = .ok (.isub, 1) := by decide +kernel
theorem d_P_startStraight_35 : decode b_P_startStraight 35 = .ok (.iload_n 2, 1) := by decide +kernel
theorem d_P_startStraight_36 : decode b_P_startStraight 36 = .ok (.aload_n 0, 1) := by decide +kernel
theorem d_P_startStraight_37 : decode b_P_startStraight 37 = .ok (.getfield 74, 3) := by decide +kernel
theorem d_P_startStraight_40 : decode b_P_startStraight 40 = .ok (.isub, 1) := by decide +kernel
theorem d_P_startStraight_41 : decode b_P_startStraight 41 = .ok (.invokevirtual 161, 3) := by decide +kernel
theorem d_P_startStraight_44 : decode b_P_startStraight 44 = .ok (.aload_n 0, 1) := by decide +kernel
theorem d_P_startStraight_45 : decode b_P_startStraight 45 = .ok (.aload_n 0, 1) := by decide +kernel
theorem d_P_startStraight_46 : decode b_P_startStraight 46 = .ok (.getfield 26, 3) := by decide +kernel
theorem d_P_startStraight_49 : decode b_P_startStraight 49 = .ok (.invokevirtual 165, 3) := by decide +kernel
theorem d_P_startStraight_52 : decode b_P_startStraight 52 = .ok (.iconst 0, 1) := by decide +kernel
theorem d_P_startStraight_53 : decode b_P_startStraight 53 = .ok (.ireturn, 1) := by decide +kernel
theorem d_P_startArc_0 : decode b_P_startArc 0 = .ok (.aload_n 0, 1) := by decide +kernel
theorem d_P_startArc_1 : decode b_P_startArc 1 = .ok (.getfield 19, 3) := by decide +kernel
theorem d_P_startArc_4 : decode b_P_startArc 4 = .ok (.iconst 4, 1) := by decide +kernel
theorem d_P_startArc_5 : decode b_P_startArc 5 = .ok (.invokevirtual 141, 3) := by decide +kernel
theorem d_P_startArc_8 : decode b_P_startArc 8 = .ok (.istore_n 3, 1) := by decide +kernel
theorem d_P_startArc_9 : decode b_P_startArc 9 = .ok (.aload_n 0, 1) := by decide +kernel
theorem d_P_startArc_10 : decode b_P_startArc 10 = .ok (.getfield 19, 3) := by decide +kernel
theorem d_P_startArc_13 : decode b_P_startArc 13 = .ok (.iconst 5, 1) := by decide +kernel
theorem d_P_startArc_14 : decode b_P_startArc 14 = .ok (.invokevirtual 141, 3) := by decide +kernel
theorem d_P_startArc_17 : decode b_P_startArc 17 = .ok (.istore 4, 2) := by decide +kernel
theorem d_P_startArc_19 : decode b_P_startArc 19 = .ok (.aload_n 0, 1) := by decide +kernel
theorem d_P_startArc_20 : decode b_P_startArc 20 = .ok (.getfield 71, 3) := by decide +kernel
theorem d_P_startArc_23 : decode b_P_startArc 23 = .ok (.iload_n 3, 1) := by decide +kernel
theorem d_P_startArc_24 : decode b_P_startArc 24 = .ok (.iadd, 1) := by decide +kernel
theorem d_P_startArc_25 : decode b_P_startArc 25 = .ok (.istore 5, 2) := by decide +kernel
theorem d_P_startArc_27 : decode b_P_startArc 27 = .ok (.aload_n 0, 1) := by decide +kernel
theorem d_P_startArc_28 : decode b_P_startArc 28 = .ok (.getfield 74, 3) := by decide +kernel
theorem d_P_startArc_31 : decode b_P_startArc 31 = .ok (.iload 4, 2) := by decide +kernel
theorem d_P_startArc_33 : decode b_P_startArc 33 = .ok (.iadd, 1) := by decide +kernel
theorem d_P_startArc_34 : decode b_P_startArc 34 = .ok (.istore 6, 2) := by decide +kernel
theorem d_P_startArc_36 : decode b_P_startArc 36 = .ok (.iload_n 1, 1) := by decide +kernel
theorem d_P_startArc_37 : decode b_P_startArc 37 = .ok (.iload 5, 2) := by decide +kernel
theorem d_P_startArc_39 : decode b_P_startArc 39 = .ok (.isub, 1) := by decide +kernel
theorem d_P_startArc_40 : decode b_P_startArc 40 = .ok (.istore 7, 2) := by decide +kernel
theorem d_P_startArc_42 : decode b_P_startArc 42 = .ok (.iload_n 2, 1) := by decide +kernel
theorem d_P_startArc_43 : decode b_P_startArc 43 = .ok (.iload 6, 2) := by decide +kernel
theorem d_P_startArc_45 : decode b_P_startArc 45 = .ok (.isub, 1) := by decide +kernel
theorem d_P_startArc_46 : decode b_P_startArc 46 = .ok (.istore 8, 2) := by decide +kernel
theorem d_P_startArc_48 : decode b_P_startArc 48 = .ok (.iload_n 3, 1) := by decide +kernel
theorem d_P_startArc_49 : decode b_P_startArc 49 = .ok (.iload_n 3, 1) := by decide +kernel
theorem d_P_startArc_50 : decode b_P_startArc 50 = .ok (.imul, 1) := by decide +kernel
theorem d_P_startArc_51 : decode b_P_startArc 51 = .ok (.iload 4, 2) := by decide +kernel
theorem d_P_startArc_53 : decode b_P_startArc 53 = .ok (.iload 4, 2) := by decide +kernel
theorem d_P_startArc_55 : decode b_P_startArc 55 = .ok (.imul, 1) := by decide +kernel
theorem d_P_startArc_56 : decode b_P_startArc 56 = .ok (.iadd, 1) := by decide +kernel
theorem d_P_startArc_57 : decode b_P_startArc 57 = .ok (.istore 9, 2) := by decide +kernel
theorem d_P_startArc_59 : decode b_P_startArc 59 = .ok (.iload 9, 2) := by decide +kernel
theorem d_P_startArc_61 : decode b_P_startArc 61 = .ok (.ifCond .eq 19, 3) := by decide +kernel
theorem d_P_startArc_64 : decode b_P_startArc 64 = .ok (.iload 7, 2) := by decide +kernel
theorem d_P_startArc_66 : decode b_P_startArc 66 = .ok (.iload 7, 2) := by decide +kernel
theorem d_P_startArc_68 : decode b_P_startArc 68 = .ok (.imul, 1) := by decide +kernel
theorem d_P_startArc_69 : decode b_P_startArc 69 = .ok (.iload 8, 2) := by decide +kernel
theorem d_P_startArc_71 : decode b_P_startArc 71 = .ok (.iload 8, 2) := by decide +kernel
theorem d_P_startArc_73 : decode b_P_startArc 73 = .ok (.imul, 1) := by decide +kernel
theorem d_P_startArc_74 : decode b_P_startArc 74 = .ok (.iadd, 1) := by decide +kernel
theorem d_P_startArc_75 : decode b_P_startArc 75 = .ok (.iload 9, 2) := by decide +kernel
theorem d_P_startArc_77 : decode b_P_startArc 77 = .ok (.if_icmp .eq 6, 3) := by decide +kernel
theorem d_P_startArc_80 : decode b_P_startArc 80 = .ok (.bipush 106, 2) := by decide +kernel
theorem d_P_startArc_82 : decode b_P_startArc 82 = .ok (.ireturn, 1) := by decide +kernel
theorem d_P_startArc_83 : decode b_P_startArc 83 = .ok (.iload 9, 2) := by decide +kernel
theorem d_P_startArc_85 : decode b_P_startArc 85 = .ok (.invokestatic 169, 3) := by decide +kernel
theorem d_P_startArc_88 : decode b_P_startArc 88 = .ok (.istore 10, 2) := by decide +kernel
theorem d_P_startArc_90 : decode b_P_startArc 90 = .ok (.iload 5, 2) := by decide +kernel
theorem d_P_startArc_92 : decode b_P_startArc 92 = .ok (.iload 10, 2) := by decide +kernel
theorem d_P_startArc_94 : decode b_P_startArc 94 = .ok (.isub, 1) := by decide +kernel
theorem d_P_startArc_95 : decode b_P_startArc 95 = .ok (.invokestatic 158, 3) := by decide +kernel
theorem d_P_startArc_98 : decode b_P_startArc 98 = .ok (.ifCond .ne 36, 3) := by decide +kernel
theorem d_P_startArc_101 : decode b_P_startArc 101 = .ok (.iload 5, 2) := by decide +kernel
theorem d_P_startArc_103 : decode b_P_startArc 103 = .ok (.iload 10, 2) := by decide +kernel
theorem d_P_startArc_105 : decode b_P_startArc 105 = .ok (.iadd, 1) := by decide +kernel
theorem d_P_startArc_106 : decode b_P_startArc 106 = .ok (.invokestatic 158, 3) := by decide +kernel
theorem d_P_startArc_109 : decode b_P_startArc 109 = .ok (.ifCond .ne 25, 3) := by decide +kernel
theorem d_P_startArc_112 : decode b_P_startArc 112 = .ok (.iload 6, 2) := by decide +kernel
theorem d_P_startArc_114 : decode b_P_startArc 114 = .ok (.iload 10, 2) := by decide +kernel
theorem d_P_startArc_116 : decode b_P_startArc 116 = .ok (.isub, 1) := by decide +kernel
theorem d_P_startArc_117 : decode b_P_startArc 117 = .ok (.invokestatic 158, 3) := by decide +kernel
theorem d_P_startArc_120 : decode b_P_startArc 120 = .ok (.ifCond .ne 14, 3) := by decide +kernel
theorem d_P_startArc_123 : decode b_P_startArc 123 = .ok (.iload 6, 2) := by decide +kernel
theorem d_P_startArc_125 : decode b_P_startArc 125 = .ok (.iload 10, 2) := by decide +kernel
theorem d_P_startArc_127 : decode b_P_startArc 127 = .ok (.iadd, 1) := by decide +kernel
theorem d_P_startArc_128 : decode b_P_startArc 128 = .ok (.invokestatic 158, 3) := by decide +kernel
theorem d_P_startArc_131 : decode b_P_startArc 131 = .ok (.ifCond .eq 6, 3) := by decide +kernel
theorem d_P_startArc_134 : decode b_P_startArc 134 = .ok (.bipush 107, 2) := by decide +kernel
theorem d_P_startArc_136 : decode b_P_startArc 136 = .ok (.ireturn, 1) := by decide +kernel
theorem d_P_startArc_137 : decode b_P_startArc 137 = .ok (.aload_n 0, 1) := by decide +kernel
theorem d_P_startArc_138 : decode b_P_startArc 138 = .ok (.getfield 33, 3) := by decide +kernel
theorem d_P_startArc_141 : decode b_P_startArc 141 = .ok (.iload 5, 2) := by decide +kernel
theorem d_P_startArc_143 : decode b_P_startArc 143 = .ok (.iload 6, 2) := by decide +kernel
theorem d_P_startArc_145 : decode b_P_startArc 145 = .ok (.iload 9, 2) := by decide +kernel
theorem d_P_startArc_147 : decode b_P_startArc 147 = .ok (.invokevirtual 172, 3) := by decide +kernel
theorem d_P_startArc_150 : decode b_P_startArc 150 = .ok (.aload_n 0, 1) := by decide +kernel
theorem d_P_startArc_151 : decode b_P_startArc 151 = .ok (.getfield 33, 3) := by decide +kernel
theorem d_P_startArc_154 : decode b_P_startArc 154 = .ok (.iload_n 3, 1) := by decide +kernel
theorem d_P_startArc_155 : decode b_P_startArc 155 = .ok (.ineg, 1) := by decide +kernel
theorem d_P_startArc_156 : decode b_P_startArc 156 = .ok (.iload 4, 2) := by decide +kernel
theorem d_P_startArc_158 : decode b_P_startArc 158 = .ok (.ineg, 1) := by decide +kernel
theorem d_P_startArc_159 : decode b_P_startArc 159 = .ok (.iload 7, 2) := by decide +kernel
theorem d_P_startArc_161 : decode b_P_startArc 161 = .ok (.iload 8, 2) := by decide +kernel
theorem d_P_startArc_163 : decode b_P_startArc 163 = .ok (.aload_n 0, 1) := by decide +kernel
theorem d_P_startArc_164 : decode b_P_startArc 164 = .ok (.getfield 90, 3) := by decide +kernel
theorem d_P_startArc_167 : decode b_P_startArc 167 = .ok (.iconst 3, 1) := by decide +kernel
theorem d_P_startArc_168 : decode b_P_startArc 168 = .ok (.if_icmp .ne 7, 3) := by decide +kernel
theorem d_P_startArc_171 : decode b_P_startArc 171 = .ok (.iconst 1, 1) := by decide +kernel
theorem d_P_startArc_172 : decode b_P_startArc 172 = .ok (.goto 4, 3) := by decide +kernel
theorem d_P_startArc_175 : decode b_P_startArc 175 = .ok (.iconst 0, 1) := by decide +kernel
theorem d_P_startArc_176 : decode b_P_startArc 176 = .ok (.invokevirtual 175, 3) := by decide +kernel
theorem d_P_startArc_179 : decode b_P_startArc 179 = .ok (.aload_n 0, 1) := by decide +kernel
theorem d_P_startArc_180 : decode b_P_startArc 180 = .ok (.aload_n 0, 1) := by decide +kernel
theorem d_P_startArc_181 : decode b_P_startArc 181 = .ok (.getfield 33, 3) := by decide +kernel
theorem d_P_startArc_184 : decode b_P_startArc 184 = .ok (.invokevirtual 165, 3) := by decide +kernel
theorem d_P_startArc_187 : decode b_P_startArc 187 = .ok (.iconst 0, 1) := by decide +kernel
theorem d_P_startArc_188 : decode b_P_startArc 188 = .ok (.ireturn, 1) := by decide +kernel
theorem d_P_follow_0 : decode b_P_follow 0 = .ok (.aload_n 0, 1) := by decide +kernel
theorem d_P_follow_1 : decode b_P_follow 1 = .ok (.aload_n 1, 1) := by decide +kernel
theorem d_P_follow_2 : decode b_P_follow 2 = .ok (.putfield 37, 3) := by decide +kernel
theorem d_P_follow_5 : decode b_P_follow 5 = .ok (.aload_n 0, 1) := by decide +kernel
theorem d_P_follow_6 : decode b_P_follow 6 = .ok (.iconst 0, 1) := by decide +kernel
theorem d_P_follow_7 : decode b_P_follow 7 = .ok (.putfield 51, 3) := by decide +kernel
theorem d_P_follow_10 : decode b_P_follow 10 = .ok (.aload_n 0, 1) := by decide +kernel
theorem d_P_follow_11 : decode b_P_follow 11 = .ok (.aload_n 1, 1) := by decide +kernel
theorem d_P_follow_12 : decode b_P_follow 12 = .ok (.invokevirtual 179, 3) := by decide +kernel
theorem d_P_follow_15 : decode b_P_follow 15 = .ok (.putfield 55, 3) := by decide +kernel
theorem d_P_follow_18 : decode b_P_follow 18 = .ok (.return_, 1) := by decide +kernel
theorem d_P_isOutside_0 : decode b_P_isOutside 0 = .ok (.iload_n 0, 1) := by decide +kernel
theorem d_P_isOutside_1 : decode b_P_isOutside 1 = .ok (.sipush (-200), 3) := by decide +kernel
theorem d_P_isOutside_4 : decode b_P_isOutside 4 = .ok (.if_icmp .lt 10, 3) := by decide +kernel
theorem d_P_isOutside_7 : decode b_P_isOutside 7 = .ok (.iload_n 0, 1) := by decide +kernel
theorem d_P_isOutside_8 : decode b_P_isOutside 8 = .ok (.sipush 200, 3) := by decide +kernel
theorem d_P_isOutside_11 : decode b_P_isOutside 11 = .ok (.if_icmp .le 7, 3) := by decide +kernel
theorem d_P_isOutside_14 : decode b_P_isOutside 14 = .ok (.iconst 1, 1) := by decide +kernel
theorem d_P_isOutside_15 : decode b_P_isOutside 15 = .ok (.goto 4, 3) := by decide +kernel
theorem d_P_isOutside_18 : decode b_P_isOutside 18 = .ok (.iconst 0, 1) := by decide +kernel
theorem d_P_isOutside_19 : decode b_P_isOutside 19 = .ok (.ireturn, 1) := by decide +kernel
def wp_P_begin (p_done p_left p_nextLineStart p_line p_state p_ending p_x p_y : Int32) (p_time : Int64) (p_pulses p_last p_feedRate p_motion p_relative : Int32) (Q : Int32 → Int32 → Int32 → Int32 → Int32 → Int32 → Int32 → Int32 → Int64 → Int32 → Int32 → Int32 → Int32 → Int32 → Prop) : Prop := (Q (0 : Int32) (0 : Int32) (0 : Int32) (0 : Int32) (0 : Int32) (0 : Int32) (0 : Int32) (0 : Int32) (0 : Int64) (0 : Int32) (4 : Int32) (0 : Int32) (0 : Int32) (0 : Int32))
abbrev rm_P_begin : Room := { frames := 0, cells := 0, slots := 0, locals := 0 }
set_option maxRecDepth 100000 in
set_option maxHeartbeats 4000000 in
theorem c_P_begin (l : Launch) {D : va_G} {X : xT} {a : Nat → Nat} {K : Nat → ClassId} {tl : va_W} {p_way : Bool} {p_done p_left p_nextLineStart p_line p_state p_ending p_x p_y : Int32} {p_time : Int64} {p_pulses p_last p_feedRate p_motion p_relative : Int32} {Q : Int32 → Int32 → Int32 → Int32 → Int32 → Int32 → Int32 → Int32 → Int64 → Int32 → Int32 → Int32 → Int32 → Int32 → Prop} : MV l y_P_begin b_P_begin 1 rm_P_begin D cls (tys K) X [.ref (a 0)] ((o_P a p_way p_done p_left p_nextLineStart p_line p_state p_ending p_x p_y p_time p_pulses p_last p_feedRate p_motion p_relative) :: tl) (fun u : Int32 × Int32 × Int32 × Int32 × Int32 × Int32 × Int32 × Int32 × Int64 × Int32 × Int32 × Int32 × Int32 × Int32 => (o_P a p_way u.1 u.2.1 u.2.2.1 u.2.2.2.1 u.2.2.2.2.1 u.2.2.2.2.2.1 u.2.2.2.2.2.2.1 u.2.2.2.2.2.2.2.1 u.2.2.2.2.2.2.2.2.1 u.2.2.2.2.2.2.2.2.2.1 u.2.2.2.2.2.2.2.2.2.2.1 u.2.2.2.2.2.2.2.2.2.2.2.1 u.2.2.2.2.2.2.2.2.2.2.2.2.1 u.2.2.2.2.2.2.2.2.2.2.2.2.2) :: tl) (wp_P_begin p_done p_left p_nextLineStart p_line p_state p_ending p_x p_y p_time p_pulses p_last p_feedRate p_motion p_relative Q) (fun u => Q u.1 u.2.1 u.2.2.1 u.2.2.2.1 u.2.2.2.2.1 u.2.2.2.2.2.1 u.2.2.2.2.2.2.1 u.2.2.2.2.2.2.2.1 u.2.2.2.2.2.2.2.2.1 u.2.2.2.2.2.2.2.2.2.1 u.2.2.2.2.2.2.2.2.2.2.1 u.2.2.2.2.2.2.2.2.2.2.2.1 u.2.2.2.2.2.2.2.2.2.2.2.2.1 u.2.2.2.2.2.2.2.2.2.2.2.2.2) := by
  refine my_of_V (by decide +kernel) (Nat.le_of_ble_eq_true rfl) (fun p e s m args below meth c A QQ H locs ls hx hb hts hown hml hK hX hA hP hD hS hl hw hret => ?_)
  replace hl : lv_has ls 1 [(0, .ref (a 0))] := hl
  unfold wp_P_begin at hw
  refine lv_aload_n hx hb d_P_begin_0 rfl (lv_at hl 0 rfl) ?_
  refine lv_iconst (v := (0 : Int32)) hx hb d_P_begin_1 (by decide) ?_
  refine u_P_done hx hb hts hown hK hP hD hS 0 rfl rfl d_P_begin_2 (fun H locs hP hD hS => ?_)
  have hP : va_P D cls ((o_P a p_way (0 : Int32) p_left p_nextLineStart p_line p_state p_ending p_x p_y p_time p_pulses p_last p_feedRate p_motion p_relative) :: tl) H := hP
  have hD : va_D A ((o_P a p_way (0 : Int32) p_left p_nextLineStart p_line p_state p_ending p_x p_y p_time p_pulses p_last p_feedRate p_motion p_relative) :: tl) := hD
  refine lv_aload_n hx hb d_P_begin_5 rfl (lv_at hl 0 rfl) ?_
  refine lv_iconst (v := (0 : Int32)) hx hb d_P_begin_6 (by decide) ?_
  refine u_P_left hx hb hts hown hK hP hD hS 0 rfl rfl d_P_begin_7 (fun H locs hP hD hS => ?_)
  have hP : va_P D cls ((o_P a p_way (0 : Int32) (0 : Int32) p_nextLineStart p_line p_state p_ending p_x p_y p_time p_pulses p_last p_feedRate p_motion p_relative) :: tl) H := hP
  have hD : va_D A ((o_P a p_way (0 : Int32) (0 : Int32) p_nextLineStart p_line p_state p_ending p_x p_y p_time p_pulses p_last p_feedRate p_motion p_relative) :: tl) := hD
  refine lv_aload_n hx hb d_P_begin_10 rfl (lv_at hl 0 rfl) ?_
  refine lv_iconst (v := (0 : Int32)) hx hb d_P_begin_11 (by decide) ?_
  refine u_P_nextLineStart hx hb hts hown hK hP hD hS 0 rfl rfl d_P_begin_12 (fun H locs hP hD hS => ?_)
  have hP : va_P D cls ((o_P a p_way (0 : Int32) (0 : Int32) (0 : Int32) p_line p_state p_ending p_x p_y p_time p_pulses p_last p_feedRate p_motion p_relative) :: tl) H := hP
  have hD : va_D A ((o_P a p_way (0 : Int32) (0 : Int32) (0 : Int32) p_line p_state p_ending p_x p_y p_time p_pulses p_last p_feedRate p_motion p_relative) :: tl) := hD
  refine lv_aload_n hx hb d_P_begin_15 rfl (lv_at hl 0 rfl) ?_
  refine lv_iconst (v := (0 : Int32)) hx hb d_P_begin_16 (by decide) ?_
  refine u_P_line hx hb hts hown hK hP hD hS 0 rfl rfl d_P_begin_17 (fun H locs hP hD hS => ?_)
  have hP : va_P D cls ((o_P a p_way (0 : Int32) (0 : Int32) (0 : Int32) (0 : Int32) p_state p_ending p_x p_y p_time p_pulses p_last p_feedRate p_motion p_relative) :: tl) H := hP
  have hD : va_D A ((o_P a p_way (0 : Int32) (0 : Int32) (0 : Int32) (0 : Int32) p_state p_ending p_x p_y p_time p_pulses p_last p_feedRate p_motion p_relative) :: tl) := hD
  refine lv_aload_n hx hb d_P_begin_20 rfl (lv_at hl 0 rfl) ?_
  refine lv_iconst (v := (0 : Int32)) hx hb d_P_begin_21 (by decide) ?_
  refine u_P_state hx hb hts hown hK hP hD hS 0 rfl rfl d_P_begin_22 (fun H locs hP hD hS => ?_)
  have hP : va_P D cls ((o_P a p_way (0 : Int32) (0 : Int32) (0 : Int32) (0 : Int32) (0 : Int32) p_ending p_x p_y p_time p_pulses p_last p_feedRate p_motion p_relative) :: tl) H := hP
  have hD : va_D A ((o_P a p_way (0 : Int32) (0 : Int32) (0 : Int32) (0 : Int32) (0 : Int32) p_ending p_x p_y p_time p_pulses p_last p_feedRate p_motion p_relative) :: tl) := hD
  refine lv_aload_n hx hb d_P_begin_25 rfl (lv_at hl 0 rfl) ?_
  refine lv_iconst (v := (0 : Int32)) hx hb d_P_begin_26 (by decide) ?_
  refine u_P_ending hx hb hts hown hK hP hD hS 0 rfl rfl (Or.inl rfl) d_P_begin_27 (fun H locs hP hD hS => ?_)
  have hP : va_P D cls ((o_P a p_way (0 : Int32) (0 : Int32) (0 : Int32) (0 : Int32) (0 : Int32) (0 : Int32) p_x p_y p_time p_pulses p_last p_feedRate p_motion p_relative) :: tl) H := hP
  have hD : va_D A ((o_P a p_way (0 : Int32) (0 : Int32) (0 : Int32) (0 : Int32) (0 : Int32) (0 : Int32) p_x p_y p_time p_pulses p_last p_feedRate p_motion p_relative) :: tl) := hD
  refine lv_aload_n hx hb d_P_begin_30 rfl (lv_at hl 0 rfl) ?_
  refine lv_iconst (v := (0 : Int32)) hx hb d_P_begin_31 (by decide) ?_
  refine u_P_x hx hb hts hown hK hP hD hS 0 rfl rfl d_P_begin_32 (fun H locs hP hD hS => ?_)
  have hP : va_P D cls ((o_P a p_way (0 : Int32) (0 : Int32) (0 : Int32) (0 : Int32) (0 : Int32) (0 : Int32) (0 : Int32) p_y p_time p_pulses p_last p_feedRate p_motion p_relative) :: tl) H := hP
  have hD : va_D A ((o_P a p_way (0 : Int32) (0 : Int32) (0 : Int32) (0 : Int32) (0 : Int32) (0 : Int32) (0 : Int32) p_y p_time p_pulses p_last p_feedRate p_motion p_relative) :: tl) := hD
  refine lv_aload_n hx hb d_P_begin_35 rfl (lv_at hl 0 rfl) ?_
  refine lv_iconst (v := (0 : Int32)) hx hb d_P_begin_36 (by decide) ?_
  refine u_P_y hx hb hts hown hK hP hD hS 0 rfl rfl d_P_begin_37 (fun H locs hP hD hS => ?_)
  have hP : va_P D cls ((o_P a p_way (0 : Int32) (0 : Int32) (0 : Int32) (0 : Int32) (0 : Int32) (0 : Int32) (0 : Int32) (0 : Int32) p_time p_pulses p_last p_feedRate p_motion p_relative) :: tl) H := hP
  have hD : va_D A ((o_P a p_way (0 : Int32) (0 : Int32) (0 : Int32) (0 : Int32) (0 : Int32) (0 : Int32) (0 : Int32) (0 : Int32) p_time p_pulses p_last p_feedRate p_motion p_relative) :: tl) := hD
  refine lv_aload_n hx hb d_P_begin_40 rfl (lv_at hl 0 rfl) ?_
  refine lv_lconst (v := (0 : Int64)) hx hb d_P_begin_41 (by decide) ?_
  refine u_P_time hx hb hts hown hK hP hD hS 0 rfl rfl d_P_begin_42 (fun H locs hP hD hS => ?_)
  have hP : va_P D cls ((o_P a p_way (0 : Int32) (0 : Int32) (0 : Int32) (0 : Int32) (0 : Int32) (0 : Int32) (0 : Int32) (0 : Int32) (0 : Int64) p_pulses p_last p_feedRate p_motion p_relative) :: tl) H := hP
  have hD : va_D A ((o_P a p_way (0 : Int32) (0 : Int32) (0 : Int32) (0 : Int32) (0 : Int32) (0 : Int32) (0 : Int32) (0 : Int32) (0 : Int64) p_pulses p_last p_feedRate p_motion p_relative) :: tl) := hD
  refine lv_aload_n hx hb d_P_begin_45 rfl (lv_at hl 0 rfl) ?_
  refine lv_iconst (v := (0 : Int32)) hx hb d_P_begin_46 (by decide) ?_
  refine u_P_pulses hx hb hts hown hK hP hD hS 0 rfl rfl d_P_begin_47 (fun H locs hP hD hS => ?_)
  have hP : va_P D cls ((o_P a p_way (0 : Int32) (0 : Int32) (0 : Int32) (0 : Int32) (0 : Int32) (0 : Int32) (0 : Int32) (0 : Int32) (0 : Int64) (0 : Int32) p_last p_feedRate p_motion p_relative) :: tl) H := hP
  have hD : va_D A ((o_P a p_way (0 : Int32) (0 : Int32) (0 : Int32) (0 : Int32) (0 : Int32) (0 : Int32) (0 : Int32) (0 : Int32) (0 : Int64) (0 : Int32) p_last p_feedRate p_motion p_relative) :: tl) := hD
  refine lv_aload_n hx hb d_P_begin_50 rfl (lv_at hl 0 rfl) ?_
  refine lv_iconst (v := (4 : Int32)) hx hb d_P_begin_51 (by decide) ?_
  refine u_P_last hx hb hts hown hK hP hD hS 0 rfl rfl d_P_begin_52 (fun H locs hP hD hS => ?_)
  have hP : va_P D cls ((o_P a p_way (0 : Int32) (0 : Int32) (0 : Int32) (0 : Int32) (0 : Int32) (0 : Int32) (0 : Int32) (0 : Int32) (0 : Int64) (0 : Int32) (4 : Int32) p_feedRate p_motion p_relative) :: tl) H := hP
  have hD : va_D A ((o_P a p_way (0 : Int32) (0 : Int32) (0 : Int32) (0 : Int32) (0 : Int32) (0 : Int32) (0 : Int32) (0 : Int32) (0 : Int64) (0 : Int32) (4 : Int32) p_feedRate p_motion p_relative) :: tl) := hD
  refine lv_aload_n hx hb d_P_begin_55 rfl (lv_at hl 0 rfl) ?_
  refine lv_iconst (v := (0 : Int32)) hx hb d_P_begin_56 (by decide) ?_
  refine u_P_feedRate hx hb hts hown hK hP hD hS 0 rfl rfl d_P_begin_57 (fun H locs hP hD hS => ?_)
  have hP : va_P D cls ((o_P a p_way (0 : Int32) (0 : Int32) (0 : Int32) (0 : Int32) (0 : Int32) (0 : Int32) (0 : Int32) (0 : Int32) (0 : Int64) (0 : Int32) (4 : Int32) (0 : Int32) p_motion p_relative) :: tl) H := hP
  have hD : va_D A ((o_P a p_way (0 : Int32) (0 : Int32) (0 : Int32) (0 : Int32) (0 : Int32) (0 : Int32) (0 : Int32) (0 : Int32) (0 : Int64) (0 : Int32) (4 : Int32) (0 : Int32) p_motion p_relative) :: tl) := hD
  refine lv_aload_n hx hb d_P_begin_60 rfl (lv_at hl 0 rfl) ?_
  refine lv_iconst (v := (0 : Int32)) hx hb d_P_begin_61 (by decide) ?_
  refine u_P_motion hx hb hts hown hK hP hD hS 0 rfl rfl d_P_begin_62 (fun H locs hP hD hS => ?_)
  have hP : va_P D cls ((o_P a p_way (0 : Int32) (0 : Int32) (0 : Int32) (0 : Int32) (0 : Int32) (0 : Int32) (0 : Int32) (0 : Int32) (0 : Int64) (0 : Int32) (4 : Int32) (0 : Int32) (0 : Int32) p_relative) :: tl) H := hP
  have hD : va_D A ((o_P a p_way (0 : Int32) (0 : Int32) (0 : Int32) (0 : Int32) (0 : Int32) (0 : Int32) (0 : Int32) (0 : Int32) (0 : Int64) (0 : Int32) (4 : Int32) (0 : Int32) (0 : Int32) p_relative) :: tl) := hD
  refine lv_aload_n hx hb d_P_begin_65 rfl (lv_at hl 0 rfl) ?_
  refine lv_iconst (v := (0 : Int32)) hx hb d_P_begin_66 (by decide) ?_
  refine u_P_relative hx hb hts hown hK hP hD hS 0 rfl rfl (Or.inl rfl) d_P_begin_67 (fun H locs hP hD hS => ?_)
  have hP : va_P D cls ((o_P a p_way (0 : Int32) (0 : Int32) (0 : Int32) (0 : Int32) (0 : Int32) (0 : Int32) (0 : Int32) (0 : Int32) (0 : Int64) (0 : Int32) (4 : Int32) (0 : Int32) (0 : Int32) (0 : Int32)) :: tl) H := hP
  have hD : va_D A ((o_P a p_way (0 : Int32) (0 : Int32) (0 : Int32) (0 : Int32) (0 : Int32) (0 : Int32) (0 : Int32) (0 : Int32) (0 : Int64) (0 : Int32) (4 : Int32) (0 : Int32) (0 : Int32) (0 : Int32)) :: tl) := hD
  exact hret H locs ls 70 (((0 : Int32), (0 : Int32), (0 : Int32), (0 : Int32), (0 : Int32), (0 : Int32), (0 : Int32), (0 : Int32), (0 : Int64), (0 : Int32), (4 : Int32), (0 : Int32), (0 : Int32), (0 : Int32))) d_P_begin_70 hP hD hS hw
def wp_P_feed (x1 p_done p_left p_nextLineStart p_line p_state p_ending p_x p_y : Int32) (p_time : Int64) (p_pulses p_last p_feedRate p_motion p_relative t_size : Int32) (tc : Nat → Int32) (Q : Int32 → Int32 → Int32 → Int32 → Int32 → Int32 → Int32 → Int32 → Int32 → Int64 → Int32 → Int32 → Int32 → Int32 → Int32 → Int32 → (Nat → Int32) → Prop) : Prop := (wp_T_append x1 t_size tc (fun r5 t_size_5 tc_5 => ((r5 < 0 → (Q r5 p_done p_left p_nextLineStart p_line p_state p_ending p_x p_y p_time p_pulses p_last p_feedRate p_motion p_relative t_size_5 tc_5)) ∧ (¬ r5 < 0 → (wp_P_begin p_done p_left p_nextLineStart p_line p_state p_ending p_x p_y p_time p_pulses p_last p_feedRate p_motion p_relative (fun p_done_14 p_left_14 p_nextLineStart_14 p_line_14 p_state_14 p_ending_14 p_x_14 p_y_14 p_time_14 p_pulses_14 p_last_14 p_feedRate_14 p_motion_14 p_relative_14 => (Q r5 p_done_14 p_left_14 p_nextLineStart_14 p_line_14 p_state_14 p_ending_14 p_x_14 p_y_14 p_time_14 p_pulses_14 p_last_14 p_feedRate_14 p_motion_14 p_relative_14 t_size_5 tc_5)))))))
abbrev rm_P_feed : Room := { frames := 2, cells := 0, slots := 0, locals := 44 }
set_option maxRecDepth 100000 in
set_option maxHeartbeats 4000000 in
theorem c_P_feed (l : Launch) {D : va_G} {X : xT} {a : Nat → Nat} {K : Nat → ClassId} {tl : va_W} {x1 : Int32} {p_way : Bool} {p_done p_left p_nextLineStart p_line p_state p_ending p_x p_y : Int32} {p_time : Int64} {p_pulses p_last p_feedRate p_motion p_relative t_size : Int32} {tc : Nat → Int32} {Q : Int32 → Int32 → Int32 → Int32 → Int32 → Int32 → Int32 → Int32 → Int32 → Int64 → Int32 → Int32 → Int32 → Int32 → Int32 → Int32 → (Nat → Int32) → Prop} : MI l y_P_feed b_P_feed 3 rm_P_feed D cls (tys K) X [.ref (a 0), .int x1] ((o_P a p_way p_done p_left p_nextLineStart p_line p_state p_ending p_x p_y p_time p_pulses p_last p_feedRate p_motion p_relative) :: (o_T a t_size) :: (o_tc a K tc) :: tl) (fun u : Int32 × Int32 × Int32 × Int32 × Int32 × Int32 × Int32 × Int32 × Int64 × Int32 × Int32 × Int32 × Int32 × Int32 × Int32 × (Nat → Int32) => (o_P a p_way u.1 u.2.1 u.2.2.1 u.2.2.2.1 u.2.2.2.2.1 u.2.2.2.2.2.1 u.2.2.2.2.2.2.1 u.2.2.2.2.2.2.2.1 u.2.2.2.2.2.2.2.2.1 u.2.2.2.2.2.2.2.2.2.1 u.2.2.2.2.2.2.2.2.2.2.1 u.2.2.2.2.2.2.2.2.2.2.2.1 u.2.2.2.2.2.2.2.2.2.2.2.2.1 u.2.2.2.2.2.2.2.2.2.2.2.2.2.1) :: (o_T a u.2.2.2.2.2.2.2.2.2.2.2.2.2.2.1) :: (o_tc a K u.2.2.2.2.2.2.2.2.2.2.2.2.2.2.2) :: tl) (wp_P_feed x1 p_done p_left p_nextLineStart p_line p_state p_ending p_x p_y p_time p_pulses p_last p_feedRate p_motion p_relative t_size tc Q) (fun r u => Q r u.1 u.2.1 u.2.2.1 u.2.2.2.1 u.2.2.2.2.1 u.2.2.2.2.2.1 u.2.2.2.2.2.2.1 u.2.2.2.2.2.2.2.1 u.2.2.2.2.2.2.2.2.1 u.2.2.2.2.2.2.2.2.2.1 u.2.2.2.2.2.2.2.2.2.2.1 u.2.2.2.2.2.2.2.2.2.2.2.1 u.2.2.2.2.2.2.2.2.2.2.2.2.1 u.2.2.2.2.2.2.2.2.2.2.2.2.2.1 u.2.2.2.2.2.2.2.2.2.2.2.2.2.2.1 u.2.2.2.2.2.2.2.2.2.2.2.2.2.2.2) := by
  refine my_of_I (by decide +kernel) (Nat.le_of_ble_eq_true rfl) (fun p e s m args below meth c A QQ H locs ls hx hb hts hown hml hK hX hA hP hD hS hl hw hret => ?_)
  replace hl : lv_has ls 3 [(0, .ref (a 0)), (1, .int x1)] := hl
  unfold wp_P_feed at hw
  refine lv_aload_n hx hb d_P_feed_0 rfl (lv_at hl 0 rfl) ?_
  refine g_P_text hx hb hts hown hK hP 0 rfl rfl d_P_feed_1 ?_
  refine lv_iload_n hx hb d_P_feed_4 rfl (lv_at hl 1 rfl) ?_
  refine my_calli (va_runV (As := [.int x1]) (rest := []) ⟨hx, hb, hml, hown, hts⟩ (c_T_append l H.size) (cw_P_44 hts ⟨Nat.le_of_ble_eq_true rfl, Nat.le_of_ble_eq_true rfl⟩) (my_preV hK hP hX hD hS hA 1 rfl rfl hw) rfl rfl hl.1 rfl (lv_room (Nat.le_of_ble_eq_true rfl)) d_P_feed_5 ⟨Nat.le_refl _, Nat.le_refl _⟩) hD hS hA (fun r5 u H locs hw hP hD hS => ?_)
  obtain ⟨t_size_5, tc_5⟩ := u
  dsimp only at hw
  have hP : va_P D cls ((o_P a p_way p_done p_left p_nextLineStart p_line p_state p_ending p_x p_y p_time p_pulses p_last p_feedRate p_motion p_relative) :: (o_T a t_size_5) :: (o_tc a K tc_5) :: tl) H := hP
  have hD : va_D A ((o_P a p_way p_done p_left p_nextLineStart p_line p_state p_ending p_x p_y p_time p_pulses p_last p_feedRate p_motion p_relative) :: (o_T a t_size_5) :: (o_tc a K tc_5) :: tl) := hD
  refine lv_istore_n (lv' := [(2, .int r5), (0, .ref (a 0)), (1, .int x1)]) hx hb d_P_feed_8 rfl hl (Nat.le_of_ble_eq_true rfl) rfl (fun ls hl => ?_)
  refine lv_iload_n hx hb d_P_feed_9 rfl (lv_at hl 0 rfl) ?_
  refine lv_if_lt (tgt := 17) hx hb d_P_feed_10 (by decide) (fun hc => ?_) (fun hc => ?_)
  · replace hw := hw.1 hc
    refine lv_iload_n hx hb d_P_feed_17 rfl (lv_at hl 0 rfl) ?_
    exact hret H locs ls 18 (r5) ((p_done, p_left, p_nextLineStart, p_line, p_state, p_ending, p_x, p_y, p_time, p_pulses, p_last, p_feedRate, p_motion, p_relative, t_size_5, tc_5)) d_P_feed_18 hP hD hS hw
  · replace hw := hw.2 hc
    refine lv_aload_n hx hb d_P_feed_13 rfl (lv_at hl 1 rfl) ?_
    refine my_callv (va_runV (As := []) (rest := []) ⟨hx, hb, hml, hown, hts⟩ (c_P_begin l H.size) (cw_P_41 hts ⟨Nat.le_of_ble_eq_true rfl, Nat.le_of_ble_eq_true rfl⟩) (my_preV hK hP hX hD hS hA 0 rfl rfl hw) rfl rfl hl.1 rfl (lv_room (Nat.le_of_ble_eq_true rfl)) d_P_feed_14 ⟨Nat.le_refl _, Nat.le_refl _⟩) hD hS hA (fun u H locs hw hP hD hS => ?_)
    obtain ⟨p_done_14, p_left_14, p_nextLineStart_14, p_line_14, p_state_14, p_ending_14, p_x_14, p_y_14, p_time_14, p_pulses_14, p_last_14, p_feedRate_14, p_motion_14, p_relative_14⟩ := u
    dsimp only at hw
    have hP : va_P D cls ((o_P a p_way p_done_14 p_left_14 p_nextLineStart_14 p_line_14 p_state_14 p_ending_14 p_x_14 p_y_14 p_time_14 p_pulses_14 p_last_14 p_feedRate_14 p_motion_14 p_relative_14) :: (o_T a t_size_5) :: (o_tc a K tc_5) :: tl) H := hP
    have hD : va_D A ((o_P a p_way p_done_14 p_left_14 p_nextLineStart_14 p_line_14 p_state_14 p_ending_14 p_x_14 p_y_14 p_time_14 p_pulses_14 p_last_14 p_feedRate_14 p_motion_14 p_relative_14) :: (o_T a t_size_5) :: (o_tc a K tc_5) :: tl) := hD
    refine lv_iload_n hx hb d_P_feed_17 rfl (lv_at hl 0 rfl) ?_
    exact hret H locs ls 18 (r5) ((p_done_14, p_left_14, p_nextLineStart_14, p_line_14, p_state_14, p_ending_14, p_x_14, p_y_14, p_time_14, p_pulses_14, p_last_14, p_feedRate_14, p_motion_14, p_relative_14, t_size_5, tc_5)) d_P_feed_18 hP hD hS hw
def wp_P_clear (p_done p_left p_nextLineStart p_line p_state p_ending p_x p_y : Int32) (p_time : Int64) (p_pulses p_last p_feedRate p_motion p_relative t_size : Int32) (Q : Int32 → Int32 → Int32 → Int32 → Int32 → Int32 → Int32 → Int32 → Int64 → Int32 → Int32 → Int32 → Int32 → Int32 → Int32 → Prop) : Prop := (wp_T_empty t_size (fun t_size_4 => (wp_P_begin p_done p_left p_nextLineStart p_line p_state p_ending p_x p_y p_time p_pulses p_last p_feedRate p_motion p_relative (fun p_done_8 p_left_8 p_nextLineStart_8 p_line_8 p_state_8 p_ending_8 p_x_8 p_y_8 p_time_8 p_pulses_8 p_last_8 p_feedRate_8 p_motion_8 p_relative_8 => (Q p_done_8 p_left_8 p_nextLineStart_8 p_line_8 p_state_8 p_ending_8 p_x_8 p_y_8 p_time_8 p_pulses_8 p_last_8 p_feedRate_8 p_motion_8 p_relative_8 t_size_4)))))
abbrev rm_P_clear : Room := { frames := 1, cells := 0, slots := 0, locals := 20 }
set_option maxRecDepth 100000 in
set_option maxHeartbeats 4000000 in
theorem c_P_clear (l : Launch) {D : va_G} {X : xT} {a : Nat → Nat} {K : Nat → ClassId} {tl : va_W} {p_way : Bool} {p_done p_left p_nextLineStart p_line p_state p_ending p_x p_y : Int32} {p_time : Int64} {p_pulses p_last p_feedRate p_motion p_relative t_size : Int32} {Q : Int32 → Int32 → Int32 → Int32 → Int32 → Int32 → Int32 → Int32 → Int64 → Int32 → Int32 → Int32 → Int32 → Int32 → Int32 → Prop} : MV l y_P_clear b_P_clear 1 rm_P_clear D cls (tys K) X [.ref (a 0)] ((o_P a p_way p_done p_left p_nextLineStart p_line p_state p_ending p_x p_y p_time p_pulses p_last p_feedRate p_motion p_relative) :: (o_T a t_size) :: tl) (fun u : Int32 × Int32 × Int32 × Int32 × Int32 × Int32 × Int32 × Int32 × Int64 × Int32 × Int32 × Int32 × Int32 × Int32 × Int32 => (o_P a p_way u.1 u.2.1 u.2.2.1 u.2.2.2.1 u.2.2.2.2.1 u.2.2.2.2.2.1 u.2.2.2.2.2.2.1 u.2.2.2.2.2.2.2.1 u.2.2.2.2.2.2.2.2.1 u.2.2.2.2.2.2.2.2.2.1 u.2.2.2.2.2.2.2.2.2.2.1 u.2.2.2.2.2.2.2.2.2.2.2.1 u.2.2.2.2.2.2.2.2.2.2.2.2.1 u.2.2.2.2.2.2.2.2.2.2.2.2.2.1) :: (o_T a u.2.2.2.2.2.2.2.2.2.2.2.2.2.2) :: tl) (wp_P_clear p_done p_left p_nextLineStart p_line p_state p_ending p_x p_y p_time p_pulses p_last p_feedRate p_motion p_relative t_size Q) (fun u => Q u.1 u.2.1 u.2.2.1 u.2.2.2.1 u.2.2.2.2.1 u.2.2.2.2.2.1 u.2.2.2.2.2.2.1 u.2.2.2.2.2.2.2.1 u.2.2.2.2.2.2.2.2.1 u.2.2.2.2.2.2.2.2.2.1 u.2.2.2.2.2.2.2.2.2.2.1 u.2.2.2.2.2.2.2.2.2.2.2.1 u.2.2.2.2.2.2.2.2.2.2.2.2.1 u.2.2.2.2.2.2.2.2.2.2.2.2.2.1 u.2.2.2.2.2.2.2.2.2.2.2.2.2.2) := by
  refine my_of_V (by decide +kernel) (Nat.le_of_ble_eq_true rfl) (fun p e s m args below meth c A QQ H locs ls hx hb hts hown hml hK hX hA hP hD hS hl hw hret => ?_)
  replace hl : lv_has ls 1 [(0, .ref (a 0))] := hl
  unfold wp_P_clear at hw
  refine lv_aload_n hx hb d_P_clear_0 rfl (lv_at hl 0 rfl) ?_
  refine g_P_text hx hb hts hown hK hP 0 rfl rfl d_P_clear_1 ?_
  refine my_callv (va_runV (As := []) (rest := []) ⟨hx, hb, hml, hown, hts⟩ (c_T_empty l H.size) (cw_P_48 hts ⟨Nat.le_of_ble_eq_true rfl, Nat.le_of_ble_eq_true rfl⟩) (my_preV hK hP hX hD hS hA 1 rfl rfl hw) rfl rfl hl.1 rfl (lv_room (Nat.le_of_ble_eq_true rfl)) d_P_clear_4 ⟨Nat.le_refl _, Nat.le_refl _⟩) hD hS hA (fun t_size_4 H locs hw hP hD hS => ?_)
  have hP : va_P D cls ((o_P a p_way p_done p_left p_nextLineStart p_line p_state p_ending p_x p_y p_time p_pulses p_last p_feedRate p_motion p_relative) :: (o_T a t_size_4) :: tl) H := hP
  have hD : va_D A ((o_P a p_way p_done p_left p_nextLineStart p_line p_state p_ending p_x p_y p_time p_pulses p_last p_feedRate p_motion p_relative) :: (o_T a t_size_4) :: tl) := hD
  refine lv_aload_n hx hb d_P_clear_7 rfl (lv_at hl 0 rfl) ?_
  refine my_callv (va_runV (As := []) (rest := []) ⟨hx, hb, hml, hown, hts⟩ (c_P_begin l H.size) (cw_P_41 hts ⟨Nat.le_of_ble_eq_true rfl, Nat.le_of_ble_eq_true rfl⟩) (my_preV hK hP hX hD hS hA 0 rfl rfl hw) rfl rfl hl.1 rfl (lv_room (Nat.le_of_ble_eq_true rfl)) d_P_clear_8 ⟨Nat.le_refl _, Nat.le_refl _⟩) hD hS hA (fun u H locs hw hP hD hS => ?_)
  obtain ⟨p_done_8, p_left_8, p_nextLineStart_8, p_line_8, p_state_8, p_ending_8, p_x_8, p_y_8, p_time_8, p_pulses_8, p_last_8, p_feedRate_8, p_motion_8, p_relative_8⟩ := u
  dsimp only at hw
  have hP : va_P D cls ((o_P a p_way p_done_8 p_left_8 p_nextLineStart_8 p_line_8 p_state_8 p_ending_8 p_x_8 p_y_8 p_time_8 p_pulses_8 p_last_8 p_feedRate_8 p_motion_8 p_relative_8) :: (o_T a t_size_4) :: tl) H := hP
  have hD : va_D A ((o_P a p_way p_done_8 p_left_8 p_nextLineStart_8 p_line_8 p_state_8 p_ending_8 p_x_8 p_y_8 p_time_8 p_pulses_8 p_last_8 p_feedRate_8 p_motion_8 p_relative_8) :: (o_T a t_size_4) :: tl) := hD
  exact hret H locs ls 11 ((p_done_8, p_left_8, p_nextLineStart_8, p_line_8, p_state_8, p_ending_8, p_x_8, p_y_8, p_time_8, p_pulses_8, p_last_8, p_feedRate_8, p_motion_8, p_relative_8, t_size_4)) d_P_clear_11 hP hD hS hw
def wp_P_pause (p_feedRate p_motion : Int32) (Q : Int32 → Prop) : Prop := ((p_motion = 0 → (Q (100 : Int32))) ∧ (¬ p_motion = 0 → (((1 : Int32) ≤ p_feedRate → (¬ p_feedRate = 0 ∧ (Q ((((1000000 : Int32) + p_feedRate) - (1 : Int32)) / p_feedRate)))) ∧ (¬ (1 : Int32) ≤ p_feedRate → (Q (100 : Int32))))))
abbrev rm_P_pause : Room := { frames := 0, cells := 0, slots := 0, locals := 0 }
set_option maxRecDepth 100000 in
set_option maxHeartbeats 4000000 in
theorem c_P_pause (l : Launch) {D : va_G} {X : xT} {a : Nat → Nat} {K : Nat → ClassId} {tl : va_W} {p_way : Bool} {p_done p_left p_nextLineStart p_line p_state p_ending p_x p_y : Int32} {p_time : Int64} {p_pulses p_last p_feedRate p_motion p_relative : Int32} {Q : Int32 → Prop} : MI l y_P_pause b_P_pause 1 rm_P_pause D cls (tys K) X [.ref (a 0)] ((o_P a p_way p_done p_left p_nextLineStart p_line p_state p_ending p_x p_y p_time p_pulses p_last p_feedRate p_motion p_relative) :: tl) (fun _ : Unit => (o_P a p_way p_done p_left p_nextLineStart p_line p_state p_ending p_x p_y p_time p_pulses p_last p_feedRate p_motion p_relative) :: tl) (wp_P_pause p_feedRate p_motion Q) (fun r _ => Q r) := by
  refine my_of_I (by decide +kernel) (Nat.le_of_ble_eq_true rfl) (fun p e s m args below meth c A QQ H locs ls hx hb hts hown hml hK hX hA hP hD hS hl hw hret => ?_)
  replace hl : lv_has ls 1 [(0, .ref (a 0))] := hl
  unfold wp_P_pause at hw
  refine lv_aload_n hx hb d_P_pause_0 rfl (lv_at hl 0 rfl) ?_
  refine g_P_motion hx hb hts hown hK hP 0 rfl rfl d_P_pause_1 ?_
  refine lv_if_eq (tgt := 15) hx hb d_P_pause_4 (by decide) (fun hc => ?_) (fun hc => ?_)
  · replace hw := hw.1 hc
    refine lv_bipush (v := (100 : Int32)) hx hb d_P_pause_15 (by decide) ?_
    exact hret H locs ls 17 ((100 : Int32)) (()) d_P_pause_17 hP hD hS hw
  · replace hw := hw.2 hc
    refine lv_aload_n hx hb d_P_pause_7 rfl (lv_at hl 0 rfl) ?_
    refine g_P_feedRate hx hb hts hown hK hP 0 rfl rfl d_P_pause_8 ?_
    refine lv_iconst (v := (1 : Int32)) hx hb d_P_pause_11 (by decide) ?_
    refine lv_icmp_ge (tgt := 18) hx hb d_P_pause_12 (by decide) (fun hc => ?_) (fun hc => ?_)
    · replace hw := hw.1 hc
      refine lv_ldc (v := (1000000 : Int32)) hx hb hown (hts _ k_P_120) d_P_pause_18 ?_
      refine lv_aload_n hx hb d_P_pause_20 rfl (lv_at hl 0 rfl) ?_
      refine g_P_feedRate hx hb hts hown hK hP 0 rfl rfl d_P_pause_21 ?_
      refine lv_iadd hx hb d_P_pause_24 ?_
      refine lv_iconst (v := (1 : Int32)) hx hb d_P_pause_25 (by decide) ?_
      refine lv_isub hx hb d_P_pause_26 ?_
      refine lv_aload_n hx hb d_P_pause_27 rfl (lv_at hl 0 rfl) ?_
      refine g_P_feedRate hx hb hts hown hK hP 0 rfl rfl d_P_pause_28 ?_
      refine lv_idiv hx hb d_P_pause_31 hw.1 ?_
      replace hw := hw.2
      exact hret H locs ls 32 ((((1000000 : Int32) + p_feedRate) - (1 : Int32)) / p_feedRate) (()) d_P_pause_32 hP hD hS hw
    · replace hw := hw.2 hc
      refine lv_bipush (v := (100 : Int32)) hx hb d_P_pause_15 (by decide) ?_
      exact hret H locs ls 17 ((100 : Int32)) (()) d_P_pause_17 hP hD hS hw
def wp_P_makePulses (x1 : Int32) (p_way : Bool) (p_done p_left p_x p_y : Int32) (p_time : Int64) (p_pulses p_last p_feedRate p_motion s_startX s_startY s_dx s_dy s_size r_centreX r_centreY r_diagonal r_side r_first r_turn : Int32) (ar : Nat → Int32) (Q : Int32 → Int32 → Int32 → Int32 → Int32 → Int64 → Int32 → Int32 → Prop) : Prop := (wp_Jm_min x1 p_left (fun r5 => (((1 : Int32) ≤ r5 → ((p_way = true → (wp_A_xAfter (p_done + r5) r_centreX r_diagonal r_side r_first r_turn ar (fun r45 => (wp_A_yAfter (p_done + r5) r_centreY r_diagonal r_side r_first r_turn ar (fun r60 => (wp_A_xAfter ((p_done + r5) - (1 : Int32)) r_centreX r_diagonal r_side r_first r_turn ar (fun r80 => (wp_A_yAfter ((p_done + r5) - (1 : Int32)) r_centreY r_diagonal r_side r_first r_turn ar (fun r99 => (wp_P_pause p_feedRate p_motion (fun r137 => (Q r5 (p_done + r5) (p_left - r5) r45 r60 (p_time + (r5.toInt64 * r137.toInt64)) (p_pulses + r5) ((((3 : Int32) * ((r45 - r80) + (1 : Int32))) + (r60 - r99)) + (1 : Int32)))))))))))))) ∧ (p_way = false → (wp_S_xAfter (p_done + r5) s_startX s_dx s_size (fun r45 => (wp_S_yAfter (p_done + r5) s_startY s_dy s_size (fun r60 => (wp_S_xAfter ((p_done + r5) - (1 : Int32)) s_startX s_dx s_size (fun r80 => (wp_S_yAfter ((p_done + r5) - (1 : Int32)) s_startY s_dy s_size (fun r99 => (wp_P_pause p_feedRate p_motion (fun r137 => (Q r5 (p_done + r5) (p_left - r5) r45 r60 (p_time + (r5.toInt64 * r137.toInt64)) (p_pulses + r5) ((((3 : Int32) * ((r45 - r80) + (1 : Int32))) + (r60 - r99)) + (1 : Int32)))))))))))))))) ∧ (¬ (1 : Int32) ≤ r5 → (Q (0 : Int32) p_done p_left p_x p_y p_time p_pulses p_last)))))
abbrev rm_P_makePulses : Room := { frames := 3, cells := 0, slots := 0, locals := 66 }
set_option maxRecDepth 100000 in
set_option maxHeartbeats 4000000 in
theorem c_P_makePulses (l : Launch) {D : va_G} {X : xT} {a : Nat → Nat} {K : Nat → ClassId} {tl : va_W} {e1 e2 e3 e4 e5 e6 : Nat × va_E} {x1 : Int32} {p_way : Bool} {p_done p_left p_nextLineStart p_line p_state p_ending p_x p_y : Int32} {p_time : Int64} {p_pulses p_last p_feedRate p_motion p_relative s_startX s_startY s_dx s_dy s_size r_centreX r_centreY r_diagonal r_side r_first r_turn r_size : Int32} {ar : Nat → Int32} {Q : Int32 → Int32 → Int32 → Int32 → Int32 → Int64 → Int32 → Int32 → Prop} : MI l y_P_makePulses b_P_makePulses 5 rm_P_makePulses D cls (tys K) X [.ref (a 0), .int x1] ((o_P a p_way p_done p_left p_nextLineStart p_line p_state p_ending p_x p_y p_time p_pulses p_last p_feedRate p_motion p_relative) :: e1 :: e2 :: e3 :: e4 :: e5 :: e6 :: (o_S a s_startX s_startY s_dx s_dy s_size) :: (o_A a r_centreX r_centreY r_diagonal r_side r_first r_turn r_size) :: (o_ar a K ar) :: tl) (fun u : Int32 × Int32 × Int32 × Int32 × Int64 × Int32 × Int32 => (o_P a p_way u.1 u.2.1 p_nextLineStart p_line p_state p_ending u.2.2.1 u.2.2.2.1 u.2.2.2.2.1 u.2.2.2.2.2.1 u.2.2.2.2.2.2 p_feedRate p_motion p_relative) :: e1 :: e2 :: e3 :: e4 :: e5 :: e6 :: (o_S a s_startX s_startY s_dx s_dy s_size) :: (o_A a r_centreX r_centreY r_diagonal r_side r_first r_turn r_size) :: (o_ar a K ar) :: tl) (wp_P_makePulses x1 p_way p_done p_left p_x p_y p_time p_pulses p_last p_feedRate p_motion s_startX s_startY s_dx s_dy s_size r_centreX r_centreY r_diagonal r_side r_first r_turn ar Q) (fun r u => Q r u.1 u.2.1 u.2.2.1 u.2.2.2.1 u.2.2.2.2.1 u.2.2.2.2.2.1 u.2.2.2.2.2.2) := by
  refine my_of_I (by decide +kernel) (Nat.le_of_ble_eq_true rfl) (fun p e s m args below meth c A QQ H locs ls hx hb hts hown hml hK hX hA hP hD hS hl hw hret => ?_)
  replace hl : lv_has ls 5 [(0, .ref (a 0)), (1, .int x1)] := hl
  unfold wp_P_makePulses at hw
  refine lv_iload_n hx hb d_P_makePulses_0 rfl (lv_at hl 1 rfl) ?_
  refine lv_aload_n hx hb d_P_makePulses_1 rfl (lv_at hl 0 rfl) ?_
  refine g_P_left hx hb hts hown hK hP 0 rfl rfl d_P_makePulses_2 ?_
  refine my_calli (va_runS (As := [.int x1, .int p_left]) (rest := []) ⟨hx, hb, hml, hown, hts⟩ (c_Jm_min l H.size) (cw_P_102 hts ⟨Nat.le_of_ble_eq_true rfl, Nat.le_of_ble_eq_true rfl⟩) (my_preS hK hP hX hD hS hA hw) rfl rfl hl.1 rfl (lv_room (Nat.le_of_ble_eq_true rfl)) d_P_makePulses_5 ⟨Nat.le_refl _, Nat.le_refl _⟩) hD hS hA (fun r5 _ H locs hw hP hD hS => ?_)
  have hP : va_P D cls ((o_P a p_way p_done p_left p_nextLineStart p_line p_state p_ending p_x p_y p_time p_pulses p_last p_feedRate p_motion p_relative) :: e1 :: e2 :: e3 :: e4 :: e5 :: e6 :: (o_S a s_startX s_startY s_dx s_dy s_size) :: (o_A a r_centreX r_centreY r_diagonal r_side r_first r_turn r_size) :: (o_ar a K ar) :: tl) H := hP
  have hD : va_D A ((o_P a p_way p_done p_left p_nextLineStart p_line p_state p_ending p_x p_y p_time p_pulses p_last p_feedRate p_motion p_relative) :: e1 :: e2 :: e3 :: e4 :: e5 :: e6 :: (o_S a s_startX s_startY s_dx s_dy s_size) :: (o_A a r_centreX r_centreY r_diagonal r_side r_first r_turn r_size) :: (o_ar a K ar) :: tl) := hD
  refine lv_istore_n (lv' := [(2, .int r5), (0, .ref (a 0)), (1, .int x1)]) hx hb d_P_makePulses_8 rfl hl (Nat.le_of_ble_eq_true rfl) rfl (fun ls hl => ?_)
  refine lv_iload_n hx hb d_P_makePulses_9 rfl (lv_at hl 0 rfl) ?_
  refine lv_iconst (v := (1 : Int32)) hx hb d_P_makePulses_10 (by decide) ?_
  refine lv_icmp_ge (tgt := 16) hx hb d_P_makePulses_11 (by decide) (fun hc => ?_) (fun hc => ?_)
  · replace hw := hw.1 hc
    refine lv_aload_n hx hb d_P_makePulses_16 rfl (lv_at hl 1 rfl) ?_
    refine lv_dup hx hb d_P_makePulses_17 rfl ?_
    refine g_P_done hx hb hts hown hK hP 0 rfl rfl d_P_makePulses_18 ?_
    refine lv_iload_n hx hb d_P_makePulses_21 rfl (lv_at hl 0 rfl) ?_
    refine lv_iadd hx hb d_P_makePulses_22 ?_
    refine u_P_done hx hb hts hown hK hP hD hS 0 rfl rfl d_P_makePulses_23 (fun H locs hP hD hS => ?_)
    have hP : va_P D cls ((o_P a p_way (p_done + r5) p_left p_nextLineStart p_line p_state p_ending p_x p_y p_time p_pulses p_last p_feedRate p_motion p_relative) :: e1 :: e2 :: e3 :: e4 :: e5 :: e6 :: (o_S a s_startX s_startY s_dx s_dy s_size) :: (o_A a r_centreX r_centreY r_diagonal r_side r_first r_turn r_size) :: (o_ar a K ar) :: tl) H := hP
    have hD : va_D A ((o_P a p_way (p_done + r5) p_left p_nextLineStart p_line p_state p_ending p_x p_y p_time p_pulses p_last p_feedRate p_motion p_relative) :: e1 :: e2 :: e3 :: e4 :: e5 :: e6 :: (o_S a s_startX s_startY s_dx s_dy s_size) :: (o_A a r_centreX r_centreY r_diagonal r_side r_first r_turn r_size) :: (o_ar a K ar) :: tl) := hD
    refine lv_aload_n hx hb d_P_makePulses_26 rfl (lv_at hl 1 rfl) ?_
    refine lv_dup hx hb d_P_makePulses_27 rfl ?_
    refine g_P_left hx hb hts hown hK hP 0 rfl rfl d_P_makePulses_28 ?_
    refine lv_iload_n hx hb d_P_makePulses_31 rfl (lv_at hl 0 rfl) ?_
    refine lv_isub hx hb d_P_makePulses_32 ?_
    refine u_P_left hx hb hts hown hK hP hD hS 0 rfl rfl d_P_makePulses_33 (fun H locs hP hD hS => ?_)
    have hP : va_P D cls ((o_P a p_way (p_done + r5) (p_left - r5) p_nextLineStart p_line p_state p_ending p_x p_y p_time p_pulses p_last p_feedRate p_motion p_relative) :: e1 :: e2 :: e3 :: e4 :: e5 :: e6 :: (o_S a s_startX s_startY s_dx s_dy s_size) :: (o_A a r_centreX r_centreY r_diagonal r_side r_first r_turn r_size) :: (o_ar a K ar) :: tl) H := hP
    have hD : va_D A ((o_P a p_way (p_done + r5) (p_left - r5) p_nextLineStart p_line p_state p_ending p_x p_y p_time p_pulses p_last p_feedRate p_motion p_relative) :: e1 :: e2 :: e3 :: e4 :: e5 :: e6 :: (o_S a s_startX s_startY s_dx s_dy s_size) :: (o_A a r_centreX r_centreY r_diagonal r_side r_first r_turn r_size) :: (o_ar a K ar) :: tl) := hD
    refine lv_aload_n hx hb d_P_makePulses_36 rfl (lv_at hl 1 rfl) ?_
    refine lv_aload_n hx hb d_P_makePulses_37 rfl (lv_at hl 1 rfl) ?_
    refine g_P_way hx hb hts hown hK hP 0 rfl rfl d_P_makePulses_38 ?_
    refine lv_aload_n hx hb d_P_makePulses_41 rfl (lv_at hl 1 rfl) ?_
    refine g_P_done hx hb hts hown hK hP 0 rfl rfl d_P_makePulses_42 ?_
    cases p_way
    · replace hw := hw.2 rfl
      refine my_calli (va_runU (As := [.int (p_done + r5)]) (rest := [.ref (a 0)]) ⟨hx, hb, hml, hown, hts⟩ (c_S_xAfter l H.size) (cw_P_108_S hts hX ⟨Nat.le_of_ble_eq_true rfl, Nat.le_of_ble_eq_true rfl⟩) (my_preV hK hP hX hD hS hA 7 rfl rfl hw) rfl rfl hl.1 rfl (lv_room (Nat.le_of_ble_eq_true rfl)) d_P_makePulses_45 ⟨Nat.le_refl _, Nat.le_refl _⟩) hD hS hA (fun r45 _ H locs hw hP hD hS => ?_)
      have hP : va_P D cls ((o_P a false (p_done + r5) (p_left - r5) p_nextLineStart p_line p_state p_ending p_x p_y p_time p_pulses p_last p_feedRate p_motion p_relative) :: e1 :: e2 :: e3 :: e4 :: e5 :: e6 :: (o_S a s_startX s_startY s_dx s_dy s_size) :: (o_A a r_centreX r_centreY r_diagonal r_side r_first r_turn r_size) :: (o_ar a K ar) :: tl) H := hP
      have hD : va_D A ((o_P a false (p_done + r5) (p_left - r5) p_nextLineStart p_line p_state p_ending p_x p_y p_time p_pulses p_last p_feedRate p_motion p_relative) :: e1 :: e2 :: e3 :: e4 :: e5 :: e6 :: (o_S a s_startX s_startY s_dx s_dy s_size) :: (o_A a r_centreX r_centreY r_diagonal r_side r_first r_turn r_size) :: (o_ar a K ar) :: tl) := hD
      refine u_P_x hx hb hts hown hK hP hD hS 0 rfl rfl d_P_makePulses_48 (fun H locs hP hD hS => ?_)
      have hP : va_P D cls ((o_P a false (p_done + r5) (p_left - r5) p_nextLineStart p_line p_state p_ending r45 p_y p_time p_pulses p_last p_feedRate p_motion p_relative) :: e1 :: e2 :: e3 :: e4 :: e5 :: e6 :: (o_S a s_startX s_startY s_dx s_dy s_size) :: (o_A a r_centreX r_centreY r_diagonal r_side r_first r_turn r_size) :: (o_ar a K ar) :: tl) H := hP
      have hD : va_D A ((o_P a false (p_done + r5) (p_left - r5) p_nextLineStart p_line p_state p_ending r45 p_y p_time p_pulses p_last p_feedRate p_motion p_relative) :: e1 :: e2 :: e3 :: e4 :: e5 :: e6 :: (o_S a s_startX s_startY s_dx s_dy s_size) :: (o_A a r_centreX r_centreY r_diagonal r_side r_first r_turn r_size) :: (o_ar a K ar) :: tl) := hD
      refine lv_aload_n hx hb d_P_makePulses_51 rfl (lv_at hl 1 rfl) ?_
      refine lv_aload_n hx hb d_P_makePulses_52 rfl (lv_at hl 1 rfl) ?_
      refine g_P_way hx hb hts hown hK hP 0 rfl rfl d_P_makePulses_53 ?_
      refine lv_aload_n hx hb d_P_makePulses_56 rfl (lv_at hl 1 rfl) ?_
      refine g_P_done hx hb hts hown hK hP 0 rfl rfl d_P_makePulses_57 ?_
      refine my_calli (va_runU (As := [.int (p_done + r5)]) (rest := [.ref (a 0)]) ⟨hx, hb, hml, hown, hts⟩ (c_S_yAfter l H.size) (cw_P_113_S hts hX ⟨Nat.le_of_ble_eq_true rfl, Nat.le_of_ble_eq_true rfl⟩) (my_preV hK hP hX hD hS hA 7 rfl rfl hw) rfl rfl hl.1 rfl (lv_room (Nat.le_of_ble_eq_true rfl)) d_P_makePulses_60 ⟨Nat.le_refl _, Nat.le_refl _⟩) hD hS hA (fun r60 _ H locs hw hP hD hS => ?_)
      have hP : va_P D cls ((o_P a false (p_done + r5) (p_left - r5) p_nextLineStart p_line p_state p_ending r45 p_y p_time p_pulses p_last p_feedRate p_motion p_relative) :: e1 :: e2 :: e3 :: e4 :: e5 :: e6 :: (o_S a s_startX s_startY s_dx s_dy s_size) :: (o_A a r_centreX r_centreY r_diagonal r_side r_first r_turn r_size) :: (o_ar a K ar) :: tl) H := hP
      have hD : va_D A ((o_P a false (p_done + r5) (p_left - r5) p_nextLineStart p_line p_state p_ending r45 p_y p_time p_pulses p_last p_feedRate p_motion p_relative) :: e1 :: e2 :: e3 :: e4 :: e5 :: e6 :: (o_S a s_startX s_startY s_dx s_dy s_size) :: (o_A a r_centreX r_centreY r_diagonal r_side r_first r_turn r_size) :: (o_ar a K ar) :: tl) := hD
      refine u_P_y hx hb hts hown hK hP hD hS 0 rfl rfl d_P_makePulses_63 (fun H locs hP hD hS => ?_)
      have hP : va_P D cls ((o_P a false (p_done + r5) (p_left - r5) p_nextLineStart p_line p_state p_ending r45 r60 p_time p_pulses p_last p_feedRate p_motion p_relative) :: e1 :: e2 :: e3 :: e4 :: e5 :: e6 :: (o_S a s_startX s_startY s_dx s_dy s_size) :: (o_A a r_centreX r_centreY r_diagonal r_side r_first r_turn r_size) :: (o_ar a K ar) :: tl) H := hP
      have hD : va_D A ((o_P a false (p_done + r5) (p_left - r5) p_nextLineStart p_line p_state p_ending r45 r60 p_time p_pulses p_last p_feedRate p_motion p_relative) :: e1 :: e2 :: e3 :: e4 :: e5 :: e6 :: (o_S a s_startX s_startY s_dx s_dy s_size) :: (o_A a r_centreX r_centreY r_diagonal r_side r_first r_turn r_size) :: (o_ar a K ar) :: tl) := hD
      refine lv_aload_n hx hb d_P_makePulses_66 rfl (lv_at hl 1 rfl) ?_
      refine g_P_x hx hb hts hown hK hP 0 rfl rfl d_P_makePulses_67 ?_
      refine lv_aload_n hx hb d_P_makePulses_70 rfl (lv_at hl 1 rfl) ?_
      refine g_P_way hx hb hts hown hK hP 0 rfl rfl d_P_makePulses_71 ?_
      refine lv_aload_n hx hb d_P_makePulses_74 rfl (lv_at hl 1 rfl) ?_
      refine g_P_done hx hb hts hown hK hP 0 rfl rfl d_P_makePulses_75 ?_
      refine lv_iconst (v := (1 : Int32)) hx hb d_P_makePulses_78 (by decide) ?_
      refine lv_isub hx hb d_P_makePulses_79 ?_
      refine my_calli (va_runU (As := [.int ((p_done + r5) - (1 : Int32))]) (rest := [.int r45]) ⟨hx, hb, hml, hown, hts⟩ (c_S_xAfter l H.size) (cw_P_108_S hts hX ⟨Nat.le_of_ble_eq_true rfl, Nat.le_of_ble_eq_true rfl⟩) (my_preV hK hP hX hD hS hA 7 rfl rfl hw) rfl rfl hl.1 rfl (lv_room (Nat.le_of_ble_eq_true rfl)) d_P_makePulses_80 ⟨Nat.le_refl _, Nat.le_refl _⟩) hD hS hA (fun r80 _ H locs hw hP hD hS => ?_)
      have hP : va_P D cls ((o_P a false (p_done + r5) (p_left - r5) p_nextLineStart p_line p_state p_ending r45 r60 p_time p_pulses p_last p_feedRate p_motion p_relative) :: e1 :: e2 :: e3 :: e4 :: e5 :: e6 :: (o_S a s_startX s_startY s_dx s_dy s_size) :: (o_A a r_centreX r_centreY r_diagonal r_side r_first r_turn r_size) :: (o_ar a K ar) :: tl) H := hP
      have hD : va_D A ((o_P a false (p_done + r5) (p_left - r5) p_nextLineStart p_line p_state p_ending r45 r60 p_time p_pulses p_last p_feedRate p_motion p_relative) :: e1 :: e2 :: e3 :: e4 :: e5 :: e6 :: (o_S a s_startX s_startY s_dx s_dy s_size) :: (o_A a r_centreX r_centreY r_diagonal r_side r_first r_turn r_size) :: (o_ar a K ar) :: tl) := hD
      refine lv_isub hx hb d_P_makePulses_83 ?_
      refine lv_istore_n (lv' := [(3, .int (r45 - r80)), (2, .int r5), (0, .ref (a 0)), (1, .int x1)]) hx hb d_P_makePulses_84 rfl hl (Nat.le_of_ble_eq_true rfl) rfl (fun ls hl => ?_)
      refine lv_aload_n hx hb d_P_makePulses_85 rfl (lv_at hl 2 rfl) ?_
      refine g_P_y hx hb hts hown hK hP 0 rfl rfl d_P_makePulses_86 ?_
      refine lv_aload_n hx hb d_P_makePulses_89 rfl (lv_at hl 2 rfl) ?_
      refine g_P_way hx hb hts hown hK hP 0 rfl rfl d_P_makePulses_90 ?_
      refine lv_aload_n hx hb d_P_makePulses_93 rfl (lv_at hl 2 rfl) ?_
      refine g_P_done hx hb hts hown hK hP 0 rfl rfl d_P_makePulses_94 ?_
      refine lv_iconst (v := (1 : Int32)) hx hb d_P_makePulses_97 (by decide) ?_
      refine lv_isub hx hb d_P_makePulses_98 ?_
      refine my_calli (va_runU (As := [.int ((p_done + r5) - (1 : Int32))]) (rest := [.int r60]) ⟨hx, hb, hml, hown, hts⟩ (c_S_yAfter l H.size) (cw_P_113_S hts hX ⟨Nat.le_of_ble_eq_true rfl, Nat.le_of_ble_eq_true rfl⟩) (my_preV hK hP hX hD hS hA 7 rfl rfl hw) rfl rfl hl.1 rfl (lv_room (Nat.le_of_ble_eq_true rfl)) d_P_makePulses_99 ⟨Nat.le_refl _, Nat.le_refl _⟩) hD hS hA (fun r99 _ H locs hw hP hD hS => ?_)
      have hP : va_P D cls ((o_P a false (p_done + r5) (p_left - r5) p_nextLineStart p_line p_state p_ending r45 r60 p_time p_pulses p_last p_feedRate p_motion p_relative) :: e1 :: e2 :: e3 :: e4 :: e5 :: e6 :: (o_S a s_startX s_startY s_dx s_dy s_size) :: (o_A a r_centreX r_centreY r_diagonal r_side r_first r_turn r_size) :: (o_ar a K ar) :: tl) H := hP
      have hD : va_D A ((o_P a false (p_done + r5) (p_left - r5) p_nextLineStart p_line p_state p_ending r45 r60 p_time p_pulses p_last p_feedRate p_motion p_relative) :: e1 :: e2 :: e3 :: e4 :: e5 :: e6 :: (o_S a s_startX s_startY s_dx s_dy s_size) :: (o_A a r_centreX r_centreY r_diagonal r_side r_first r_turn r_size) :: (o_ar a K ar) :: tl) := hD
      refine lv_isub hx hb d_P_makePulses_102 ?_
      refine lv_istore (lv' := [(4, .int (r60 - r99)), (3, .int (r45 - r80)), (2, .int r5), (0, .ref (a 0)), (1, .int x1)]) hx hb d_P_makePulses_103 hl (Nat.le_of_ble_eq_true rfl) rfl (fun ls hl => ?_)
      refine lv_aload_n hx hb d_P_makePulses_105 rfl (lv_at hl 3 rfl) ?_
      refine lv_iconst (v := (3 : Int32)) hx hb d_P_makePulses_106 (by decide) ?_
      refine lv_iload_n hx hb d_P_makePulses_107 rfl (lv_at hl 1 rfl) ?_
      refine lv_iconst (v := (1 : Int32)) hx hb d_P_makePulses_108 (by decide) ?_
      refine lv_iadd hx hb d_P_makePulses_109 ?_
      refine lv_imul hx hb d_P_makePulses_110 ?_
      refine lv_iload hx hb d_P_makePulses_111 (lv_at hl 0 rfl) ?_
      refine lv_iadd hx hb d_P_makePulses_113 ?_
      refine lv_iconst (v := (1 : Int32)) hx hb d_P_makePulses_114 (by decide) ?_
      refine lv_iadd hx hb d_P_makePulses_115 ?_
      refine u_P_last hx hb hts hown hK hP hD hS 0 rfl rfl d_P_makePulses_116 (fun H locs hP hD hS => ?_)
      have hP : va_P D cls ((o_P a false (p_done + r5) (p_left - r5) p_nextLineStart p_line p_state p_ending r45 r60 p_time p_pulses ((((3 : Int32) * ((r45 - r80) + (1 : Int32))) + (r60 - r99)) + (1 : Int32)) p_feedRate p_motion p_relative) :: e1 :: e2 :: e3 :: e4 :: e5 :: e6 :: (o_S a s_startX s_startY s_dx s_dy s_size) :: (o_A a r_centreX r_centreY r_diagonal r_side r_first r_turn r_size) :: (o_ar a K ar) :: tl) H := hP
      have hD : va_D A ((o_P a false (p_done + r5) (p_left - r5) p_nextLineStart p_line p_state p_ending r45 r60 p_time p_pulses ((((3 : Int32) * ((r45 - r80) + (1 : Int32))) + (r60 - r99)) + (1 : Int32)) p_feedRate p_motion p_relative) :: e1 :: e2 :: e3 :: e4 :: e5 :: e6 :: (o_S a s_startX s_startY s_dx s_dy s_size) :: (o_A a r_centreX r_centreY r_diagonal r_side r_first r_turn r_size) :: (o_ar a K ar) :: tl) := hD
      refine lv_aload_n hx hb d_P_makePulses_119 rfl (lv_at hl 3 rfl) ?_
      refine lv_dup hx hb d_P_makePulses_120 rfl ?_
      refine g_P_pulses hx hb hts hown hK hP 0 rfl rfl d_P_makePulses_121 ?_
      refine lv_iload_n hx hb d_P_makePulses_124 rfl (lv_at hl 2 rfl) ?_
      refine lv_iadd hx hb d_P_makePulses_125 ?_
      refine u_P_pulses hx hb hts hown hK hP hD hS 0 rfl rfl d_P_makePulses_126 (fun H locs hP hD hS => ?_)
      have hP : va_P D cls ((o_P a false (p_done + r5) (p_left - r5) p_nextLineStart p_line p_state p_ending r45 r60 p_time (p_pulses + r5) ((((3 : Int32) * ((r45 - r80) + (1 : Int32))) + (r60 - r99)) + (1 : Int32)) p_feedRate p_motion p_relative) :: e1 :: e2 :: e3 :: e4 :: e5 :: e6 :: (o_S a s_startX s_startY s_dx s_dy s_size) :: (o_A a r_centreX r_centreY r_diagonal r_side r_first r_turn r_size) :: (o_ar a K ar) :: tl) H := hP
      have hD : va_D A ((o_P a false (p_done + r5) (p_left - r5) p_nextLineStart p_line p_state p_ending r45 r60 p_time (p_pulses + r5) ((((3 : Int32) * ((r45 - r80) + (1 : Int32))) + (r60 - r99)) + (1 : Int32)) p_feedRate p_motion p_relative) :: e1 :: e2 :: e3 :: e4 :: e5 :: e6 :: (o_S a s_startX s_startY s_dx s_dy s_size) :: (o_A a r_centreX r_centreY r_diagonal r_side r_first r_turn r_size) :: (o_ar a K ar) :: tl) := hD
      refine lv_aload_n hx hb d_P_makePulses_129 rfl (lv_at hl 3 rfl) ?_
      refine lv_dup hx hb d_P_makePulses_130 rfl ?_
      refine g_P_time hx hb hts hown hK hP 0 rfl rfl d_P_makePulses_131 ?_
      refine lv_iload_n hx hb d_P_makePulses_134 rfl (lv_at hl 2 rfl) ?_
      refine lv_i2l (v := r5.toInt64) hx hb d_P_makePulses_135 rfl ?_
      refine lv_aload_n hx hb d_P_makePulses_136 rfl (lv_at hl 3 rfl) ?_
      refine my_calli (va_runV (As := []) (rest := [.long r5.toInt64, .long p_time, .ref (a 0)]) ⟨hx, hb, hml, hown, hts⟩ (c_P_pause l H.size) (cw_P_116 hts ⟨Nat.le_of_ble_eq_true rfl, Nat.le_of_ble_eq_true rfl⟩) (my_preV hK hP hX hD hS hA 0 rfl rfl hw) rfl rfl hl.1 rfl (lv_room (Nat.le_of_ble_eq_true rfl)) d_P_makePulses_137 ⟨Nat.le_refl _, Nat.le_refl _⟩) hD hS hA (fun r137 _ H locs hw hP hD hS => ?_)
      have hP : va_P D cls ((o_P a false (p_done + r5) (p_left - r5) p_nextLineStart p_line p_state p_ending r45 r60 p_time (p_pulses + r5) ((((3 : Int32) * ((r45 - r80) + (1 : Int32))) + (r60 - r99)) + (1 : Int32)) p_feedRate p_motion p_relative) :: e1 :: e2 :: e3 :: e4 :: e5 :: e6 :: (o_S a s_startX s_startY s_dx s_dy s_size) :: (o_A a r_centreX r_centreY r_diagonal r_side r_first r_turn r_size) :: (o_ar a K ar) :: tl) H := hP
      have hD : va_D A ((o_P a false (p_done + r5) (p_left - r5) p_nextLineStart p_line p_state p_ending r45 r60 p_time (p_pulses + r5) ((((3 : Int32) * ((r45 - r80) + (1 : Int32))) + (r60 - r99)) + (1 : Int32)) p_feedRate p_motion p_relative) :: e1 :: e2 :: e3 :: e4 :: e5 :: e6 :: (o_S a s_startX s_startY s_dx s_dy s_size) :: (o_A a r_centreX r_centreY r_diagonal r_side r_first r_turn r_size) :: (o_ar a K ar) :: tl) := hD
      refine lv_i2l (v := r137.toInt64) hx hb d_P_makePulses_140 rfl ?_
      refine lv_lmul hx hb d_P_makePulses_141 ?_
      refine lv_ladd hx hb d_P_makePulses_142 ?_
      refine u_P_time hx hb hts hown hK hP hD hS 0 rfl rfl d_P_makePulses_143 (fun H locs hP hD hS => ?_)
      have hP : va_P D cls ((o_P a false (p_done + r5) (p_left - r5) p_nextLineStart p_line p_state p_ending r45 r60 (p_time + (r5.toInt64 * r137.toInt64)) (p_pulses + r5) ((((3 : Int32) * ((r45 - r80) + (1 : Int32))) + (r60 - r99)) + (1 : Int32)) p_feedRate p_motion p_relative) :: e1 :: e2 :: e3 :: e4 :: e5 :: e6 :: (o_S a s_startX s_startY s_dx s_dy s_size) :: (o_A a r_centreX r_centreY r_diagonal r_side r_first r_turn r_size) :: (o_ar a K ar) :: tl) H := hP
      have hD : va_D A ((o_P a false (p_done + r5) (p_left - r5) p_nextLineStart p_line p_state p_ending r45 r60 (p_time + (r5.toInt64 * r137.toInt64)) (p_pulses + r5) ((((3 : Int32) * ((r45 - r80) + (1 : Int32))) + (r60 - r99)) + (1 : Int32)) p_feedRate p_motion p_relative) :: e1 :: e2 :: e3 :: e4 :: e5 :: e6 :: (o_S a s_startX s_startY s_dx s_dy s_size) :: (o_A a r_centreX r_centreY r_diagonal r_side r_first r_turn r_size) :: (o_ar a K ar) :: tl) := hD
      refine lv_iload_n hx hb d_P_makePulses_146 rfl (lv_at hl 2 rfl) ?_
      exact hret H locs ls 147 (r5) ((p_done + r5, p_left - r5, r45, r60, p_time + (r5.toInt64 * r137.toInt64), p_pulses + r5, (((3 : Int32) * ((r45 - r80) + (1 : Int32))) + (r60 - r99)) + (1 : Int32))) d_P_makePulses_147 hP hD hS hw
    · replace hw := hw.1 rfl
      refine my_calli (va_runU (As := [.int (p_done + r5)]) (rest := [.ref (a 0)]) ⟨hx, hb, hml, hown, hts⟩ (c_A_xAfter l H.size) (cw_P_108_A hts hX ⟨Nat.le_of_ble_eq_true rfl, Nat.le_of_ble_eq_true rfl⟩) (my_preV hK hP hX hD hS hA 8 rfl rfl hw) rfl rfl hl.1 rfl (lv_room (Nat.le_of_ble_eq_true rfl)) d_P_makePulses_45 ⟨Nat.le_refl _, Nat.le_refl _⟩) hD hS hA (fun r45 _ H locs hw hP hD hS => ?_)
      have hP : va_P D cls ((o_P a true (p_done + r5) (p_left - r5) p_nextLineStart p_line p_state p_ending p_x p_y p_time p_pulses p_last p_feedRate p_motion p_relative) :: e1 :: e2 :: e3 :: e4 :: e5 :: e6 :: (o_S a s_startX s_startY s_dx s_dy s_size) :: (o_A a r_centreX r_centreY r_diagonal r_side r_first r_turn r_size) :: (o_ar a K ar) :: tl) H := hP
      have hD : va_D A ((o_P a true (p_done + r5) (p_left - r5) p_nextLineStart p_line p_state p_ending p_x p_y p_time p_pulses p_last p_feedRate p_motion p_relative) :: e1 :: e2 :: e3 :: e4 :: e5 :: e6 :: (o_S a s_startX s_startY s_dx s_dy s_size) :: (o_A a r_centreX r_centreY r_diagonal r_side r_first r_turn r_size) :: (o_ar a K ar) :: tl) := hD
      refine u_P_x hx hb hts hown hK hP hD hS 0 rfl rfl d_P_makePulses_48 (fun H locs hP hD hS => ?_)
      have hP : va_P D cls ((o_P a true (p_done + r5) (p_left - r5) p_nextLineStart p_line p_state p_ending r45 p_y p_time p_pulses p_last p_feedRate p_motion p_relative) :: e1 :: e2 :: e3 :: e4 :: e5 :: e6 :: (o_S a s_startX s_startY s_dx s_dy s_size) :: (o_A a r_centreX r_centreY r_diagonal r_side r_first r_turn r_size) :: (o_ar a K ar) :: tl) H := hP
      have hD : va_D A ((o_P a true (p_done + r5) (p_left - r5) p_nextLineStart p_line p_state p_ending r45 p_y p_time p_pulses p_last p_feedRate p_motion p_relative) :: e1 :: e2 :: e3 :: e4 :: e5 :: e6 :: (o_S a s_startX s_startY s_dx s_dy s_size) :: (o_A a r_centreX r_centreY r_diagonal r_side r_first r_turn r_size) :: (o_ar a K ar) :: tl) := hD
      refine lv_aload_n hx hb d_P_makePulses_51 rfl (lv_at hl 1 rfl) ?_
      refine lv_aload_n hx hb d_P_makePulses_52 rfl (lv_at hl 1 rfl) ?_
      refine g_P_way hx hb hts hown hK hP 0 rfl rfl d_P_makePulses_53 ?_
      refine lv_aload_n hx hb d_P_makePulses_56 rfl (lv_at hl 1 rfl) ?_
      refine g_P_done hx hb hts hown hK hP 0 rfl rfl d_P_makePulses_57 ?_
      refine my_calli (va_runU (As := [.int (p_done + r5)]) (rest := [.ref (a 0)]) ⟨hx, hb, hml, hown, hts⟩ (c_A_yAfter l H.size) (cw_P_113_A hts hX ⟨Nat.le_of_ble_eq_true rfl, Nat.le_of_ble_eq_true rfl⟩) (my_preV hK hP hX hD hS hA 8 rfl rfl hw) rfl rfl hl.1 rfl (lv_room (Nat.le_of_ble_eq_true rfl)) d_P_makePulses_60 ⟨Nat.le_refl _, Nat.le_refl _⟩) hD hS hA (fun r60 _ H locs hw hP hD hS => ?_)
      have hP : va_P D cls ((o_P a true (p_done + r5) (p_left - r5) p_nextLineStart p_line p_state p_ending r45 p_y p_time p_pulses p_last p_feedRate p_motion p_relative) :: e1 :: e2 :: e3 :: e4 :: e5 :: e6 :: (o_S a s_startX s_startY s_dx s_dy s_size) :: (o_A a r_centreX r_centreY r_diagonal r_side r_first r_turn r_size) :: (o_ar a K ar) :: tl) H := hP
      have hD : va_D A ((o_P a true (p_done + r5) (p_left - r5) p_nextLineStart p_line p_state p_ending r45 p_y p_time p_pulses p_last p_feedRate p_motion p_relative) :: e1 :: e2 :: e3 :: e4 :: e5 :: e6 :: (o_S a s_startX s_startY s_dx s_dy s_size) :: (o_A a r_centreX r_centreY r_diagonal r_side r_first r_turn r_size) :: (o_ar a K ar) :: tl) := hD
      refine u_P_y hx hb hts hown hK hP hD hS 0 rfl rfl d_P_makePulses_63 (fun H locs hP hD hS => ?_)
      have hP : va_P D cls ((o_P a true (p_done + r5) (p_left - r5) p_nextLineStart p_line p_state p_ending r45 r60 p_time p_pulses p_last p_feedRate p_motion p_relative) :: e1 :: e2 :: e3 :: e4 :: e5 :: e6 :: (o_S a s_startX s_startY s_dx s_dy s_size) :: (o_A a r_centreX r_centreY r_diagonal r_side r_first r_turn r_size) :: (o_ar a K ar) :: tl) H := hP
      have hD : va_D A ((o_P a true (p_done + r5) (p_left - r5) p_nextLineStart p_line p_state p_ending r45 r60 p_time p_pulses p_last p_feedRate p_motion p_relative) :: e1 :: e2 :: e3 :: e4 :: e5 :: e6 :: (o_S a s_startX s_startY s_dx s_dy s_size) :: (o_A a r_centreX r_centreY r_diagonal r_side r_first r_turn r_size) :: (o_ar a K ar) :: tl) := hD
      refine lv_aload_n hx hb d_P_makePulses_66 rfl (lv_at hl 1 rfl) ?_
      refine g_P_x hx hb hts hown hK hP 0 rfl rfl d_P_makePulses_67 ?_
      refine lv_aload_n hx hb d_P_makePulses_70 rfl (lv_at hl 1 rfl) ?_
      refine g_P_way hx hb hts hown hK hP 0 rfl rfl d_P_makePulses_71 ?_
      refine lv_aload_n hx hb d_P_makePulses_74 rfl (lv_at hl 1 rfl) ?_
      refine g_P_done hx hb hts hown hK hP 0 rfl rfl d_P_makePulses_75 ?_
      refine lv_iconst (v := (1 : Int32)) hx hb d_P_makePulses_78 (by decide) ?_
      refine lv_isub hx hb d_P_makePulses_79 ?_
      refine my_calli (va_runU (As := [.int ((p_done + r5) - (1 : Int32))]) (rest := [.int r45]) ⟨hx, hb, hml, hown, hts⟩ (c_A_xAfter l H.size) (cw_P_108_A hts hX ⟨Nat.le_of_ble_eq_true rfl, Nat.le_of_ble_eq_true rfl⟩) (my_preV hK hP hX hD hS hA 8 rfl rfl hw) rfl rfl hl.1 rfl (lv_room (Nat.le_of_ble_eq_true rfl)) d_P_makePulses_80 ⟨Nat.le_refl _, Nat.le_refl _⟩) hD hS hA (fun r80 _ H locs hw hP hD hS => ?_)
      have hP : va_P D cls ((o_P a true (p_done + r5) (p_left - r5) p_nextLineStart p_line p_state p_ending r45 r60 p_time p_pulses p_last p_feedRate p_motion p_relative) :: e1 :: e2 :: e3 :: e4 :: e5 :: e6 :: (o_S a s_startX s_startY s_dx s_dy s_size) :: (o_A a r_centreX r_centreY r_diagonal r_side r_first r_turn r_size) :: (o_ar a K ar) :: tl) H := hP
      have hD : va_D A ((o_P a true (p_done + r5) (p_left - r5) p_nextLineStart p_line p_state p_ending r45 r60 p_time p_pulses p_last p_feedRate p_motion p_relative) :: e1 :: e2 :: e3 :: e4 :: e5 :: e6 :: (o_S a s_startX s_startY s_dx s_dy s_size) :: (o_A a r_centreX r_centreY r_diagonal r_side r_first r_turn r_size) :: (o_ar a K ar) :: tl) := hD
      refine lv_isub hx hb d_P_makePulses_83 ?_
      refine lv_istore_n (lv' := [(3, .int (r45 - r80)), (2, .int r5), (0, .ref (a 0)), (1, .int x1)]) hx hb d_P_makePulses_84 rfl hl (Nat.le_of_ble_eq_true rfl) rfl (fun ls hl => ?_)
      refine lv_aload_n hx hb d_P_makePulses_85 rfl (lv_at hl 2 rfl) ?_
      refine g_P_y hx hb hts hown hK hP 0 rfl rfl d_P_makePulses_86 ?_
      refine lv_aload_n hx hb d_P_makePulses_89 rfl (lv_at hl 2 rfl) ?_
      refine g_P_way hx hb hts hown hK hP 0 rfl rfl d_P_makePulses_90 ?_
      refine lv_aload_n hx hb d_P_makePulses_93 rfl (lv_at hl 2 rfl) ?_
      refine g_P_done hx hb hts hown hK hP 0 rfl rfl d_P_makePulses_94 ?_
      refine lv_iconst (v := (1 : Int32)) hx hb d_P_makePulses_97 (by decide) ?_
      refine lv_isub hx hb d_P_makePulses_98 ?_
      refine my_calli (va_runU (As := [.int ((p_done + r5) - (1 : Int32))]) (rest := [.int r60]) ⟨hx, hb, hml, hown, hts⟩ (c_A_yAfter l H.size) (cw_P_113_A hts hX ⟨Nat.le_of_ble_eq_true rfl, Nat.le_of_ble_eq_true rfl⟩) (my_preV hK hP hX hD hS hA 8 rfl rfl hw) rfl rfl hl.1 rfl (lv_room (Nat.le_of_ble_eq_true rfl)) d_P_makePulses_99 ⟨Nat.le_refl _, Nat.le_refl _⟩) hD hS hA (fun r99 _ H locs hw hP hD hS => ?_)
      have hP : va_P D cls ((o_P a true (p_done + r5) (p_left - r5) p_nextLineStart p_line p_state p_ending r45 r60 p_time p_pulses p_last p_feedRate p_motion p_relative) :: e1 :: e2 :: e3 :: e4 :: e5 :: e6 :: (o_S a s_startX s_startY s_dx s_dy s_size) :: (o_A a r_centreX r_centreY r_diagonal r_side r_first r_turn r_size) :: (o_ar a K ar) :: tl) H := hP
      have hD : va_D A ((o_P a true (p_done + r5) (p_left - r5) p_nextLineStart p_line p_state p_ending r45 r60 p_time p_pulses p_last p_feedRate p_motion p_relative) :: e1 :: e2 :: e3 :: e4 :: e5 :: e6 :: (o_S a s_startX s_startY s_dx s_dy s_size) :: (o_A a r_centreX r_centreY r_diagonal r_side r_first r_turn r_size) :: (o_ar a K ar) :: tl) := hD
      refine lv_isub hx hb d_P_makePulses_102 ?_
      refine lv_istore (lv' := [(4, .int (r60 - r99)), (3, .int (r45 - r80)), (2, .int r5), (0, .ref (a 0)), (1, .int x1)]) hx hb d_P_makePulses_103 hl (Nat.le_of_ble_eq_true rfl) rfl (fun ls hl => ?_)
      refine lv_aload_n hx hb d_P_makePulses_105 rfl (lv_at hl 3 rfl) ?_
      refine lv_iconst (v := (3 : Int32)) hx hb d_P_makePulses_106 (by decide) ?_
      refine lv_iload_n hx hb d_P_makePulses_107 rfl (lv_at hl 1 rfl) ?_
      refine lv_iconst (v := (1 : Int32)) hx hb d_P_makePulses_108 (by decide) ?_
      refine lv_iadd hx hb d_P_makePulses_109 ?_
      refine lv_imul hx hb d_P_makePulses_110 ?_
      refine lv_iload hx hb d_P_makePulses_111 (lv_at hl 0 rfl) ?_
      refine lv_iadd hx hb d_P_makePulses_113 ?_
      refine lv_iconst (v := (1 : Int32)) hx hb d_P_makePulses_114 (by decide) ?_
      refine lv_iadd hx hb d_P_makePulses_115 ?_
      refine u_P_last hx hb hts hown hK hP hD hS 0 rfl rfl d_P_makePulses_116 (fun H locs hP hD hS => ?_)
      have hP : va_P D cls ((o_P a true (p_done + r5) (p_left - r5) p_nextLineStart p_line p_state p_ending r45 r60 p_time p_pulses ((((3 : Int32) * ((r45 - r80) + (1 : Int32))) + (r60 - r99)) + (1 : Int32)) p_feedRate p_motion p_relative) :: e1 :: e2 :: e3 :: e4 :: e5 :: e6 :: (o_S a s_startX s_startY s_dx s_dy s_size) :: (o_A a r_centreX r_centreY r_diagonal r_side r_first r_turn r_size) :: (o_ar a K ar) :: tl) H := hP
      have hD : va_D A ((o_P a true (p_done + r5) (p_left - r5) p_nextLineStart p_line p_state p_ending r45 r60 p_time p_pulses ((((3 : Int32) * ((r45 - r80) + (1 : Int32))) + (r60 - r99)) + (1 : Int32)) p_feedRate p_motion p_relative) :: e1 :: e2 :: e3 :: e4 :: e5 :: e6 :: (o_S a s_startX s_startY s_dx s_dy s_size) :: (o_A a r_centreX r_centreY r_diagonal r_side r_first r_turn r_size) :: (o_ar a K ar) :: tl) := hD
      refine lv_aload_n hx hb d_P_makePulses_119 rfl (lv_at hl 3 rfl) ?_
      refine lv_dup hx hb d_P_makePulses_120 rfl ?_
      refine g_P_pulses hx hb hts hown hK hP 0 rfl rfl d_P_makePulses_121 ?_
      refine lv_iload_n hx hb d_P_makePulses_124 rfl (lv_at hl 2 rfl) ?_
      refine lv_iadd hx hb d_P_makePulses_125 ?_
      refine u_P_pulses hx hb hts hown hK hP hD hS 0 rfl rfl d_P_makePulses_126 (fun H locs hP hD hS => ?_)
      have hP : va_P D cls ((o_P a true (p_done + r5) (p_left - r5) p_nextLineStart p_line p_state p_ending r45 r60 p_time (p_pulses + r5) ((((3 : Int32) * ((r45 - r80) + (1 : Int32))) + (r60 - r99)) + (1 : Int32)) p_feedRate p_motion p_relative) :: e1 :: e2 :: e3 :: e4 :: e5 :: e6 :: (o_S a s_startX s_startY s_dx s_dy s_size) :: (o_A a r_centreX r_centreY r_diagonal r_side r_first r_turn r_size) :: (o_ar a K ar) :: tl) H := hP
      have hD : va_D A ((o_P a true (p_done + r5) (p_left - r5) p_nextLineStart p_line p_state p_ending r45 r60 p_time (p_pulses + r5) ((((3 : Int32) * ((r45 - r80) + (1 : Int32))) + (r60 - r99)) + (1 : Int32)) p_feedRate p_motion p_relative) :: e1 :: e2 :: e3 :: e4 :: e5 :: e6 :: (o_S a s_startX s_startY s_dx s_dy s_size) :: (o_A a r_centreX r_centreY r_diagonal r_side r_first r_turn r_size) :: (o_ar a K ar) :: tl) := hD
      refine lv_aload_n hx hb d_P_makePulses_129 rfl (lv_at hl 3 rfl) ?_
      refine lv_dup hx hb d_P_makePulses_130 rfl ?_
      refine g_P_time hx hb hts hown hK hP 0 rfl rfl d_P_makePulses_131 ?_
      refine lv_iload_n hx hb d_P_makePulses_134 rfl (lv_at hl 2 rfl) ?_
      refine lv_i2l (v := r5.toInt64) hx hb d_P_makePulses_135 rfl ?_
      refine lv_aload_n hx hb d_P_makePulses_136 rfl (lv_at hl 3 rfl) ?_
      refine my_calli (va_runV (As := []) (rest := [.long r5.toInt64, .long p_time, .ref (a 0)]) ⟨hx, hb, hml, hown, hts⟩ (c_P_pause l H.size) (cw_P_116 hts ⟨Nat.le_of_ble_eq_true rfl, Nat.le_of_ble_eq_true rfl⟩) (my_preV hK hP hX hD hS hA 0 rfl rfl hw) rfl rfl hl.1 rfl (lv_room (Nat.le_of_ble_eq_true rfl)) d_P_makePulses_137 ⟨Nat.le_refl _, Nat.le_refl _⟩) hD hS hA (fun r137 _ H locs hw hP hD hS => ?_)
      have hP : va_P D cls ((o_P a true (p_done + r5) (p_left - r5) p_nextLineStart p_line p_state p_ending r45 r60 p_time (p_pulses + r5) ((((3 : Int32) * ((r45 - r80) + (1 : Int32))) + (r60 - r99)) + (1 : Int32)) p_feedRate p_motion p_relative) :: e1 :: e2 :: e3 :: e4 :: e5 :: e6 :: (o_S a s_startX s_startY s_dx s_dy s_size) :: (o_A a r_centreX r_centreY r_diagonal r_side r_first r_turn r_size) :: (o_ar a K ar) :: tl) H := hP
      have hD : va_D A ((o_P a true (p_done + r5) (p_left - r5) p_nextLineStart p_line p_state p_ending r45 r60 p_time (p_pulses + r5) ((((3 : Int32) * ((r45 - r80) + (1 : Int32))) + (r60 - r99)) + (1 : Int32)) p_feedRate p_motion p_relative) :: e1 :: e2 :: e3 :: e4 :: e5 :: e6 :: (o_S a s_startX s_startY s_dx s_dy s_size) :: (o_A a r_centreX r_centreY r_diagonal r_side r_first r_turn r_size) :: (o_ar a K ar) :: tl) := hD
      refine lv_i2l (v := r137.toInt64) hx hb d_P_makePulses_140 rfl ?_
      refine lv_lmul hx hb d_P_makePulses_141 ?_
      refine lv_ladd hx hb d_P_makePulses_142 ?_
      refine u_P_time hx hb hts hown hK hP hD hS 0 rfl rfl d_P_makePulses_143 (fun H locs hP hD hS => ?_)
      have hP : va_P D cls ((o_P a true (p_done + r5) (p_left - r5) p_nextLineStart p_line p_state p_ending r45 r60 (p_time + (r5.toInt64 * r137.toInt64)) (p_pulses + r5) ((((3 : Int32) * ((r45 - r80) + (1 : Int32))) + (r60 - r99)) + (1 : Int32)) p_feedRate p_motion p_relative) :: e1 :: e2 :: e3 :: e4 :: e5 :: e6 :: (o_S a s_startX s_startY s_dx s_dy s_size) :: (o_A a r_centreX r_centreY r_diagonal r_side r_first r_turn r_size) :: (o_ar a K ar) :: tl) H := hP
      have hD : va_D A ((o_P a true (p_done + r5) (p_left - r5) p_nextLineStart p_line p_state p_ending r45 r60 (p_time + (r5.toInt64 * r137.toInt64)) (p_pulses + r5) ((((3 : Int32) * ((r45 - r80) + (1 : Int32))) + (r60 - r99)) + (1 : Int32)) p_feedRate p_motion p_relative) :: e1 :: e2 :: e3 :: e4 :: e5 :: e6 :: (o_S a s_startX s_startY s_dx s_dy s_size) :: (o_A a r_centreX r_centreY r_diagonal r_side r_first r_turn r_size) :: (o_ar a K ar) :: tl) := hD
      refine lv_iload_n hx hb d_P_makePulses_146 rfl (lv_at hl 2 rfl) ?_
      exact hret H locs ls 147 (r5) ((p_done + r5, p_left - r5, r45, r60, p_time + (r5.toInt64 * r137.toInt64), p_pulses + r5, (((3 : Int32) * ((r45 - r80) + (1 : Int32))) + (r60 - r99)) + (1 : Int32))) d_P_makePulses_147 hP hD hS hw
  · replace hw := hw.2 hc
    refine lv_iconst (v := (0 : Int32)) hx hb d_P_makePulses_14 (by decide) ?_
    exact hret H locs ls 15 ((0 : Int32)) ((p_done, p_left, p_x, p_y, p_time, p_pulses, p_last)) d_P_makePulses_15 hP hD hS hw
def wq_P_isOutside_14 (Q : Int32 → Prop)  : Prop := (Q (1 : Int32))
def wp_P_isOutside (x0 : Int32) (Q : Int32 → Prop) : Prop := ((x0 < (-200 : Int32) → (wq_P_isOutside_14 Q )) ∧ (¬ x0 < (-200 : Int32) → ((x0 ≤ (200 : Int32) → (Q (0 : Int32))) ∧ (¬ x0 ≤ (200 : Int32) → (wq_P_isOutside_14 Q )))))
abbrev rm_P_isOutside : Room := { frames := 0, cells := 0, slots := 0, locals := 0 }
set_option maxRecDepth 100000 in
set_option maxHeartbeats 4000000 in
theorem c_P_isOutside (l : Launch) {D : va_G} {X : xT} {K : Nat → ClassId} {tl : va_W} {x0 : Int32} {Q : Int32 → Prop} : MZ l y_P_isOutside b_P_isOutside 1 rm_P_isOutside D cls (tys K) X [.int x0] (tl) (fun _ : Unit => tl) (wp_P_isOutside x0 Q) (fun r _ => Q r) := by
  refine my_of_Z (by decide +kernel) (Nat.le_of_ble_eq_true rfl) (fun p e s m args below meth c A QQ H locs ls hx hb hts hown hml hK hX hA hP hD hS hl hw hret => ?_)
  replace hl : lv_has ls 1 [(0, .int x0)] := hl
  have J14 : ∀ (H : Heap) (locs : List Loc) (ls : Array Slot) , va_P D cls (tl) H → va_D A (tl) → va_S A s.heap H locs → lv_has ls 1 [] → wq_P_isOutside_14 Q → W p l e rm_P_isOutside s m args below meth c H locs 0 0 QQ (F0 m 14 ls []) := by
    intro H locs ls  hP hD hS hl hw
    unfold wq_P_isOutside_14 at hw
    refine lv_iconst (v := (1 : Int32)) hx hb d_P_isOutside_14 (by decide) ?_
    refine lv_goto (tgt := 19) hx hb d_P_isOutside_15 (by decide) ?_
    exact hret H locs ls 19 ((1 : Int32)) (()) d_P_isOutside_19 (Or.inr rfl) hP hD hS hw
  unfold wp_P_isOutside at hw
  refine lv_iload_n hx hb d_P_isOutside_0 rfl (lv_at hl 0 rfl) ?_
  refine lv_sipush (v := (-200 : Int32)) hx hb d_P_isOutside_1 (by decide) ?_
  refine lv_icmp_lt (tgt := 14) hx hb d_P_isOutside_4 (by decide) (fun hc => ?_) (fun hc => ?_)
  · replace hw := hw.1 hc
    exact J14 H locs ls  hP hD hS (lv_sub hl [] rfl) hw
  · replace hw := hw.2 hc
    refine lv_iload_n hx hb d_P_isOutside_7 rfl (lv_at hl 0 rfl) ?_
    refine lv_sipush (v := (200 : Int32)) hx hb d_P_isOutside_8 (by decide) ?_
    refine lv_icmp_le (tgt := 18) hx hb d_P_isOutside_11 (by decide) (fun hc => ?_) (fun hc => ?_)
    · replace hw := hw.1 hc
      refine lv_iconst (v := (0 : Int32)) hx hb d_P_isOutside_18 (by decide) ?_
      exact hret H locs ls 19 ((0 : Int32)) (()) d_P_isOutside_19 (Or.inl rfl) hP hD hS hw
    · replace hw := hw.2 hc
      exact J14 H locs ls  hP hD hS (lv_sub hl [] rfl) hw
def wp_P_goal (x1 x2 p_relative : Int32) (wz wn : Nat → Int32) (Q : Int32 → Prop) : Prop := (wp_W_has x1 wz (fun r5 => ((¬ r5 = 0 → ((p_relative = 0 → (wp_W_number x1 wz wn (fun r38 => (Q r38)))) ∧ (¬ p_relative = 0 → (wp_W_number x1 wz wn (fun r26 => (Q (x2 + r26))))))) ∧ (r5 = 0 → (Q x2)))))
abbrev rm_P_goal : Room := { frames := 2, cells := 0, slots := 0, locals := 42 }
set_option maxRecDepth 100000 in
set_option maxHeartbeats 4000000 in
theorem c_P_goal (l : Launch) {D : va_G} {X : xT} {a : Nat → Nat} {K : Nat → ClassId} {tl : va_W} {e1 e2 e4 : Nat × va_E} {x1 x2 : Int32} {p_way : Bool} {p_done p_left p_nextLineStart p_line p_state p_ending p_x p_y : Int32} {p_time : Int64} {p_pulses p_last p_feedRate p_motion p_relative w_rowSize w_at w_motion w_distances : Int32} {wz wn : Nat → Int32} {Q : Int32 → Prop} : MI l y_P_goal b_P_goal 3 rm_P_goal D cls (tys K) X [.ref (a 0), .int x1, .int x2] ((o_P a p_way p_done p_left p_nextLineStart p_line p_state p_ending p_x p_y p_time p_pulses p_last p_feedRate p_motion p_relative) :: e1 :: e2 :: (o_W a w_rowSize w_at w_motion w_distances) :: e4 :: (o_wz a K wz) :: (o_wn a K wn) :: tl) (fun _ : Unit => (o_P a p_way p_done p_left p_nextLineStart p_line p_state p_ending p_x p_y p_time p_pulses p_last p_feedRate p_motion p_relative) :: e1 :: e2 :: (o_W a w_rowSize w_at w_motion w_distances) :: e4 :: (o_wz a K wz) :: (o_wn a K wn) :: tl) (wp_P_goal x1 x2 p_relative wz wn Q) (fun r _ => Q r) := by
  refine my_of_I (by decide +kernel) (Nat.le_of_ble_eq_true rfl) (fun p e s m args below meth c A QQ H locs ls hx hb hts hown hml hK hX hA hP hD hS hl hw hret => ?_)
  replace hl : lv_has ls 3 [(0, .ref (a 0)), (1, .int x1), (2, .int x2)] := hl
  unfold wp_P_goal at hw
  refine lv_aload_n hx hb d_P_goal_0 rfl (lv_at hl 0 rfl) ?_
  refine g_P_words hx hb hts hown hK hP 0 rfl rfl d_P_goal_1 ?_
  refine lv_iload_n hx hb d_P_goal_4 rfl (lv_at hl 1 rfl) ?_
  refine my_calli (va_runV (As := [.int x1]) (rest := []) ⟨hx, hb, hml, hown, hts⟩ (c_W_has l H.size) (cw_P_137 hts ⟨Nat.le_of_ble_eq_true rfl, Nat.le_of_ble_eq_true rfl⟩) (my_preV hK hP hX hD hS hA 3 rfl rfl hw) rfl rfl hl.1 rfl (lv_room (Nat.le_of_ble_eq_true rfl)) d_P_goal_5 ⟨Nat.le_refl _, Nat.le_refl _⟩) hD hS hA (fun r5 _ H locs hw hP hD hS => ?_)
  have hP : va_P D cls ((o_P a p_way p_done p_left p_nextLineStart p_line p_state p_ending p_x p_y p_time p_pulses p_last p_feedRate p_motion p_relative) :: e1 :: e2 :: (o_W a w_rowSize w_at w_motion w_distances) :: e4 :: (o_wz a K wz) :: (o_wn a K wn) :: tl) H := hP
  have hD : va_D A ((o_P a p_way p_done p_left p_nextLineStart p_line p_state p_ending p_x p_y p_time p_pulses p_last p_feedRate p_motion p_relative) :: e1 :: e2 :: (o_W a w_rowSize w_at w_motion w_distances) :: e4 :: (o_wz a K wz) :: (o_wn a K wn) :: tl) := hD
  refine lv_if_ne (tgt := 13) hx hb d_P_goal_8 (by decide) (fun hc => ?_) (fun hc => ?_)
  · replace hw := hw.1 hc
    refine lv_aload_n hx hb d_P_goal_13 rfl (lv_at hl 0 rfl) ?_
    refine g_P_relative hx hb hts hown hK hP 0 rfl rfl d_P_goal_14 ?_
    refine lv_if_eq (tgt := 33) hx hb d_P_goal_17 (by decide) (fun hc => ?_) (fun hc => ?_)
    · replace hw := hw.1 hc
      refine lv_aload_n hx hb d_P_goal_33 rfl (lv_at hl 0 rfl) ?_
      refine g_P_words hx hb hts hown hK hP 0 rfl rfl d_P_goal_34 ?_
      refine lv_iload_n hx hb d_P_goal_37 rfl (lv_at hl 1 rfl) ?_
      refine my_calli (va_runV (As := [.int x1]) (rest := []) ⟨hx, hb, hml, hown, hts⟩ (c_W_number l H.size) (cw_P_141 hts ⟨Nat.le_of_ble_eq_true rfl, Nat.le_of_ble_eq_true rfl⟩) (my_preV hK hP hX hD hS hA 3 rfl rfl hw) rfl rfl hl.1 rfl (lv_room (Nat.le_of_ble_eq_true rfl)) d_P_goal_38 ⟨Nat.le_refl _, Nat.le_refl _⟩) hD hS hA (fun r38 _ H locs hw hP hD hS => ?_)
      have hP : va_P D cls ((o_P a p_way p_done p_left p_nextLineStart p_line p_state p_ending p_x p_y p_time p_pulses p_last p_feedRate p_motion p_relative) :: e1 :: e2 :: (o_W a w_rowSize w_at w_motion w_distances) :: e4 :: (o_wz a K wz) :: (o_wn a K wn) :: tl) H := hP
      have hD : va_D A ((o_P a p_way p_done p_left p_nextLineStart p_line p_state p_ending p_x p_y p_time p_pulses p_last p_feedRate p_motion p_relative) :: e1 :: e2 :: (o_W a w_rowSize w_at w_motion w_distances) :: e4 :: (o_wz a K wz) :: (o_wn a K wn) :: tl) := hD
      exact hret H locs ls 41 (r38) (()) d_P_goal_41 hP hD hS hw
    · replace hw := hw.2 hc
      refine lv_iload_n hx hb d_P_goal_20 rfl (lv_at hl 2 rfl) ?_
      refine lv_aload_n hx hb d_P_goal_21 rfl (lv_at hl 0 rfl) ?_
      refine g_P_words hx hb hts hown hK hP 0 rfl rfl d_P_goal_22 ?_
      refine lv_iload_n hx hb d_P_goal_25 rfl (lv_at hl 1 rfl) ?_
      refine my_calli (va_runV (As := [.int x1]) (rest := [.int x2]) ⟨hx, hb, hml, hown, hts⟩ (c_W_number l H.size) (cw_P_141 hts ⟨Nat.le_of_ble_eq_true rfl, Nat.le_of_ble_eq_true rfl⟩) (my_preV hK hP hX hD hS hA 3 rfl rfl hw) rfl rfl hl.1 rfl (lv_room (Nat.le_of_ble_eq_true rfl)) d_P_goal_26 ⟨Nat.le_refl _, Nat.le_refl _⟩) hD hS hA (fun r26 _ H locs hw hP hD hS => ?_)
      have hP : va_P D cls ((o_P a p_way p_done p_left p_nextLineStart p_line p_state p_ending p_x p_y p_time p_pulses p_last p_feedRate p_motion p_relative) :: e1 :: e2 :: (o_W a w_rowSize w_at w_motion w_distances) :: e4 :: (o_wz a K wz) :: (o_wn a K wn) :: tl) H := hP
      have hD : va_D A ((o_P a p_way p_done p_left p_nextLineStart p_line p_state p_ending p_x p_y p_time p_pulses p_last p_feedRate p_motion p_relative) :: e1 :: e2 :: (o_W a w_rowSize w_at w_motion w_distances) :: e4 :: (o_wz a K wz) :: (o_wn a K wn) :: tl) := hD
      refine lv_iadd hx hb d_P_goal_29 ?_
      refine lv_goto (tgt := 41) hx hb d_P_goal_30 (by decide) ?_
      exact hret H locs ls 41 (x2 + r26) (()) d_P_goal_41 hP hD hS hw
  · replace hw := hw.2 hc
    refine lv_iload_n hx hb d_P_goal_11 rfl (lv_at hl 2 rfl) ?_
    exact hret H locs ls 12 (x2) (()) d_P_goal_12 hP hD hS hw
def wp_P_follow (x1 p_way : Bool) (p_done p_left s_size r_size : Int32) (Q : Bool → Int32 → Int32 → Prop) : Prop := ((x1 = true → (wp_A_size r_size (fun r12 => (Q true (0 : Int32) r12)))) ∧ (x1 = false → (wp_S_size s_size (fun r12 => (Q false (0 : Int32) r12)))))
abbrev rm_P_follow : Room := { frames := 1, cells := 0, slots := 0, locals := 20 }
set_option maxRecDepth 100000 in
set_option maxHeartbeats 4000000 in
theorem c_P_follow (l : Launch) {D : va_G} {X : xT} {a : Nat → Nat} {K : Nat → ClassId} {tl : va_W} {e1 e2 e3 e4 e5 e6 : Nat × va_E} {x1 p_way : Bool} {p_done p_left p_nextLineStart p_line p_state p_ending p_x p_y : Int32} {p_time : Int64} {p_pulses p_last p_feedRate p_motion p_relative s_startX s_startY s_dx s_dy s_size r_centreX r_centreY r_diagonal r_side r_first r_turn r_size : Int32} {Q : Bool → Int32 → Int32 → Prop} : MV l y_P_follow b_P_follow 2 rm_P_follow D cls (tys K) X [.ref (a 0), .ref (bif x1 then a 8 else a 7)] ((o_P a p_way p_done p_left p_nextLineStart p_line p_state p_ending p_x p_y p_time p_pulses p_last p_feedRate p_motion p_relative) :: e1 :: e2 :: e3 :: e4 :: e5 :: e6 :: (o_S a s_startX s_startY s_dx s_dy s_size) :: (o_A a r_centreX r_centreY r_diagonal r_side r_first r_turn r_size) :: tl) (fun u : Bool × Int32 × Int32 => (o_P a u.1 u.2.1 u.2.2 p_nextLineStart p_line p_state p_ending p_x p_y p_time p_pulses p_last p_feedRate p_motion p_relative) :: e1 :: e2 :: e3 :: e4 :: e5 :: e6 :: (o_S a s_startX s_startY s_dx s_dy s_size) :: (o_A a r_centreX r_centreY r_diagonal r_side r_first r_turn r_size) :: tl) (wp_P_follow x1 p_way p_done p_left s_size r_size Q) (fun u => Q u.1 u.2.1 u.2.2) := by
  refine my_of_V (by decide +kernel) (Nat.le_of_ble_eq_true rfl) (fun p e s m args below meth c A QQ H locs ls hx hb hts hown hml hK hX hA hP hD hS hl hw hret => ?_)
  replace hl : lv_has ls 2 [(0, .ref (a 0)), (1, .ref (bif x1 then a 8 else a 7))] := hl
  unfold wp_P_follow at hw
  refine lv_aload_n hx hb d_P_follow_0 rfl (lv_at hl 0 rfl) ?_
  refine lv_aload_n hx hb d_P_follow_1 rfl (lv_at hl 1 rfl) ?_
  refine u_P_way hx hb hts hown hK hP hD hS 0 rfl rfl d_P_follow_2 (fun H locs hP hD hS => ?_)
  have hP : va_P D cls ((o_P a x1 p_done p_left p_nextLineStart p_line p_state p_ending p_x p_y p_time p_pulses p_last p_feedRate p_motion p_relative) :: e1 :: e2 :: e3 :: e4 :: e5 :: e6 :: (o_S a s_startX s_startY s_dx s_dy s_size) :: (o_A a r_centreX r_centreY r_diagonal r_side r_first r_turn r_size) :: tl) H := hP
  have hD : va_D A ((o_P a x1 p_done p_left p_nextLineStart p_line p_state p_ending p_x p_y p_time p_pulses p_last p_feedRate p_motion p_relative) :: e1 :: e2 :: e3 :: e4 :: e5 :: e6 :: (o_S a s_startX s_startY s_dx s_dy s_size) :: (o_A a r_centreX r_centreY r_diagonal r_side r_first r_turn r_size) :: tl) := hD
  refine lv_aload_n hx hb d_P_follow_5 rfl (lv_at hl 0 rfl) ?_
  refine lv_iconst (v := (0 : Int32)) hx hb d_P_follow_6 (by decide) ?_
  refine u_P_done hx hb hts hown hK hP hD hS 0 rfl rfl d_P_follow_7 (fun H locs hP hD hS => ?_)
  have hP : va_P D cls ((o_P a x1 (0 : Int32) p_left p_nextLineStart p_line p_state p_ending p_x p_y p_time p_pulses p_last p_feedRate p_motion p_relative) :: e1 :: e2 :: e3 :: e4 :: e5 :: e6 :: (o_S a s_startX s_startY s_dx s_dy s_size) :: (o_A a r_centreX r_centreY r_diagonal r_side r_first r_turn r_size) :: tl) H := hP
  have hD : va_D A ((o_P a x1 (0 : Int32) p_left p_nextLineStart p_line p_state p_ending p_x p_y p_time p_pulses p_last p_feedRate p_motion p_relative) :: e1 :: e2 :: e3 :: e4 :: e5 :: e6 :: (o_S a s_startX s_startY s_dx s_dy s_size) :: (o_A a r_centreX r_centreY r_diagonal r_side r_first r_turn r_size) :: tl) := hD
  refine lv_aload_n hx hb d_P_follow_10 rfl (lv_at hl 0 rfl) ?_
  refine lv_aload_n hx hb d_P_follow_11 rfl (lv_at hl 1 rfl) ?_
  cases x1
  · replace hw := hw.2 rfl
    refine my_calli (va_runU (As := []) (rest := [.ref (a 0)]) ⟨hx, hb, hml, hown, hts⟩ (c_S_size l H.size) (cw_P_179_S hts hX ⟨Nat.le_of_ble_eq_true rfl, Nat.le_of_ble_eq_true rfl⟩) (my_preV hK hP hX hD hS hA 7 rfl rfl hw) rfl rfl hl.1 rfl (lv_room (Nat.le_of_ble_eq_true rfl)) d_P_follow_12 ⟨Nat.le_refl _, Nat.le_refl _⟩) hD hS hA (fun r12 _ H locs hw hP hD hS => ?_)
    have hP : va_P D cls ((o_P a false (0 : Int32) p_left p_nextLineStart p_line p_state p_ending p_x p_y p_time p_pulses p_last p_feedRate p_motion p_relative) :: e1 :: e2 :: e3 :: e4 :: e5 :: e6 :: (o_S a s_startX s_startY s_dx s_dy s_size) :: (o_A a r_centreX r_centreY r_diagonal r_side r_first r_turn r_size) :: tl) H := hP
    have hD : va_D A ((o_P a false (0 : Int32) p_left p_nextLineStart p_line p_state p_ending p_x p_y p_time p_pulses p_last p_feedRate p_motion p_relative) :: e1 :: e2 :: e3 :: e4 :: e5 :: e6 :: (o_S a s_startX s_startY s_dx s_dy s_size) :: (o_A a r_centreX r_centreY r_diagonal r_side r_first r_turn r_size) :: tl) := hD
    refine u_P_left hx hb hts hown hK hP hD hS 0 rfl rfl d_P_follow_15 (fun H locs hP hD hS => ?_)
    have hP : va_P D cls ((o_P a false (0 : Int32) r12 p_nextLineStart p_line p_state p_ending p_x p_y p_time p_pulses p_last p_feedRate p_motion p_relative) :: e1 :: e2 :: e3 :: e4 :: e5 :: e6 :: (o_S a s_startX s_startY s_dx s_dy s_size) :: (o_A a r_centreX r_centreY r_diagonal r_side r_first r_turn r_size) :: tl) H := hP
    have hD : va_D A ((o_P a false (0 : Int32) r12 p_nextLineStart p_line p_state p_ending p_x p_y p_time p_pulses p_last p_feedRate p_motion p_relative) :: e1 :: e2 :: e3 :: e4 :: e5 :: e6 :: (o_S a s_startX s_startY s_dx s_dy s_size) :: (o_A a r_centreX r_centreY r_diagonal r_side r_first r_turn r_size) :: tl) := hD
    exact hret H locs ls 18 ((false, (0 : Int32), r12)) d_P_follow_18 hP hD hS hw
  · replace hw := hw.1 rfl
    refine my_calli (va_runU (As := []) (rest := [.ref (a 0)]) ⟨hx, hb, hml, hown, hts⟩ (c_A_size l H.size) (cw_P_179_A hts hX ⟨Nat.le_of_ble_eq_true rfl, Nat.le_of_ble_eq_true rfl⟩) (my_preV hK hP hX hD hS hA 8 rfl rfl hw) rfl rfl hl.1 rfl (lv_room (Nat.le_of_ble_eq_true rfl)) d_P_follow_12 ⟨Nat.le_refl _, Nat.le_refl _⟩) hD hS hA (fun r12 _ H locs hw hP hD hS => ?_)
    have hP : va_P D cls ((o_P a true (0 : Int32) p_left p_nextLineStart p_line p_state p_ending p_x p_y p_time p_pulses p_last p_feedRate p_motion p_relative) :: e1 :: e2 :: e3 :: e4 :: e5 :: e6 :: (o_S a s_startX s_startY s_dx s_dy s_size) :: (o_A a r_centreX r_centreY r_diagonal r_side r_first r_turn r_size) :: tl) H := hP
    have hD : va_D A ((o_P a true (0 : Int32) p_left p_nextLineStart p_line p_state p_ending p_x p_y p_time p_pulses p_last p_feedRate p_motion p_relative) :: e1 :: e2 :: e3 :: e4 :: e5 :: e6 :: (o_S a s_startX s_startY s_dx s_dy s_size) :: (o_A a r_centreX r_centreY r_diagonal r_side r_first r_turn r_size) :: tl) := hD
    refine u_P_left hx hb hts hown hK hP hD hS 0 rfl rfl d_P_follow_15 (fun H locs hP hD hS => ?_)
    have hP : va_P D cls ((o_P a true (0 : Int32) r12 p_nextLineStart p_line p_state p_ending p_x p_y p_time p_pulses p_last p_feedRate p_motion p_relative) :: e1 :: e2 :: e3 :: e4 :: e5 :: e6 :: (o_S a s_startX s_startY s_dx s_dy s_size) :: (o_A a r_centreX r_centreY r_diagonal r_side r_first r_turn r_size) :: tl) H := hP
    have hD : va_D A ((o_P a true (0 : Int32) r12 p_nextLineStart p_line p_state p_ending p_x p_y p_time p_pulses p_last p_feedRate p_motion p_relative) :: e1 :: e2 :: e3 :: e4 :: e5 :: e6 :: (o_S a s_startX s_startY s_dx s_dy s_size) :: (o_A a r_centreX r_centreY r_diagonal r_side r_first r_turn r_size) :: tl) := hD
    exact hret H locs ls 18 ((true, (0 : Int32), r12)) d_P_follow_18 hP hD hS hw
def wp_P_startStraight (x1 x2 : Int32) (p_way : Bool) (p_done p_left p_x p_y s_startX s_startY s_dx s_dy s_size r_size : Int32) (Q : Int32 → Bool → Int32 → Int32 → Int32 → Int32 → Int32 → Int32 → Int32 → Prop) : Prop := (wp_P_isOutside x1 (fun r1 => ((¬ r1 = 0 → (Q (107 : Int32) p_way p_done p_left s_startX s_startY s_dx s_dy s_size)) ∧ (r1 = 0 → (wp_P_isOutside x2 (fun r8 => ((r8 = 0 → (wp_S_lay p_x p_y (x1 - p_x) (x2 - p_y) s_startX s_startY s_dx s_dy s_size (fun s_startX_41 s_startY_41 s_dx_41 s_dy_41 s_size_41 => (wp_P_follow false p_way p_done p_left s_size_41 r_size (fun p_way_49 p_done_49 p_left_49 => (Q (0 : Int32) p_way_49 p_done_49 p_left_49 s_startX_41 s_startY_41 s_dx_41 s_dy_41 s_size_41)))))) ∧ (¬ r8 = 0 → (Q (107 : Int32) p_way p_done p_left s_startX s_startY s_dx s_dy s_size)))))))))
abbrev rm_P_startStraight : Room := { frames := 2, cells := 0, slots := 0, locals := 45 }
set_option maxRecDepth 100000 in
set_option maxHeartbeats 4000000 in
theorem c_P_startStraight (l : Launch) {D : va_G} {X : xT} {a : Nat → Nat} {K : Nat → ClassId} {tl : va_W} {e1 e2 e3 e4 e5 e6 : Nat × va_E} {x1 x2 : Int32} {p_way : Bool} {p_done p_left p_nextLineStart p_line p_state p_ending p_x p_y : Int32} {p_time : Int64} {p_pulses p_last p_feedRate p_motion p_relative s_startX s_startY s_dx s_dy s_size r_centreX r_centreY r_diagonal r_side r_first r_turn r_size : Int32} {Q : Int32 → Bool → Int32 → Int32 → Int32 → Int32 → Int32 → Int32 → Int32 → Prop} : MI l y_P_startStraight b_P_startStraight 3 rm_P_startStraight D cls (tys K) X [.ref (a 0), .int x1, .int x2] ((o_P a p_way p_done p_left p_nextLineStart p_line p_state p_ending p_x p_y p_time p_pulses p_last p_feedRate p_motion p_relative) :: e1 :: e2 :: e3 :: e4 :: e5 :: e6 :: (o_S a s_startX s_startY s_dx s_dy s_size) :: (o_A a r_centreX r_centreY r_diagonal r_side r_first r_turn r_size) :: tl) (fun u : Bool × Int32 × Int32 × Int32 × Int32 × Int32 × Int32 × Int32 => (o_P a u.1 u.2.1 u.2.2.1 p_nextLineStart p_line p_state p_ending p_x p_y p_time p_pulses p_last p_feedRate p_motion p_relative) :: e1 :: e2 :: e3 :: e4 :: e5 :: e6 :: (o_S a u.2.2.2.1 u.2.2.2.2.1 u.2.2.2.2.2.1 u.2.2.2.2.2.2.1 u.2.2.2.2.2.2.2) :: (o_A a r_centreX r_centreY r_diagonal r_side r_first r_turn r_size) :: tl) (wp_P_startStraight x1 x2 p_way p_done p_left p_x p_y s_startX s_startY s_dx s_dy s_size r_size Q) (fun r u => Q r u.1 u.2.1 u.2.2.1 u.2.2.2.1 u.2.2.2.2.1 u.2.2.2.2.2.1 u.2.2.2.2.2.2.1 u.2.2.2.2.2.2.2) := by
  refine my_of_I (by decide +kernel) (Nat.le_of_ble_eq_true rfl) (fun p e s m args below meth c A QQ H locs ls hx hb hts hown hml hK hX hA hP hD hS hl hw hret => ?_)
  replace hl : lv_has ls 3 [(0, .ref (a 0)), (1, .int x1), (2, .int x2)] := hl
  unfold wp_P_startStraight at hw
  refine lv_iload_n hx hb d_P_startStraight_0 rfl (lv_at hl 1 rfl) ?_
  refine my_calli (va_runS (As := [.int x1]) (rest := []) ⟨hx, hb, hml, hown, hts⟩ (c_P_isOutside l H.size) (cw_P_158 hts ⟨Nat.le_of_ble_eq_true rfl, Nat.le_of_ble_eq_true rfl⟩) (my_preS hK hP hX hD hS hA hw) rfl rfl hl.1 rfl (lv_room (Nat.le_of_ble_eq_true rfl)) d_P_startStraight_1 ⟨Nat.le_refl _, Nat.le_refl _⟩) hD hS hA (fun r1 _ H locs hw hP hD hS => ?_)
  have hP : va_P D cls ((o_P a p_way p_done p_left p_nextLineStart p_line p_state p_ending p_x p_y p_time p_pulses p_last p_feedRate p_motion p_relative) :: e1 :: e2 :: e3 :: e4 :: e5 :: e6 :: (o_S a s_startX s_startY s_dx s_dy s_size) :: (o_A a r_centreX r_centreY r_diagonal r_side r_first r_turn r_size) :: tl) H := hP
  have hD : va_D A ((o_P a p_way p_done p_left p_nextLineStart p_line p_state p_ending p_x p_y p_time p_pulses p_last p_feedRate p_motion p_relative) :: e1 :: e2 :: e3 :: e4 :: e5 :: e6 :: (o_S a s_startX s_startY s_dx s_dy s_size) :: (o_A a r_centreX r_centreY r_diagonal r_side r_first r_turn r_size) :: tl) := hD
  refine lv_if_ne (tgt := 14) hx hb d_P_startStraight_4 (by decide) (fun hc => ?_) (fun hc => ?_)
  · replace hw := hw.1 hc
    refine lv_bipush (v := (107 : Int32)) hx hb d_P_startStraight_14 (by decide) ?_
    exact hret H locs ls 16 ((107 : Int32)) ((p_way, p_done, p_left, s_startX, s_startY, s_dx, s_dy, s_size)) d_P_startStraight_16 hP hD hS hw
  · replace hw := hw.2 hc
    refine lv_iload_n hx hb d_P_startStraight_7 rfl (lv_at hl 2 rfl) ?_
    refine my_calli (va_runS (As := [.int x2]) (rest := []) ⟨hx, hb, hml, hown, hts⟩ (c_P_isOutside l H.size) (cw_P_158 hts ⟨Nat.le_of_ble_eq_true rfl, Nat.le_of_ble_eq_true rfl⟩) (my_preS hK hP hX hD hS hA hw) rfl rfl hl.1 rfl (lv_room (Nat.le_of_ble_eq_true rfl)) d_P_startStraight_8 ⟨Nat.le_refl _, Nat.le_refl _⟩) hD hS hA (fun r8 _ H locs hw hP hD hS => ?_)
    have hP : va_P D cls ((o_P a p_way p_done p_left p_nextLineStart p_line p_state p_ending p_x p_y p_time p_pulses p_last p_feedRate p_motion p_relative) :: e1 :: e2 :: e3 :: e4 :: e5 :: e6 :: (o_S a s_startX s_startY s_dx s_dy s_size) :: (o_A a r_centreX r_centreY r_diagonal r_side r_first r_turn r_size) :: tl) H := hP
    have hD : va_D A ((o_P a p_way p_done p_left p_nextLineStart p_line p_state p_ending p_x p_y p_time p_pulses p_last p_feedRate p_motion p_relative) :: e1 :: e2 :: e3 :: e4 :: e5 :: e6 :: (o_S a s_startX s_startY s_dx s_dy s_size) :: (o_A a r_centreX r_centreY r_diagonal r_side r_first r_turn r_size) :: tl) := hD
    refine lv_if_eq (tgt := 17) hx hb d_P_startStraight_11 (by decide) (fun hc => ?_) (fun hc => ?_)
    · replace hw := hw.1 hc
      refine lv_aload_n hx hb d_P_startStraight_17 rfl (lv_at hl 0 rfl) ?_
      refine g_P_straight hx hb hts hown hK hP 0 rfl rfl d_P_startStraight_18 ?_
      refine lv_aload_n hx hb d_P_startStraight_21 rfl (lv_at hl 0 rfl) ?_
      refine g_P_x hx hb hts hown hK hP 0 rfl rfl d_P_startStraight_22 ?_
      refine lv_aload_n hx hb d_P_startStraight_25 rfl (lv_at hl 0 rfl) ?_
      refine g_P_y hx hb hts hown hK hP 0 rfl rfl d_P_startStraight_26 ?_
      refine lv_iload_n hx hb d_P_startStraight_29 rfl (lv_at hl 1 rfl) ?_
      refine lv_aload_n hx hb d_P_startStraight_30 rfl (lv_at hl 0 rfl) ?_
      refine g_P_x hx hb hts hown hK hP 0 rfl rfl d_P_startStraight_31 ?_
      refine lv_isub hx hb d_P_startStraight_34 ?_
      refine lv_iload_n hx hb d_P_startStraight_35 rfl (lv_at hl 2 rfl) ?_
      refine lv_aload_n hx hb d_P_startStraight_36 rfl (lv_at hl 0 rfl) ?_
      refine g_P_y hx hb hts hown hK hP 0 rfl rfl d_P_startStraight_37 ?_
      refine lv_isub hx hb d_P_startStraight_40 ?_
      refine my_callv (va_runV (As := [.int p_x, .int p_y, .int (x1 - p_x), .int (x2 - p_y)]) (rest := []) ⟨hx, hb, hml, hown, hts⟩ (c_S_lay l H.size) (cw_P_161 hts ⟨Nat.le_of_ble_eq_true rfl, Nat.le_of_ble_eq_true rfl⟩) (my_preV hK hP hX hD hS hA 7 rfl rfl hw) rfl rfl hl.1 rfl (lv_room (Nat.le_of_ble_eq_true rfl)) d_P_startStraight_41 ⟨Nat.le_refl _, Nat.le_refl _⟩) hD hS hA (fun u H locs hw hP hD hS => ?_)
      obtain ⟨s_startX_41, s_startY_41, s_dx_41, s_dy_41, s_size_41⟩ := u
      dsimp only at hw
      have hP : va_P D cls ((o_P a p_way p_done p_left p_nextLineStart p_line p_state p_ending p_x p_y p_time p_pulses p_last p_feedRate p_motion p_relative) :: e1 :: e2 :: e3 :: e4 :: e5 :: e6 :: (o_S a s_startX_41 s_startY_41 s_dx_41 s_dy_41 s_size_41) :: (o_A a r_centreX r_centreY r_diagonal r_side r_first r_turn r_size) :: tl) H := hP
      have hD : va_D A ((o_P a p_way p_done p_left p_nextLineStart p_line p_state p_ending p_x p_y p_time p_pulses p_last p_feedRate p_motion p_relative) :: e1 :: e2 :: e3 :: e4 :: e5 :: e6 :: (o_S a s_startX_41 s_startY_41 s_dx_41 s_dy_41 s_size_41) :: (o_A a r_centreX r_centreY r_diagonal r_side r_first r_turn r_size) :: tl) := hD
      refine lv_aload_n hx hb d_P_startStraight_44 rfl (lv_at hl 0 rfl) ?_
      refine lv_aload_n hx hb d_P_startStraight_45 rfl (lv_at hl 0 rfl) ?_
      refine g_P_straight hx hb hts hown hK hP 0 rfl rfl d_P_startStraight_46 ?_
      refine my_callv (va_runV (As := [.ref (bif false then a 8 else a 7)]) (rest := []) ⟨hx, hb, hml, hown, hts⟩ (c_P_follow (x1 := false) l H.size) (cw_P_165 hts ⟨Nat.le_of_ble_eq_true rfl, Nat.le_of_ble_eq_true rfl⟩) (my_preV hK hP hX hD hS hA 0 rfl rfl hw) rfl rfl hl.1 rfl (lv_room (Nat.le_of_ble_eq_true rfl)) d_P_startStraight_49 ⟨Nat.le_refl _, Nat.le_refl _⟩) hD hS hA (fun u H locs hw hP hD hS => ?_)
      obtain ⟨p_way_49, p_done_49, p_left_49⟩ := u
      dsimp only at hw
      have hP : va_P D cls ((o_P a p_way_49 p_done_49 p_left_49 p_nextLineStart p_line p_state p_ending p_x p_y p_time p_pulses p_last p_feedRate p_motion p_relative) :: e1 :: e2 :: e3 :: e4 :: e5 :: e6 :: (o_S a s_startX_41 s_startY_41 s_dx_41 s_dy_41 s_size_41) :: (o_A a r_centreX r_centreY r_diagonal r_side r_first r_turn r_size) :: tl) H := hP
      have hD : va_D A ((o_P a p_way_49 p_done_49 p_left_49 p_nextLineStart p_line p_state p_ending p_x p_y p_time p_pulses p_last p_feedRate p_motion p_relative) :: e1 :: e2 :: e3 :: e4 :: e5 :: e6 :: (o_S a s_startX_41 s_startY_41 s_dx_41 s_dy_41 s_size_41) :: (o_A a r_centreX r_centreY r_diagonal r_side r_first r_turn r_size) :: tl) := hD
      refine lv_iconst (v := (0 : Int32)) hx hb d_P_startStraight_52 (by decide) ?_
      exact hret H locs ls 53 ((0 : Int32)) ((p_way_49, p_done_49, p_left_49, s_startX_41, s_startY_41, s_dx_41, s_dy_41, s_size_41)) d_P_startStraight_53 hP hD hS hw
    · replace hw := hw.2 hc
      refine lv_bipush (v := (107 : Int32)) hx hb d_P_startStraight_14 (by decide) ?_
      exact hret H locs ls 16 ((107 : Int32)) ((p_way, p_done, p_left, s_startX, s_startY, s_dx, s_dy, s_size)) d_P_startStraight_16 hP hD hS hw
def wq_P_startArc_176 (Q : Int32 → Bool → Int32 → Int32 → Int32 → Int32 → Int32 → Int32 → Int32 → Int32 → Int32 → (Nat → Int32) → Prop) (s_size s1 s2 s3 s4 s5 : Int32) (p_way : Bool) (p_done p_left r_centreX r_centreY r_diagonal r_side r_first r_turn r_size : Int32) (ar : Nat → Int32) : Prop := (wp_A_join s1 s2 s3 s4 s5 r_diagonal r_side r_first r_turn r_size ar (fun r_first_176 r_turn_176 r_size_176 => (wp_P_follow true p_way p_done p_left s_size r_size_176 (fun p_way_184 p_done_184 p_left_184 => (Q (0 : Int32) p_way_184 p_done_184 p_left_184 r_centreX r_centreY r_diagonal r_side r_first_176 r_turn_176 r_size_176 ar)))))
def wp_P_startArc (x1 x2 : Int32) (p_way : Bool) (p_done p_left p_x p_y p_motion : Int32) (wz wn : Nat → Int32) (s_size r_centreX r_centreY r_diagonal r_side r_first r_turn r_size : Int32) (ar : Nat → Int32) (Q : Int32 → Bool → Int32 → Int32 → Int32 → Int32 → Int32 → Int32 → Int32 → Int32 → Int32 → (Nat → Int32) → Prop) : Prop := (wp_W_number (4 : Int32) wz wn (fun r5 => (wp_W_number (5 : Int32) wz wn (fun r14 => ((((r5 * r5) + (r14 * r14)) = 0 → (Q (106 : Int32) p_way p_done p_left r_centreX r_centreY r_diagonal r_side r_first r_turn r_size ar)) ∧ (¬ ((r5 * r5) + (r14 * r14)) = 0 → (((((x1 - (p_x + r5)) * (x1 - (p_x + r5))) + ((x2 - (p_y + r14)) * (x2 - (p_y + r14)))) = ((r5 * r5) + (r14 * r14)) → (wp_A_radius ((r5 * r5) + (r14 * r14)) (fun r85 => (wp_P_isOutside ((p_x + r5) - r85) (fun r95 => ((¬ r95 = 0 → (Q (107 : Int32) p_way p_done p_left r_centreX r_centreY r_diagonal r_side r_first r_turn r_size ar)) ∧ (r95 = 0 → (wp_P_isOutside ((p_x + r5) + r85) (fun r106 => ((¬ r106 = 0 → (Q (107 : Int32) p_way p_done p_left r_centreX r_centreY r_diagonal r_side r_first r_turn r_size ar)) ∧ (r106 = 0 → (wp_P_isOutside ((p_y + r14) - r85) (fun r117 => ((¬ r117 = 0 → (Q (107 : Int32) p_way p_done p_left r_centreX r_centreY r_diagonal r_side r_first r_turn r_size ar)) ∧ (r117 = 0 → (wp_P_isOutside ((p_y + r14) + r85) (fun r128 => ((r128 = 0 → (wp_A_lay (p_x + r5) (p_y + r14) ((r5 * r5) + (r14 * r14)) r_centreX r_centreY r_diagonal r_side ar (fun r_centreX_147 r_centreY_147 r_diagonal_147 r_side_147 ar_147 => ((¬ p_motion = (3 : Int32) → (wq_P_startArc_176 Q s_size (-r5) (-r14) (x1 - (p_x + r5)) (x2 - (p_y + r14)) (0 : Int32) p_way p_done p_left r_centreX_147 r_centreY_147 r_diagonal_147 r_side_147 r_first r_turn r_size ar_147)) ∧ (p_motion = (3 : Int32) → (wq_P_startArc_176 Q s_size (-r5) (-r14) (x1 - (p_x + r5)) (x2 - (p_y + r14)) (1 : Int32) p_way p_done p_left r_centreX_147 r_centreY_147 r_diagonal_147 r_side_147 r_first r_turn r_size ar_147)))))) ∧ (¬ r128 = 0 → (Q (107 : Int32) p_way p_done p_left r_centreX r_centreY r_diagonal r_side r_first r_turn r_size ar)))))))))))))))))))) ∧ (¬ (((x1 - (p_x + r5)) * (x1 - (p_x + r5))) + ((x2 - (p_y + r14)) * (x2 - (p_y + r14)))) = ((r5 * r5) + (r14 * r14)) → (Q (106 : Int32) p_way p_done p_left r_centreX r_centreY r_diagonal r_side r_first r_turn r_size ar)))))))))
abbrev rm_P_startArc : Room := { frames := 3, cells := 0, slots := 0, locals := 76 }
set_option maxRecDepth 100000 in
set_option maxHeartbeats 4000000 in
theorem c_P_startArc (l : Launch) {D : va_G} {X : xT} {a : Nat → Nat} {K : Nat → ClassId} {tl : va_W} {e1 e2 e4 : Nat × va_E} {x1 x2 : Int32} {p_way : Bool} {p_done p_left p_nextLineStart p_line p_state p_ending p_x p_y : Int32} {p_time : Int64} {p_pulses p_last p_feedRate p_motion p_relative w_rowSize w_at w_motion w_distances : Int32} {wz wn : Nat → Int32} {s_startX s_startY s_dx s_dy s_size r_centreX r_centreY r_diagonal r_side r_first r_turn r_size : Int32} {ar : Nat → Int32} {Q : Int32 → Bool → Int32 → Int32 → Int32 → Int32 → Int32 → Int32 → Int32 → Int32 → Int32 → (Nat → Int32) → Prop} : MI l y_P_startArc b_P_startArc 11 rm_P_startArc D cls (tys K) X [.ref (a 0), .int x1, .int x2] ((o_P a p_way p_done p_left p_nextLineStart p_line p_state p_ending p_x p_y p_time p_pulses p_last p_feedRate p_motion p_relative) :: e1 :: e2 :: (o_W a w_rowSize w_at w_motion w_distances) :: e4 :: (o_wz a K wz) :: (o_wn a K wn) :: (o_S a s_startX s_startY s_dx s_dy s_size) :: (o_A a r_centreX r_centreY r_diagonal r_side r_first r_turn r_size) :: (o_ar a K ar) :: tl) (fun u : Bool × Int32 × Int32 × Int32 × Int32 × Int32 × Int32 × Int32 × Int32 × Int32 × (Nat → Int32) => (o_P a u.1 u.2.1 u.2.2.1 p_nextLineStart p_line p_state p_ending p_x p_y p_time p_pulses p_last p_feedRate p_motion p_relative) :: e1 :: e2 :: (o_W a w_rowSize w_at w_motion w_distances) :: e4 :: (o_wz a K wz) :: (o_wn a K wn) :: (o_S a s_startX s_startY s_dx s_dy s_size) :: (o_A a u.2.2.2.1 u.2.2.2.2.1 u.2.2.2.2.2.1 u.2.2.2.2.2.2.1 u.2.2.2.2.2.2.2.1 u.2.2.2.2.2.2.2.2.1 u.2.2.2.2.2.2.2.2.2.1) :: (o_ar a K u.2.2.2.2.2.2.2.2.2.2) :: tl) (wp_P_startArc x1 x2 p_way p_done p_left p_x p_y p_motion wz wn s_size r_centreX r_centreY r_diagonal r_side r_first r_turn r_size ar Q) (fun r u => Q r u.1 u.2.1 u.2.2.1 u.2.2.2.1 u.2.2.2.2.1 u.2.2.2.2.2.1 u.2.2.2.2.2.2.1 u.2.2.2.2.2.2.2.1 u.2.2.2.2.2.2.2.2.1 u.2.2.2.2.2.2.2.2.2.1 u.2.2.2.2.2.2.2.2.2.2) := by
  refine my_of_I (by decide +kernel) (Nat.le_of_ble_eq_true rfl) (fun p e s m args below meth c A QQ H locs ls hx hb hts hown hml hK hX hA hP hD hS hl hw hret => ?_)
  replace hl : lv_has ls 11 [(0, .ref (a 0)), (1, .int x1), (2, .int x2)] := hl
  have J176 : ∀ (H : Heap) (locs : List Loc) (ls : Array Slot) (s1 s2 s3 s4 s5 : Int32) (p_way : Bool) (p_done p_left r_centreX r_centreY r_diagonal r_side r_first r_turn r_size : Int32) (ar : Nat → Int32), va_P D cls ((o_P a p_way p_done p_left p_nextLineStart p_line p_state p_ending p_x p_y p_time p_pulses p_last p_feedRate p_motion p_relative) :: e1 :: e2 :: (o_W a w_rowSize w_at w_motion w_distances) :: e4 :: (o_wz a K wz) :: (o_wn a K wn) :: (o_S a s_startX s_startY s_dx s_dy s_size) :: (o_A a r_centreX r_centreY r_diagonal r_side r_first r_turn r_size) :: (o_ar a K ar) :: tl) H → va_D A ((o_P a p_way p_done p_left p_nextLineStart p_line p_state p_ending p_x p_y p_time p_pulses p_last p_feedRate p_motion p_relative) :: e1 :: e2 :: (o_W a w_rowSize w_at w_motion w_distances) :: e4 :: (o_wz a K wz) :: (o_wn a K wn) :: (o_S a s_startX s_startY s_dx s_dy s_size) :: (o_A a r_centreX r_centreY r_diagonal r_side r_first r_turn r_size) :: (o_ar a K ar) :: tl) → va_S A s.heap H locs → lv_has ls 11 [(0, .ref (a 0))] → wq_P_startArc_176 Q s_size s1 s2 s3 s4 s5 p_way p_done p_left r_centreX r_centreY r_diagonal r_side r_first r_turn r_size ar → W p l e rm_P_startArc s m args below meth c H locs 0 0 QQ (F0 m 176 ls [.int s5, .int s4, .int s3, .int s2, .int s1, .ref (a 8)]) := by
    intro H locs ls s1 s2 s3 s4 s5 p_way p_done p_left r_centreX r_centreY r_diagonal r_side r_first r_turn r_size ar hP hD hS hl hw
    unfold wq_P_startArc_176 at hw
    refine my_callv (va_runV (As := [.int s1, .int s2, .int s3, .int s4, .int s5]) (rest := []) ⟨hx, hb, hml, hown, hts⟩ (c_A_join l H.size) (cw_P_175 hts ⟨Nat.le_of_ble_eq_true rfl, Nat.le_of_ble_eq_true rfl⟩) (my_preV hK hP hX hD hS hA 8 rfl rfl hw) rfl rfl hl.1 rfl (lv_room (Nat.le_of_ble_eq_true rfl)) d_P_startArc_176 ⟨Nat.le_refl _, Nat.le_refl _⟩) hD hS hA (fun u H locs hw hP hD hS => ?_)
    obtain ⟨r_first_176, r_turn_176, r_size_176⟩ := u
    dsimp only at hw
    have hP : va_P D cls ((o_P a p_way p_done p_left p_nextLineStart p_line p_state p_ending p_x p_y p_time p_pulses p_last p_feedRate p_motion p_relative) :: e1 :: e2 :: (o_W a w_rowSize w_at w_motion w_distances) :: e4 :: (o_wz a K wz) :: (o_wn a K wn) :: (o_S a s_startX s_startY s_dx s_dy s_size) :: (o_A a r_centreX r_centreY r_diagonal r_side r_first_176 r_turn_176 r_size_176) :: (o_ar a K ar) :: tl) H := hP
    have hD : va_D A ((o_P a p_way p_done p_left p_nextLineStart p_line p_state p_ending p_x p_y p_time p_pulses p_last p_feedRate p_motion p_relative) :: e1 :: e2 :: (o_W a w_rowSize w_at w_motion w_distances) :: e4 :: (o_wz a K wz) :: (o_wn a K wn) :: (o_S a s_startX s_startY s_dx s_dy s_size) :: (o_A a r_centreX r_centreY r_diagonal r_side r_first_176 r_turn_176 r_size_176) :: (o_ar a K ar) :: tl) := hD
    refine lv_aload_n hx hb d_P_startArc_179 rfl (lv_at hl 0 rfl) ?_
    refine lv_aload_n hx hb d_P_startArc_180 rfl (lv_at hl 0 rfl) ?_
    refine g_P_arc hx hb hts hown hK hP 0 rfl rfl d_P_startArc_181 ?_
    refine my_callv (va_runV (As := [.ref (bif true then a 8 else a 7)]) (rest := []) ⟨hx, hb, hml, hown, hts⟩ (c_P_follow (x1 := true) l H.size) (cw_P_165 hts ⟨Nat.le_of_ble_eq_true rfl, Nat.le_of_ble_eq_true rfl⟩) (my_preV hK hP hX hD hS hA 0 rfl rfl hw) rfl rfl hl.1 rfl (lv_room (Nat.le_of_ble_eq_true rfl)) d_P_startArc_184 ⟨Nat.le_refl _, Nat.le_refl _⟩) hD hS hA (fun u H locs hw hP hD hS => ?_)
    obtain ⟨p_way_184, p_done_184, p_left_184⟩ := u
    dsimp only at hw
    have hP : va_P D cls ((o_P a p_way_184 p_done_184 p_left_184 p_nextLineStart p_line p_state p_ending p_x p_y p_time p_pulses p_last p_feedRate p_motion p_relative) :: e1 :: e2 :: (o_W a w_rowSize w_at w_motion w_distances) :: e4 :: (o_wz a K wz) :: (o_wn a K wn) :: (o_S a s_startX s_startY s_dx s_dy s_size) :: (o_A a r_centreX r_centreY r_diagonal r_side r_first_176 r_turn_176 r_size_176) :: (o_ar a K ar) :: tl) H := hP
    have hD : va_D A ((o_P a p_way_184 p_done_184 p_left_184 p_nextLineStart p_line p_state p_ending p_x p_y p_time p_pulses p_last p_feedRate p_motion p_relative) :: e1 :: e2 :: (o_W a w_rowSize w_at w_motion w_distances) :: e4 :: (o_wz a K wz) :: (o_wn a K wn) :: (o_S a s_startX s_startY s_dx s_dy s_size) :: (o_A a r_centreX r_centreY r_diagonal r_side r_first_176 r_turn_176 r_size_176) :: (o_ar a K ar) :: tl) := hD
    refine lv_iconst (v := (0 : Int32)) hx hb d_P_startArc_187 (by decide) ?_
    exact hret H locs ls 188 ((0 : Int32)) ((p_way_184, p_done_184, p_left_184, r_centreX, r_centreY, r_diagonal, r_side, r_first_176, r_turn_176, r_size_176, ar)) d_P_startArc_188 hP hD hS hw
  unfold wp_P_startArc at hw
  refine lv_aload_n hx hb d_P_startArc_0 rfl (lv_at hl 0 rfl) ?_
  refine g_P_words hx hb hts hown hK hP 0 rfl rfl d_P_startArc_1 ?_
  refine lv_iconst (v := (4 : Int32)) hx hb d_P_startArc_4 (by decide) ?_
  refine my_calli (va_runV (As := [.int (4 : Int32)]) (rest := []) ⟨hx, hb, hml, hown, hts⟩ (c_W_number l H.size) (cw_P_141 hts ⟨Nat.le_of_ble_eq_true rfl, Nat.le_of_ble_eq_true rfl⟩) (my_preV hK hP hX hD hS hA 3 rfl rfl hw) rfl rfl hl.1 rfl (lv_room (Nat.le_of_ble_eq_true rfl)) d_P_startArc_5 ⟨Nat.le_refl _, Nat.le_refl _⟩) hD hS hA (fun r5 _ H locs hw hP hD hS => ?_)
  have hP : va_P D cls ((o_P a p_way p_done p_left p_nextLineStart p_line p_state p_ending p_x p_y p_time p_pulses p_last p_feedRate p_motion p_relative) :: e1 :: e2 :: (o_W a w_rowSize w_at w_motion w_distances) :: e4 :: (o_wz a K wz) :: (o_wn a K wn) :: (o_S a s_startX s_startY s_dx s_dy s_size) :: (o_A a r_centreX r_centreY r_diagonal r_side r_first r_turn r_size) :: (o_ar a K ar) :: tl) H := hP
  have hD : va_D A ((o_P a p_way p_done p_left p_nextLineStart p_line p_state p_ending p_x p_y p_time p_pulses p_last p_feedRate p_motion p_relative) :: e1 :: e2 :: (o_W a w_rowSize w_at w_motion w_distances) :: e4 :: (o_wz a K wz) :: (o_wn a K wn) :: (o_S a s_startX s_startY s_dx s_dy s_size) :: (o_A a r_centreX r_centreY r_diagonal r_side r_first r_turn r_size) :: (o_ar a K ar) :: tl) := hD
  refine lv_istore_n (lv' := [(3, .int r5), (0, .ref (a 0)), (1, .int x1), (2, .int x2)]) hx hb d_P_startArc_8 rfl hl (Nat.le_of_ble_eq_true rfl) rfl (fun ls hl => ?_)
  refine lv_aload_n hx hb d_P_startArc_9 rfl (lv_at hl 1 rfl) ?_
  refine g_P_words hx hb hts hown hK hP 0 rfl rfl d_P_startArc_10 ?_
  refine lv_iconst (v := (5 : Int32)) hx hb d_P_startArc_13 (by decide) ?_
  refine my_calli (va_runV (As := [.int (5 : Int32)]) (rest := []) ⟨hx, hb, hml, hown, hts⟩ (c_W_number l H.size) (cw_P_141 hts ⟨Nat.le_of_ble_eq_true rfl, Nat.le_of_ble_eq_true rfl⟩) (my_preV hK hP hX hD hS hA 3 rfl rfl hw) rfl rfl hl.1 rfl (lv_room (Nat.le_of_ble_eq_true rfl)) d_P_startArc_14 ⟨Nat.le_refl _, Nat.le_refl _⟩) hD hS hA (fun r14 _ H locs hw hP hD hS => ?_)
  have hP : va_P D cls ((o_P a p_way p_done p_left p_nextLineStart p_line p_state p_ending p_x p_y p_time p_pulses p_last p_feedRate p_motion p_relative) :: e1 :: e2 :: (o_W a w_rowSize w_at w_motion w_distances) :: e4 :: (o_wz a K wz) :: (o_wn a K wn) :: (o_S a s_startX s_startY s_dx s_dy s_size) :: (o_A a r_centreX r_centreY r_diagonal r_side r_first r_turn r_size) :: (o_ar a K ar) :: tl) H := hP
  have hD : va_D A ((o_P a p_way p_done p_left p_nextLineStart p_line p_state p_ending p_x p_y p_time p_pulses p_last p_feedRate p_motion p_relative) :: e1 :: e2 :: (o_W a w_rowSize w_at w_motion w_distances) :: e4 :: (o_wz a K wz) :: (o_wn a K wn) :: (o_S a s_startX s_startY s_dx s_dy s_size) :: (o_A a r_centreX r_centreY r_diagonal r_side r_first r_turn r_size) :: (o_ar a K ar) :: tl) := hD
  refine lv_istore (lv' := [(4, .int r14), (3, .int r5), (0, .ref (a 0)), (1, .int x1), (2, .int x2)]) hx hb d_P_startArc_17 hl (Nat.le_of_ble_eq_true rfl) rfl (fun ls hl => ?_)
  refine lv_aload_n hx hb d_P_startArc_19 rfl (lv_at hl 2 rfl) ?_
  refine g_P_x hx hb hts hown hK hP 0 rfl rfl d_P_startArc_20 ?_
  refine lv_iload_n hx hb d_P_startArc_23 rfl (lv_at hl 1 rfl) ?_
  refine lv_iadd hx hb d_P_startArc_24 ?_
  refine lv_istore (lv' := [(5, .int (p_x + r5)), (4, .int r14), (3, .int r5), (0, .ref (a 0)), (1, .int x1), (2, .int x2)]) hx hb d_P_startArc_25 hl (Nat.le_of_ble_eq_true rfl) rfl (fun ls hl => ?_)
  refine lv_aload_n hx hb d_P_startArc_27 rfl (lv_at hl 3 rfl) ?_
  refine g_P_y hx hb hts hown hK hP 0 rfl rfl d_P_startArc_28 ?_
  refine lv_iload hx hb d_P_startArc_31 (lv_at hl 1 rfl) ?_
  refine lv_iadd hx hb d_P_startArc_33 ?_
  refine lv_istore (lv' := [(6, .int (p_y + r14)), (5, .int (p_x + r5)), (4, .int r14), (3, .int r5), (0, .ref (a 0)), (1, .int x1), (2, .int x2)]) hx hb d_P_startArc_34 hl (Nat.le_of_ble_eq_true rfl) rfl (fun ls hl => ?_)
  refine lv_iload_n hx hb d_P_startArc_36 rfl (lv_at hl 5 rfl) ?_
  refine lv_iload hx hb d_P_startArc_37 (lv_at hl 1 rfl) ?_
  refine lv_isub hx hb d_P_startArc_39 ?_
  refine lv_istore (lv' := [(7, .int (x1 - (p_x + r5))), (6, .int (p_y + r14)), (5, .int (p_x + r5)), (4, .int r14), (3, .int r5), (0, .ref (a 0)), (1, .int x1), (2, .int x2)]) hx hb d_P_startArc_40 hl (Nat.le_of_ble_eq_true rfl) rfl (fun ls hl => ?_)
  refine lv_iload_n hx hb d_P_startArc_42 rfl (lv_at hl 7 rfl) ?_
  refine lv_iload hx hb d_P_startArc_43 (lv_at hl 1 rfl) ?_
  refine lv_isub hx hb d_P_startArc_45 ?_
  refine lv_istore (lv' := [(8, .int (x2 - (p_y + r14))), (7, .int (x1 - (p_x + r5))), (6, .int (p_y + r14)), (5, .int (p_x + r5)), (4, .int r14), (3, .int r5), (0, .ref (a 0)), (1, .int x1), (2, .int x2)]) hx hb d_P_startArc_46 hl (Nat.le_of_ble_eq_true rfl) rfl (fun ls hl => ?_)
  refine lv_iload_n hx hb d_P_startArc_48 rfl (lv_at hl 5 rfl) ?_
  refine lv_iload_n hx hb d_P_startArc_49 rfl (lv_at hl 5 rfl) ?_
  refine lv_imul hx hb d_P_startArc_50 ?_
  refine lv_iload hx hb d_P_startArc_51 (lv_at hl 4 rfl) ?_
  refine lv_iload hx hb d_P_startArc_53 (lv_at hl 4 rfl) ?_
  refine lv_imul hx hb d_P_startArc_55 ?_
  refine lv_iadd hx hb d_P_startArc_56 ?_
  refine lv_istore (lv' := [(9, .int ((r5 * r5) + (r14 * r14))), (8, .int (x2 - (p_y + r14))), (7, .int (x1 - (p_x + r5))), (6, .int (p_y + r14)), (5, .int (p_x + r5)), (4, .int r14), (3, .int r5), (0, .ref (a 0)), (1, .int x1), (2, .int x2)]) hx hb d_P_startArc_57 hl (Nat.le_of_ble_eq_true rfl) rfl (fun ls hl => ?_)
  refine lv_iload hx hb d_P_startArc_59 (lv_at hl 0 rfl) ?_
  refine lv_if_eq (tgt := 80) hx hb d_P_startArc_61 (by decide) (fun hc => ?_) (fun hc => ?_)
  · replace hw := hw.1 hc
    refine lv_bipush (v := (106 : Int32)) hx hb d_P_startArc_80 (by decide) ?_
    exact hret H locs ls 82 ((106 : Int32)) ((p_way, p_done, p_left, r_centreX, r_centreY, r_diagonal, r_side, r_first, r_turn, r_size, ar)) d_P_startArc_82 hP hD hS hw
  · replace hw := hw.2 hc
    refine lv_iload hx hb d_P_startArc_64 (lv_at hl 2 rfl) ?_
    refine lv_iload hx hb d_P_startArc_66 (lv_at hl 2 rfl) ?_
    refine lv_imul hx hb d_P_startArc_68 ?_
    refine lv_iload hx hb d_P_startArc_69 (lv_at hl 1 rfl) ?_
    refine lv_iload hx hb d_P_startArc_71 (lv_at hl 1 rfl) ?_
    refine lv_imul hx hb d_P_startArc_73 ?_
    refine lv_iadd hx hb d_P_startArc_74 ?_
    refine lv_iload hx hb d_P_startArc_75 (lv_at hl 0 rfl) ?_
    refine lv_icmp_eq (tgt := 83) hx hb d_P_startArc_77 (by decide) (fun hc => ?_) (fun hc => ?_)
    · replace hw := hw.1 hc
      refine lv_iload hx hb d_P_startArc_83 (lv_at hl 0 rfl) ?_
      refine my_calli (va_runS (As := [.int ((r5 * r5) + (r14 * r14))]) (rest := []) ⟨hx, hb, hml, hown, hts⟩ (c_A_radius l H.size) (cw_P_169 hts ⟨Nat.le_of_ble_eq_true rfl, Nat.le_of_ble_eq_true rfl⟩) (my_preS hK hP hX hD hS hA hw) rfl rfl hl.1 rfl (lv_room (Nat.le_of_ble_eq_true rfl)) d_P_startArc_85 ⟨Nat.le_refl _, Nat.le_refl _⟩) hD hS hA (fun r85 _ H locs hw hP hD hS => ?_)
      have hP : va_P D cls ((o_P a p_way p_done p_left p_nextLineStart p_line p_state p_ending p_x p_y p_time p_pulses p_last p_feedRate p_motion p_relative) :: e1 :: e2 :: (o_W a w_rowSize w_at w_motion w_distances) :: e4 :: (o_wz a K wz) :: (o_wn a K wn) :: (o_S a s_startX s_startY s_dx s_dy s_size) :: (o_A a r_centreX r_centreY r_diagonal r_side r_first r_turn r_size) :: (o_ar a K ar) :: tl) H := hP
      have hD : va_D A ((o_P a p_way p_done p_left p_nextLineStart p_line p_state p_ending p_x p_y p_time p_pulses p_last p_feedRate p_motion p_relative) :: e1 :: e2 :: (o_W a w_rowSize w_at w_motion w_distances) :: e4 :: (o_wz a K wz) :: (o_wn a K wn) :: (o_S a s_startX s_startY s_dx s_dy s_size) :: (o_A a r_centreX r_centreY r_diagonal r_side r_first r_turn r_size) :: (o_ar a K ar) :: tl) := hD
      refine lv_istore (lv' := [(10, .int r85), (9, .int ((r5 * r5) + (r14 * r14))), (8, .int (x2 - (p_y + r14))), (7, .int (x1 - (p_x + r5))), (6, .int (p_y + r14)), (5, .int (p_x + r5)), (4, .int r14), (3, .int r5), (0, .ref (a 0)), (1, .int x1), (2, .int x2)]) hx hb d_P_startArc_88 hl (Nat.le_of_ble_eq_true rfl) rfl (fun ls hl => ?_)
      refine lv_iload hx hb d_P_startArc_90 (lv_at hl 5 rfl) ?_
      refine lv_iload hx hb d_P_startArc_92 (lv_at hl 0 rfl) ?_
      refine lv_isub hx hb d_P_startArc_94 ?_
      refine my_calli (va_runS (As := [.int ((p_x + r5) - r85)]) (rest := []) ⟨hx, hb, hml, hown, hts⟩ (c_P_isOutside l H.size) (cw_P_158 hts ⟨Nat.le_of_ble_eq_true rfl, Nat.le_of_ble_eq_true rfl⟩) (my_preS hK hP hX hD hS hA hw) rfl rfl hl.1 rfl (lv_room (Nat.le_of_ble_eq_true rfl)) d_P_startArc_95 ⟨Nat.le_refl _, Nat.le_refl _⟩) hD hS hA (fun r95 _ H locs hw hP hD hS => ?_)
      have hP : va_P D cls ((o_P a p_way p_done p_left p_nextLineStart p_line p_state p_ending p_x p_y p_time p_pulses p_last p_feedRate p_motion p_relative) :: e1 :: e2 :: (o_W a w_rowSize w_at w_motion w_distances) :: e4 :: (o_wz a K wz) :: (o_wn a K wn) :: (o_S a s_startX s_startY s_dx s_dy s_size) :: (o_A a r_centreX r_centreY r_diagonal r_side r_first r_turn r_size) :: (o_ar a K ar) :: tl) H := hP
      have hD : va_D A ((o_P a p_way p_done p_left p_nextLineStart p_line p_state p_ending p_x p_y p_time p_pulses p_last p_feedRate p_motion p_relative) :: e1 :: e2 :: (o_W a w_rowSize w_at w_motion w_distances) :: e4 :: (o_wz a K wz) :: (o_wn a K wn) :: (o_S a s_startX s_startY s_dx s_dy s_size) :: (o_A a r_centreX r_centreY r_diagonal r_side r_first r_turn r_size) :: (o_ar a K ar) :: tl) := hD
      refine lv_if_ne (tgt := 134) hx hb d_P_startArc_98 (by decide) (fun hc => ?_) (fun hc => ?_)
      · replace hw := hw.1 hc
        refine lv_bipush (v := (107 : Int32)) hx hb d_P_startArc_134 (by decide) ?_
        exact hret H locs ls 136 ((107 : Int32)) ((p_way, p_done, p_left, r_centreX, r_centreY, r_diagonal, r_side, r_first, r_turn, r_size, ar)) d_P_startArc_136 hP hD hS hw
      · replace hw := hw.2 hc
        refine lv_iload hx hb d_P_startArc_101 (lv_at hl 5 rfl) ?_
        refine lv_iload hx hb d_P_startArc_103 (lv_at hl 0 rfl) ?_
        refine lv_iadd hx hb d_P_startArc_105 ?_
        refine my_calli (va_runS (As := [.int ((p_x + r5) + r85)]) (rest := []) ⟨hx, hb, hml, hown, hts⟩ (c_P_isOutside l H.size) (cw_P_158 hts ⟨Nat.le_of_ble_eq_true rfl, Nat.le_of_ble_eq_true rfl⟩) (my_preS hK hP hX hD hS hA hw) rfl rfl hl.1 rfl (lv_room (Nat.le_of_ble_eq_true rfl)) d_P_startArc_106 ⟨Nat.le_refl _, Nat.le_refl _⟩) hD hS hA (fun r106 _ H locs hw hP hD hS => ?_)
        have hP : va_P D cls ((o_P a p_way p_done p_left p_nextLineStart p_line p_state p_ending p_x p_y p_time p_pulses p_last p_feedRate p_motion p_relative) :: e1 :: e2 :: (o_W a w_rowSize w_at w_motion w_distances) :: e4 :: (o_wz a K wz) :: (o_wn a K wn) :: (o_S a s_startX s_startY s_dx s_dy s_size) :: (o_A a r_centreX r_centreY r_diagonal r_side r_first r_turn r_size) :: (o_ar a K ar) :: tl) H := hP
        have hD : va_D A ((o_P a p_way p_done p_left p_nextLineStart p_line p_state p_ending p_x p_y p_time p_pulses p_last p_feedRate p_motion p_relative) :: e1 :: e2 :: (o_W a w_rowSize w_at w_motion w_distances) :: e4 :: (o_wz a K wz) :: (o_wn a K wn) :: (o_S a s_startX s_startY s_dx s_dy s_size) :: (o_A a r_centreX r_centreY r_diagonal r_side r_first r_turn r_size) :: (o_ar a K ar) :: tl) := hD
        refine lv_if_ne (tgt := 134) hx hb d_P_startArc_109 (by decide) (fun hc => ?_) (fun hc => ?_)
        · replace hw := hw.1 hc
          refine lv_bipush (v := (107 : Int32)) hx hb d_P_startArc_134 (by decide) ?_
          exact hret H locs ls 136 ((107 : Int32)) ((p_way, p_done, p_left, r_centreX, r_centreY, r_diagonal, r_side, r_first, r_turn, r_size, ar)) d_P_startArc_136 hP hD hS hw
        · replace hw := hw.2 hc
          refine lv_iload hx hb d_P_startArc_112 (lv_at hl 4 rfl) ?_
          refine lv_iload hx hb d_P_startArc_114 (lv_at hl 0 rfl) ?_
          refine lv_isub hx hb d_P_startArc_116 ?_
          refine my_calli (va_runS (As := [.int ((p_y + r14) - r85)]) (rest := []) ⟨hx, hb, hml, hown, hts⟩ (c_P_isOutside l H.size) (cw_P_158 hts ⟨Nat.le_of_ble_eq_true rfl, Nat.le_of_ble_eq_true rfl⟩) (my_preS hK hP hX hD hS hA hw) rfl rfl hl.1 rfl (lv_room (Nat.le_of_ble_eq_true rfl)) d_P_startArc_117 ⟨Nat.le_refl _, Nat.le_refl _⟩) hD hS hA (fun r117 _ H locs hw hP hD hS => ?_)
          have hP : va_P D cls ((o_P a p_way p_done p_left p_nextLineStart p_line p_state p_ending p_x p_y p_time p_pulses p_last p_feedRate p_motion p_relative) :: e1 :: e2 :: (o_W a w_rowSize w_at w_motion w_distances) :: e4 :: (o_wz a K wz) :: (o_wn a K wn) :: (o_S a s_startX s_startY s_dx s_dy s_size) :: (o_A a r_centreX r_centreY r_diagonal r_side r_first r_turn r_size) :: (o_ar a K ar) :: tl) H := hP
          have hD : va_D A ((o_P a p_way p_done p_left p_nextLineStart p_line p_state p_ending p_x p_y p_time p_pulses p_last p_feedRate p_motion p_relative) :: e1 :: e2 :: (o_W a w_rowSize w_at w_motion w_distances) :: e4 :: (o_wz a K wz) :: (o_wn a K wn) :: (o_S a s_startX s_startY s_dx s_dy s_size) :: (o_A a r_centreX r_centreY r_diagonal r_side r_first r_turn r_size) :: (o_ar a K ar) :: tl) := hD
          refine lv_if_ne (tgt := 134) hx hb d_P_startArc_120 (by decide) (fun hc => ?_) (fun hc => ?_)
          · replace hw := hw.1 hc
            refine lv_bipush (v := (107 : Int32)) hx hb d_P_startArc_134 (by decide) ?_
            exact hret H locs ls 136 ((107 : Int32)) ((p_way, p_done, p_left, r_centreX, r_centreY, r_diagonal, r_side, r_first, r_turn, r_size, ar)) d_P_startArc_136 hP hD hS hw
          · replace hw := hw.2 hc
            refine lv_iload hx hb d_P_startArc_123 (lv_at hl 4 rfl) ?_
            refine lv_iload hx hb d_P_startArc_125 (lv_at hl 0 rfl) ?_
            refine lv_iadd hx hb d_P_startArc_127 ?_
            refine my_calli (va_runS (As := [.int ((p_y + r14) + r85)]) (rest := []) ⟨hx, hb, hml, hown, hts⟩ (c_P_isOutside l H.size) (cw_P_158 hts ⟨Nat.le_of_ble_eq_true rfl, Nat.le_of_ble_eq_true rfl⟩) (my_preS hK hP hX hD hS hA hw) rfl rfl hl.1 rfl (lv_room (Nat.le_of_ble_eq_true rfl)) d_P_startArc_128 ⟨Nat.le_refl _, Nat.le_refl _⟩) hD hS hA (fun r128 _ H locs hw hP hD hS => ?_)
            have hP : va_P D cls ((o_P a p_way p_done p_left p_nextLineStart p_line p_state p_ending p_x p_y p_time p_pulses p_last p_feedRate p_motion p_relative) :: e1 :: e2 :: (o_W a w_rowSize w_at w_motion w_distances) :: e4 :: (o_wz a K wz) :: (o_wn a K wn) :: (o_S a s_startX s_startY s_dx s_dy s_size) :: (o_A a r_centreX r_centreY r_diagonal r_side r_first r_turn r_size) :: (o_ar a K ar) :: tl) H := hP
            have hD : va_D A ((o_P a p_way p_done p_left p_nextLineStart p_line p_state p_ending p_x p_y p_time p_pulses p_last p_feedRate p_motion p_relative) :: e1 :: e2 :: (o_W a w_rowSize w_at w_motion w_distances) :: e4 :: (o_wz a K wz) :: (o_wn a K wn) :: (o_S a s_startX s_startY s_dx s_dy s_size) :: (o_A a r_centreX r_centreY r_diagonal r_side r_first r_turn r_size) :: (o_ar a K ar) :: tl) := hD
            refine lv_if_eq (tgt := 137) hx hb d_P_startArc_131 (by decide) (fun hc => ?_) (fun hc => ?_)
            · replace hw := hw.1 hc
              refine lv_aload_n hx hb d_P_startArc_137 rfl (lv_at hl 8 rfl) ?_
              refine g_P_arc hx hb hts hown hK hP 0 rfl rfl d_P_startArc_138 ?_
              refine lv_iload hx hb d_P_startArc_141 (lv_at hl 5 rfl) ?_
              refine lv_iload hx hb d_P_startArc_143 (lv_at hl 4 rfl) ?_
              refine lv_iload hx hb d_P_startArc_145 (lv_at hl 1 rfl) ?_
              refine my_callv (va_runV (As := [.int (p_x + r5), .int (p_y + r14), .int ((r5 * r5) + (r14 * r14))]) (rest := []) ⟨hx, hb, hml, hown, hts⟩ (c_A_lay l H.size) (cw_P_172 hts ⟨Nat.le_of_ble_eq_true rfl, Nat.le_of_ble_eq_true rfl⟩) (my_preV hK hP hX hD hS hA 8 rfl rfl hw) rfl rfl hl.1 rfl (lv_room (Nat.le_of_ble_eq_true rfl)) d_P_startArc_147 ⟨Nat.le_refl _, Nat.le_refl _⟩) hD hS hA (fun u H locs hw hP hD hS => ?_)
              obtain ⟨r_centreX_147, r_centreY_147, r_diagonal_147, r_side_147, ar_147⟩ := u
              dsimp only at hw
              have hP : va_P D cls ((o_P a p_way p_done p_left p_nextLineStart p_line p_state p_ending p_x p_y p_time p_pulses p_last p_feedRate p_motion p_relative) :: e1 :: e2 :: (o_W a w_rowSize w_at w_motion w_distances) :: e4 :: (o_wz a K wz) :: (o_wn a K wn) :: (o_S a s_startX s_startY s_dx s_dy s_size) :: (o_A a r_centreX_147 r_centreY_147 r_diagonal_147 r_side_147 r_first r_turn r_size) :: (o_ar a K ar_147) :: tl) H := hP
              have hD : va_D A ((o_P a p_way p_done p_left p_nextLineStart p_line p_state p_ending p_x p_y p_time p_pulses p_last p_feedRate p_motion p_relative) :: e1 :: e2 :: (o_W a w_rowSize w_at w_motion w_distances) :: e4 :: (o_wz a K wz) :: (o_wn a K wn) :: (o_S a s_startX s_startY s_dx s_dy s_size) :: (o_A a r_centreX_147 r_centreY_147 r_diagonal_147 r_side_147 r_first r_turn r_size) :: (o_ar a K ar_147) :: tl) := hD
              refine lv_aload_n hx hb d_P_startArc_150 rfl (lv_at hl 8 rfl) ?_
              refine g_P_arc hx hb hts hown hK hP 0 rfl rfl d_P_startArc_151 ?_
              refine lv_iload_n hx hb d_P_startArc_154 rfl (lv_at hl 7 rfl) ?_
              refine lv_ineg hx hb d_P_startArc_155 ?_
              refine lv_iload hx hb d_P_startArc_156 (lv_at hl 6 rfl) ?_
              refine lv_ineg hx hb d_P_startArc_158 ?_
              refine lv_iload hx hb d_P_startArc_159 (lv_at hl 3 rfl) ?_
              refine lv_iload hx hb d_P_startArc_161 (lv_at hl 2 rfl) ?_
              refine lv_aload_n hx hb d_P_startArc_163 rfl (lv_at hl 8 rfl) ?_
              refine g_P_motion hx hb hts hown hK hP 0 rfl rfl d_P_startArc_164 ?_
              refine lv_iconst (v := (3 : Int32)) hx hb d_P_startArc_167 (by decide) ?_
              refine lv_icmp_ne (tgt := 175) hx hb d_P_startArc_168 (by decide) (fun hc => ?_) (fun hc => ?_)
              · replace hw := hw.1 hc
                refine lv_iconst (v := (0 : Int32)) hx hb d_P_startArc_175 (by decide) ?_
                exact J176 H locs ls (-r5) (-r14) (x1 - (p_x + r5)) (x2 - (p_y + r14)) (0 : Int32) p_way p_done p_left r_centreX_147 r_centreY_147 r_diagonal_147 r_side_147 r_first r_turn r_size ar_147 hP hD hS (lv_sub hl [8] rfl) hw
              · replace hw := hw.2 hc
                refine lv_iconst (v := (1 : Int32)) hx hb d_P_startArc_171 (by decide) ?_
                refine lv_goto (tgt := 176) hx hb d_P_startArc_172 (by decide) ?_
                exact J176 H locs ls (-r5) (-r14) (x1 - (p_x + r5)) (x2 - (p_y + r14)) (1 : Int32) p_way p_done p_left r_centreX_147 r_centreY_147 r_diagonal_147 r_side_147 r_first r_turn r_size ar_147 hP hD hS (lv_sub hl [8] rfl) hw
            · replace hw := hw.2 hc
              refine lv_bipush (v := (107 : Int32)) hx hb d_P_startArc_134 (by decide) ?_
              exact hret H locs ls 136 ((107 : Int32)) ((p_way, p_done, p_left, r_centreX, r_centreY, r_diagonal, r_side, r_first, r_turn, r_size, ar)) d_P_startArc_136 hP hD hS hw
    · replace hw := hw.2 hc
      refine lv_bipush (v := (106 : Int32)) hx hb d_P_startArc_80 (by decide) ?_
      exact hret H locs ls 82 ((106 : Int32)) ((p_way, p_done, p_left, r_centreX, r_centreY, r_diagonal, r_side, r_first, r_turn, r_size, ar)) d_P_startArc_82 hP hD hS hw
def wq_P_startMove_127 (Q : Int32 → Bool → Int32 → Int32 → Int32 → Int32 → Int32 → Int32 → Int32 → Int32 → Int32 → Int32 → Int32 → Int32 → Int32 → Int32 → (Nat → Int32) → Prop) (p_x p_y p_motion p_relative : Int32) (wz wn : Nat → Int32) (x3 : Int32) (p_way : Bool) (p_done p_left s_startX s_startY s_dx s_dy s_size r_centreX r_centreY r_diagonal r_side r_first r_turn r_size : Int32) (ar : Nat → Int32) : Prop := (wp_P_goal (2 : Int32) p_x p_relative wz wn (fun r133 => (wp_P_goal (3 : Int32) p_y p_relative wz wn (fun r144 => ((x3 = 0 → (wp_P_startStraight r133 r144 p_way p_done p_left p_x p_y s_startX s_startY s_dx s_dy s_size r_size (fun r169 p_way_169 p_done_169 p_left_169 s_startX_169 s_startY_169 s_dx_169 s_dy_169 s_size_169 => (Q r169 p_way_169 p_done_169 p_left_169 s_startX_169 s_startY_169 s_dx_169 s_dy_169 s_size_169 r_centreX r_centreY r_diagonal r_side r_first r_turn r_size ar)))) ∧ (¬ x3 = 0 → (wp_P_startArc r133 r144 p_way p_done p_left p_x p_y p_motion wz wn s_size r_centreX r_centreY r_diagonal r_side r_first r_turn r_size ar (fun r158 p_way_158 p_done_158 p_left_158 r_centreX_158 r_centreY_158 r_diagonal_158 r_side_158 r_first_158 r_turn_158 r_size_158 ar_158 => (Q r158 p_way_158 p_done_158 p_left_158 s_startX s_startY s_dx s_dy s_size r_centreX_158 r_centreY_158 r_diagonal_158 r_side_158 r_first_158 r_turn_158 r_size_158 ar_158)))))))))
def wq_P_startMove_110 (Q : Int32 → Bool → Int32 → Int32 → Int32 → Int32 → Int32 → Int32 → Int32 → Int32 → Int32 → Int32 → Int32 → Int32 → Int32 → Int32 → (Nat → Int32) → Prop) (p_x p_y p_feedRate p_motion p_relative : Int32) (wz wn : Nat → Int32) (x3 : Int32) (p_way : Bool) (p_done p_left s_startX s_startY s_dx s_dy s_size r_centreX r_centreY r_diagonal r_side r_first r_turn r_size : Int32) (ar : Nat → Int32) : Prop := ((p_motion = 0 → (wq_P_startMove_127 Q p_x p_y p_motion p_relative wz wn x3 p_way p_done p_left s_startX s_startY s_dx s_dy s_size r_centreX r_centreY r_diagonal r_side r_first r_turn r_size ar)) ∧ (¬ p_motion = 0 → ((¬ p_feedRate = 0 → (wq_P_startMove_127 Q p_x p_y p_motion p_relative wz wn x3 p_way p_done p_left s_startX s_startY s_dx s_dy s_size r_centreX r_centreY r_diagonal r_side r_first r_turn r_size ar)) ∧ (p_feedRate = 0 → (Q (105 : Int32) p_way p_done p_left s_startX s_startY s_dx s_dy s_size r_centreX r_centreY r_diagonal r_side r_first r_turn r_size ar)))))
def wq_P_startMove_100 (Q : Int32 → Bool → Int32 → Int32 → Int32 → Int32 → Int32 → Int32 → Int32 → Int32 → Int32 → Int32 → Int32 → Int32 → Int32 → Int32 → (Nat → Int32) → Prop) (p_x p_y p_feedRate p_motion p_relative : Int32) (wz wn : Nat → Int32) (x1 x2 x3 : Int32) (p_way : Bool) (p_done p_left s_startX s_startY s_dx s_dy s_size r_centreX r_centreY r_diagonal r_side r_first r_turn r_size : Int32) (ar : Nat → Int32) : Prop := ((¬ x1 = 0 → (wq_P_startMove_110 Q p_x p_y p_feedRate p_motion p_relative wz wn x3 p_way p_done p_left s_startX s_startY s_dx s_dy s_size r_centreX r_centreY r_diagonal r_side r_first r_turn r_size ar)) ∧ (x1 = 0 → ((¬ x2 = 0 → (wq_P_startMove_110 Q p_x p_y p_feedRate p_motion p_relative wz wn x3 p_way p_done p_left s_startX s_startY s_dx s_dy s_size r_centreX r_centreY r_diagonal r_side r_first r_turn r_size ar)) ∧ (x2 = 0 → (Q (0 : Int32) p_way p_done p_left s_startX s_startY s_dx s_dy s_size r_centreX r_centreY r_diagonal r_side r_first r_turn r_size ar)))))
def wq_P_startMove_77 (Q : Int32 → Bool → Int32 → Int32 → Int32 → Int32 → Int32 → Int32 → Int32 → Int32 → Int32 → Int32 → Int32 → Int32 → Int32 → Int32 → (Nat → Int32) → Prop) (p_x p_y p_feedRate p_motion p_relative : Int32) (wz wn : Nat → Int32) (x1 x2 s0 : Int32) (p_way : Bool) (p_done p_left s_startX s_startY s_dx s_dy s_size r_centreX r_centreY r_diagonal r_side r_first r_turn r_size : Int32) (ar : Nat → Int32) : Prop := ((s0 = 0 → ((x2 = 0 → (wq_P_startMove_100 Q p_x p_y p_feedRate p_motion p_relative wz wn x1 x2 s0 p_way p_done p_left s_startX s_startY s_dx s_dy s_size r_centreX r_centreY r_diagonal r_side r_first r_turn r_size ar)) ∧ (¬ x2 = 0 → (Q (104 : Int32) p_way p_done p_left s_startX s_startY s_dx s_dy s_size r_centreX r_centreY r_diagonal r_side r_first r_turn r_size ar)))) ∧ (¬ s0 = 0 → ((x1 = 0 → (wq_P_startMove_100 Q p_x p_y p_feedRate p_motion p_relative wz wn x1 x2 s0 p_way p_done p_left s_startX s_startY s_dx s_dy s_size r_centreX r_centreY r_diagonal r_side r_first r_turn r_size ar)) ∧ (¬ x1 = 0 → ((¬ x2 = 0 → (wq_P_startMove_100 Q p_x p_y p_feedRate p_motion p_relative wz wn x1 x2 s0 p_way p_done p_left s_startX s_startY s_dx s_dy s_size r_centreX r_centreY r_diagonal r_side r_first r_turn r_size ar)) ∧ (x2 = 0 → (Q (104 : Int32) p_way p_done p_left s_startX s_startY s_dx s_dy s_size r_centreX r_centreY r_diagonal r_side r_first r_turn r_size ar)))))))
def wq_P_startMove_72 (Q : Int32 → Bool → Int32 → Int32 → Int32 → Int32 → Int32 → Int32 → Int32 → Int32 → Int32 → Int32 → Int32 → Int32 → Int32 → Int32 → (Nat → Int32) → Prop) (p_x p_y p_feedRate p_motion p_relative : Int32) (wz wn : Nat → Int32) (x1 x2 : Int32) (p_way : Bool) (p_done p_left s_startX s_startY s_dx s_dy s_size r_centreX r_centreY r_diagonal r_side r_first r_turn r_size : Int32) (ar : Nat → Int32) : Prop := (wq_P_startMove_77 Q p_x p_y p_feedRate p_motion p_relative wz wn x1 x2 (1 : Int32) p_way p_done p_left s_startX s_startY s_dx s_dy s_size r_centreX r_centreY r_diagonal r_side r_first r_turn r_size ar)
def wq_P_startMove_55 (Q : Int32 → Bool → Int32 → Int32 → Int32 → Int32 → Int32 → Int32 → Int32 → Int32 → Int32 → Int32 → Int32 → Int32 → Int32 → Int32 → (Nat → Int32) → Prop) (p_x p_y p_feedRate p_motion p_relative : Int32) (wz wn : Nat → Int32) (x1 s0 : Int32) (p_way : Bool) (p_done p_left s_startX s_startY s_dx s_dy s_size r_centreX r_centreY r_diagonal r_side r_first r_turn r_size : Int32) (ar : Nat → Int32) : Prop := ((p_motion = (2 : Int32) → (wq_P_startMove_72 Q p_x p_y p_feedRate p_motion p_relative wz wn x1 s0 p_way p_done p_left s_startX s_startY s_dx s_dy s_size r_centreX r_centreY r_diagonal r_side r_first r_turn r_size ar)) ∧ (¬ p_motion = (2 : Int32) → ((¬ p_motion = (3 : Int32) → (wq_P_startMove_77 Q p_x p_y p_feedRate p_motion p_relative wz wn x1 s0 (0 : Int32) p_way p_done p_left s_startX s_startY s_dx s_dy s_size r_centreX r_centreY r_diagonal r_side r_first r_turn r_size ar)) ∧ (p_motion = (3 : Int32) → (wq_P_startMove_72 Q p_x p_y p_feedRate p_motion p_relative wz wn x1 s0 p_way p_done p_left s_startX s_startY s_dx s_dy s_size r_centreX r_centreY r_diagonal r_side r_first r_turn r_size ar)))))
def wq_P_startMove_50 (Q : Int32 → Bool → Int32 → Int32 → Int32 → Int32 → Int32 → Int32 → Int32 → Int32 → Int32 → Int32 → Int32 → Int32 → Int32 → Int32 → (Nat → Int32) → Prop) (p_x p_y p_feedRate p_motion p_relative : Int32) (wz wn : Nat → Int32) (x1 : Int32) (p_way : Bool) (p_done p_left s_startX s_startY s_dx s_dy s_size r_centreX r_centreY r_diagonal r_side r_first r_turn r_size : Int32) (ar : Nat → Int32) : Prop := (wq_P_startMove_55 Q p_x p_y p_feedRate p_motion p_relative wz wn x1 (1 : Int32) p_way p_done p_left s_startX s_startY s_dx s_dy s_size r_centreX r_centreY r_diagonal r_side r_first r_turn r_size ar)
def wq_P_startMove_27 (Q : Int32 → Bool → Int32 → Int32 → Int32 → Int32 → Int32 → Int32 → Int32 → Int32 → Int32 → Int32 → Int32 → Int32 → Int32 → Int32 → (Nat → Int32) → Prop) (p_x p_y p_feedRate p_motion p_relative : Int32) (wz wn : Nat → Int32) (s0 : Int32) (p_way : Bool) (p_done p_left s_startX s_startY s_dx s_dy s_size r_centreX r_centreY r_diagonal r_side r_first r_turn r_size : Int32) (ar : Nat → Int32) : Prop := (wp_W_has (4 : Int32) wz (fun r33 => ((¬ r33 = 0 → (wq_P_startMove_50 Q p_x p_y p_feedRate p_motion p_relative wz wn s0 p_way p_done p_left s_startX s_startY s_dx s_dy s_size r_centreX r_centreY r_diagonal r_side r_first r_turn r_size ar)) ∧ (r33 = 0 → (wp_W_has (5 : Int32) wz (fun r44 => ((r44 = 0 → (wq_P_startMove_55 Q p_x p_y p_feedRate p_motion p_relative wz wn s0 (0 : Int32) p_way p_done p_left s_startX s_startY s_dx s_dy s_size r_centreX r_centreY r_diagonal r_side r_first r_turn r_size ar)) ∧ (¬ r44 = 0 → (wq_P_startMove_50 Q p_x p_y p_feedRate p_motion p_relative wz wn s0 p_way p_done p_left s_startX s_startY s_dx s_dy s_size r_centreX r_centreY r_diagonal r_side r_first r_turn r_size ar)))))))))
def wq_P_startMove_22 (Q : Int32 → Bool → Int32 → Int32 → Int32 → Int32 → Int32 → Int32 → Int32 → Int32 → Int32 → Int32 → Int32 → Int32 → Int32 → Int32 → (Nat → Int32) → Prop) (p_x p_y p_feedRate p_motion p_relative : Int32) (wz wn : Nat → Int32) (p_way : Bool) (p_done p_left s_startX s_startY s_dx s_dy s_size r_centreX r_centreY r_diagonal r_side r_first r_turn r_size : Int32) (ar : Nat → Int32) : Prop := (wq_P_startMove_27 Q p_x p_y p_feedRate p_motion p_relative wz wn (1 : Int32) p_way p_done p_left s_startX s_startY s_dx s_dy s_size r_centreX r_centreY r_diagonal r_side r_first r_turn r_size ar)
def wp_P_startMove (p_way : Bool) (p_done p_left p_x p_y p_feedRate p_motion p_relative : Int32) (wz wn : Nat → Int32) (s_startX s_startY s_dx s_dy s_size r_centreX r_centreY r_diagonal r_side r_first r_turn r_size : Int32) (ar : Nat → Int32) (Q : Int32 → Bool → Int32 → Int32 → Int32 → Int32 → Int32 → Int32 → Int32 → Int32 → Int32 → Int32 → Int32 → Int32 → Int32 → Int32 → (Nat → Int32) → Prop) : Prop := (wp_W_has (2 : Int32) wz (fun r5 => ((¬ r5 = 0 → (wq_P_startMove_22 Q p_x p_y p_feedRate p_motion p_relative wz wn p_way p_done p_left s_startX s_startY s_dx s_dy s_size r_centreX r_centreY r_diagonal r_side r_first r_turn r_size ar)) ∧ (r5 = 0 → (wp_W_has (3 : Int32) wz (fun r16 => ((r16 = 0 → (wq_P_startMove_27 Q p_x p_y p_feedRate p_motion p_relative wz wn (0 : Int32) p_way p_done p_left s_startX s_startY s_dx s_dy s_size r_centreX r_centreY r_diagonal r_side r_first r_turn r_size ar)) ∧ (¬ r16 = 0 → (wq_P_startMove_22 Q p_x p_y p_feedRate p_motion p_relative wz wn p_way p_done p_left s_startX s_startY s_dx s_dy s_size r_centreX r_centreY r_diagonal r_side r_first r_turn r_size ar)))))))))
abbrev rm_P_startMove : Room := { frames := 4, cells := 0, slots := 0, locals := 106 }
set_option maxRecDepth 100000 in
set_option maxHeartbeats 4000000 in
theorem c_P_startMove (l : Launch) {D : va_G} {X : xT} {a : Nat → Nat} {K : Nat → ClassId} {tl : va_W} {e1 e2 e4 : Nat × va_E} {p_way : Bool} {p_done p_left p_nextLineStart p_line p_state p_ending p_x p_y : Int32} {p_time : Int64} {p_pulses p_last p_feedRate p_motion p_relative w_rowSize w_at w_motion w_distances : Int32} {wz wn : Nat → Int32} {s_startX s_startY s_dx s_dy s_size r_centreX r_centreY r_diagonal r_side r_first r_turn r_size : Int32} {ar : Nat → Int32} {Q : Int32 → Bool → Int32 → Int32 → Int32 → Int32 → Int32 → Int32 → Int32 → Int32 → Int32 → Int32 → Int32 → Int32 → Int32 → Int32 → (Nat → Int32) → Prop} : MI l y_P_startMove b_P_startMove 6 rm_P_startMove D cls (tys K) X [.ref (a 0)] ((o_P a p_way p_done p_left p_nextLineStart p_line p_state p_ending p_x p_y p_time p_pulses p_last p_feedRate p_motion p_relative) :: e1 :: e2 :: (o_W a w_rowSize w_at w_motion w_distances) :: e4 :: (o_wz a K wz) :: (o_wn a K wn) :: (o_S a s_startX s_startY s_dx s_dy s_size) :: (o_A a r_centreX r_centreY r_diagonal r_side r_first r_turn r_size) :: (o_ar a K ar) :: tl) (fun u : Bool × Int32 × Int32 × Int32 × Int32 × Int32 × Int32 × Int32 × Int32 × Int32 × Int32 × Int32 × Int32 × Int32 × Int32 × (Nat → Int32) => (o_P a u.1 u.2.1 u.2.2.1 p_nextLineStart p_line p_state p_ending p_x p_y p_time p_pulses p_last p_feedRate p_motion p_relative) :: e1 :: e2 :: (o_W a w_rowSize w_at w_motion w_distances) :: e4 :: (o_wz a K wz) :: (o_wn a K wn) :: (o_S a u.2.2.2.1 u.2.2.2.2.1 u.2.2.2.2.2.1 u.2.2.2.2.2.2.1 u.2.2.2.2.2.2.2.1) :: (o_A a u.2.2.2.2.2.2.2.2.1 u.2.2.2.2.2.2.2.2.2.1 u.2.2.2.2.2.2.2.2.2.2.1 u.2.2.2.2.2.2.2.2.2.2.2.1 u.2.2.2.2.2.2.2.2.2.2.2.2.1 u.2.2.2.2.2.2.2.2.2.2.2.2.2.1 u.2.2.2.2.2.2.2.2.2.2.2.2.2.2.1) :: (o_ar a K u.2.2.2.2.2.2.2.2.2.2.2.2.2.2.2) :: tl) (wp_P_startMove p_way p_done p_left p_x p_y p_feedRate p_motion p_relative wz wn s_startX s_startY s_dx s_dy s_size r_centreX r_centreY r_diagonal r_side r_first r_turn r_size ar Q) (fun r u => Q r u.1 u.2.1 u.2.2.1 u.2.2.2.1 u.2.2.2.2.1 u.2.2.2.2.2.1 u.2.2.2.2.2.2.1 u.2.2.2.2.2.2.2.1 u.2.2.2.2.2.2.2.2.1 u.2.2.2.2.2.2.2.2.2.1 u.2.2.2.2.2.2.2.2.2.2.1 u.2.2.2.2.2.2.2.2.2.2.2.1 u.2.2.2.2.2.2.2.2.2.2.2.2.1 u.2.2.2.2.2.2.2.2.2.2.2.2.2.1 u.2.2.2.2.2.2.2.2.2.2.2.2.2.2.1 u.2.2.2.2.2.2.2.2.2.2.2.2.2.2.2) := by
  refine my_of_I (by decide +kernel) (Nat.le_of_ble_eq_true rfl) (fun p e s m args below meth c A QQ H locs ls hx hb hts hown hml hK hX hA hP hD hS hl hw hret => ?_)
  replace hl : lv_has ls 6 [(0, .ref (a 0))] := hl
  have J127 : ∀ (H : Heap) (locs : List Loc) (ls : Array Slot) (x3 : Int32) (p_way : Bool) (p_done p_left s_startX s_startY s_dx s_dy s_size r_centreX r_centreY r_diagonal r_side r_first r_turn r_size : Int32) (ar : Nat → Int32), va_P D cls ((o_P a p_way p_done p_left p_nextLineStart p_line p_state p_ending p_x p_y p_time p_pulses p_last p_feedRate p_motion p_relative) :: e1 :: e2 :: (o_W a w_rowSize w_at w_motion w_distances) :: e4 :: (o_wz a K wz) :: (o_wn a K wn) :: (o_S a s_startX s_startY s_dx s_dy s_size) :: (o_A a r_centreX r_centreY r_diagonal r_side r_first r_turn r_size) :: (o_ar a K ar) :: tl) H → va_D A ((o_P a p_way p_done p_left p_nextLineStart p_line p_state p_ending p_x p_y p_time p_pulses p_last p_feedRate p_motion p_relative) :: e1 :: e2 :: (o_W a w_rowSize w_at w_motion w_distances) :: e4 :: (o_wz a K wz) :: (o_wn a K wn) :: (o_S a s_startX s_startY s_dx s_dy s_size) :: (o_A a r_centreX r_centreY r_diagonal r_side r_first r_turn r_size) :: (o_ar a K ar) :: tl) → va_S A s.heap H locs → lv_has ls 6 [(0, .ref (a 0)), (3, .int x3)] → wq_P_startMove_127 Q p_x p_y p_motion p_relative wz wn x3 p_way p_done p_left s_startX s_startY s_dx s_dy s_size r_centreX r_centreY r_diagonal r_side r_first r_turn r_size ar → W p l e rm_P_startMove s m args below meth c H locs 0 0 QQ (F0 m 127 ls []) := by
    intro H locs ls x3 p_way p_done p_left s_startX s_startY s_dx s_dy s_size r_centreX r_centreY r_diagonal r_side r_first r_turn r_size ar hP hD hS hl hw
    unfold wq_P_startMove_127 at hw
    refine lv_aload_n hx hb d_P_startMove_127 rfl (lv_at hl 0 rfl) ?_
    refine lv_iconst (v := (2 : Int32)) hx hb d_P_startMove_128 (by decide) ?_
    refine lv_aload_n hx hb d_P_startMove_129 rfl (lv_at hl 0 rfl) ?_
    refine g_P_x hx hb hts hown hK hP 0 rfl rfl d_P_startMove_130 ?_
    refine my_calli (va_runV (As := [.int (2 : Int32), .int p_x]) (rest := []) ⟨hx, hb, hml, hown, hts⟩ (c_P_goal l H.size) (cw_P_149 hts ⟨Nat.le_of_ble_eq_true rfl, Nat.le_of_ble_eq_true rfl⟩) (my_preV hK hP hX hD hS hA 0 rfl rfl hw) rfl rfl hl.1 rfl (lv_room (Nat.le_of_ble_eq_true rfl)) d_P_startMove_133 ⟨Nat.le_refl _, Nat.le_refl _⟩) hD hS hA (fun r133 _ H locs hw hP hD hS => ?_)
    have hP : va_P D cls ((o_P a p_way p_done p_left p_nextLineStart p_line p_state p_ending p_x p_y p_time p_pulses p_last p_feedRate p_motion p_relative) :: e1 :: e2 :: (o_W a w_rowSize w_at w_motion w_distances) :: e4 :: (o_wz a K wz) :: (o_wn a K wn) :: (o_S a s_startX s_startY s_dx s_dy s_size) :: (o_A a r_centreX r_centreY r_diagonal r_side r_first r_turn r_size) :: (o_ar a K ar) :: tl) H := hP
    have hD : va_D A ((o_P a p_way p_done p_left p_nextLineStart p_line p_state p_ending p_x p_y p_time p_pulses p_last p_feedRate p_motion p_relative) :: e1 :: e2 :: (o_W a w_rowSize w_at w_motion w_distances) :: e4 :: (o_wz a K wz) :: (o_wn a K wn) :: (o_S a s_startX s_startY s_dx s_dy s_size) :: (o_A a r_centreX r_centreY r_diagonal r_side r_first r_turn r_size) :: (o_ar a K ar) :: tl) := hD
    refine lv_istore (lv' := [(4, .int r133), (0, .ref (a 0)), (3, .int x3)]) hx hb d_P_startMove_136 hl (Nat.le_of_ble_eq_true rfl) rfl (fun ls hl => ?_)
    refine lv_aload_n hx hb d_P_startMove_138 rfl (lv_at hl 1 rfl) ?_
    refine lv_iconst (v := (3 : Int32)) hx hb d_P_startMove_139 (by decide) ?_
    refine lv_aload_n hx hb d_P_startMove_140 rfl (lv_at hl 1 rfl) ?_
    refine g_P_y hx hb hts hown hK hP 0 rfl rfl d_P_startMove_141 ?_
    refine my_calli (va_runV (As := [.int (3 : Int32), .int p_y]) (rest := []) ⟨hx, hb, hml, hown, hts⟩ (c_P_goal l H.size) (cw_P_149 hts ⟨Nat.le_of_ble_eq_true rfl, Nat.le_of_ble_eq_true rfl⟩) (my_preV hK hP hX hD hS hA 0 rfl rfl hw) rfl rfl hl.1 rfl (lv_room (Nat.le_of_ble_eq_true rfl)) d_P_startMove_144 ⟨Nat.le_refl _, Nat.le_refl _⟩) hD hS hA (fun r144 _ H locs hw hP hD hS => ?_)
    have hP : va_P D cls ((o_P a p_way p_done p_left p_nextLineStart p_line p_state p_ending p_x p_y p_time p_pulses p_last p_feedRate p_motion p_relative) :: e1 :: e2 :: (o_W a w_rowSize w_at w_motion w_distances) :: e4 :: (o_wz a K wz) :: (o_wn a K wn) :: (o_S a s_startX s_startY s_dx s_dy s_size) :: (o_A a r_centreX r_centreY r_diagonal r_side r_first r_turn r_size) :: (o_ar a K ar) :: tl) H := hP
    have hD : va_D A ((o_P a p_way p_done p_left p_nextLineStart p_line p_state p_ending p_x p_y p_time p_pulses p_last p_feedRate p_motion p_relative) :: e1 :: e2 :: (o_W a w_rowSize w_at w_motion w_distances) :: e4 :: (o_wz a K wz) :: (o_wn a K wn) :: (o_S a s_startX s_startY s_dx s_dy s_size) :: (o_A a r_centreX r_centreY r_diagonal r_side r_first r_turn r_size) :: (o_ar a K ar) :: tl) := hD
    refine lv_istore (lv' := [(5, .int r144), (4, .int r133), (0, .ref (a 0)), (3, .int x3)]) hx hb d_P_startMove_147 hl (Nat.le_of_ble_eq_true rfl) rfl (fun ls hl => ?_)
    refine lv_iload_n hx hb d_P_startMove_149 rfl (lv_at hl 3 rfl) ?_
    refine lv_if_eq (tgt := 164) hx hb d_P_startMove_150 (by decide) (fun hc => ?_) (fun hc => ?_)
    · replace hw := hw.1 hc
      refine lv_aload_n hx hb d_P_startMove_164 rfl (lv_at hl 2 rfl) ?_
      refine lv_iload hx hb d_P_startMove_165 (lv_at hl 1 rfl) ?_
      refine lv_iload hx hb d_P_startMove_167 (lv_at hl 0 rfl) ?_
      refine my_calli (va_runV (As := [.int r133, .int r144]) (rest := []) ⟨hx, hb, hml, hown, hts⟩ (c_P_startStraight l H.size) (cw_P_155 hts ⟨Nat.le_of_ble_eq_true rfl, Nat.le_of_ble_eq_true rfl⟩) (my_preV hK hP hX hD hS hA 0 rfl rfl hw) rfl rfl hl.1 rfl (lv_room (Nat.le_of_ble_eq_true rfl)) d_P_startMove_169 ⟨Nat.le_refl _, Nat.le_refl _⟩) hD hS hA (fun r169 u H locs hw hP hD hS => ?_)
      obtain ⟨p_way_169, p_done_169, p_left_169, s_startX_169, s_startY_169, s_dx_169, s_dy_169, s_size_169⟩ := u
      dsimp only at hw
      have hP : va_P D cls ((o_P a p_way_169 p_done_169 p_left_169 p_nextLineStart p_line p_state p_ending p_x p_y p_time p_pulses p_last p_feedRate p_motion p_relative) :: e1 :: e2 :: (o_W a w_rowSize w_at w_motion w_distances) :: e4 :: (o_wz a K wz) :: (o_wn a K wn) :: (o_S a s_startX_169 s_startY_169 s_dx_169 s_dy_169 s_size_169) :: (o_A a r_centreX r_centreY r_diagonal r_side r_first r_turn r_size) :: (o_ar a K ar) :: tl) H := hP
      have hD : va_D A ((o_P a p_way_169 p_done_169 p_left_169 p_nextLineStart p_line p_state p_ending p_x p_y p_time p_pulses p_last p_feedRate p_motion p_relative) :: e1 :: e2 :: (o_W a w_rowSize w_at w_motion w_distances) :: e4 :: (o_wz a K wz) :: (o_wn a K wn) :: (o_S a s_startX_169 s_startY_169 s_dx_169 s_dy_169 s_size_169) :: (o_A a r_centreX r_centreY r_diagonal r_side r_first r_turn r_size) :: (o_ar a K ar) :: tl) := hD
      exact hret H locs ls 172 (r169) ((p_way_169, p_done_169, p_left_169, s_startX_169, s_startY_169, s_dx_169, s_dy_169, s_size_169, r_centreX, r_centreY, r_diagonal, r_side, r_first, r_turn, r_size, ar)) d_P_startMove_172 hP hD hS hw
    · replace hw := hw.2 hc
      refine lv_aload_n hx hb d_P_startMove_153 rfl (lv_at hl 2 rfl) ?_
      refine lv_iload hx hb d_P_startMove_154 (lv_at hl 1 rfl) ?_
      refine lv_iload hx hb d_P_startMove_156 (lv_at hl 0 rfl) ?_
      refine my_calli (va_runV (As := [.int r133, .int r144]) (rest := []) ⟨hx, hb, hml, hown, hts⟩ (c_P_startArc l H.size) (cw_P_152 hts ⟨Nat.le_of_ble_eq_true rfl, Nat.le_of_ble_eq_true rfl⟩) (my_preV hK hP hX hD hS hA 0 rfl rfl hw) rfl rfl hl.1 rfl (lv_room (Nat.le_of_ble_eq_true rfl)) d_P_startMove_158 ⟨Nat.le_refl _, Nat.le_refl _⟩) hD hS hA (fun r158 u H locs hw hP hD hS => ?_)
      obtain ⟨p_way_158, p_done_158, p_left_158, r_centreX_158, r_centreY_158, r_diagonal_158, r_side_158, r_first_158, r_turn_158, r_size_158, ar_158⟩ := u
      dsimp only at hw
      have hP : va_P D cls ((o_P a p_way_158 p_done_158 p_left_158 p_nextLineStart p_line p_state p_ending p_x p_y p_time p_pulses p_last p_feedRate p_motion p_relative) :: e1 :: e2 :: (o_W a w_rowSize w_at w_motion w_distances) :: e4 :: (o_wz a K wz) :: (o_wn a K wn) :: (o_S a s_startX s_startY s_dx s_dy s_size) :: (o_A a r_centreX_158 r_centreY_158 r_diagonal_158 r_side_158 r_first_158 r_turn_158 r_size_158) :: (o_ar a K ar_158) :: tl) H := hP
      have hD : va_D A ((o_P a p_way_158 p_done_158 p_left_158 p_nextLineStart p_line p_state p_ending p_x p_y p_time p_pulses p_last p_feedRate p_motion p_relative) :: e1 :: e2 :: (o_W a w_rowSize w_at w_motion w_distances) :: e4 :: (o_wz a K wz) :: (o_wn a K wn) :: (o_S a s_startX s_startY s_dx s_dy s_size) :: (o_A a r_centreX_158 r_centreY_158 r_diagonal_158 r_side_158 r_first_158 r_turn_158 r_size_158) :: (o_ar a K ar_158) :: tl) := hD
      refine lv_goto (tgt := 172) hx hb d_P_startMove_161 (by decide) ?_
      exact hret H locs ls 172 (r158) ((p_way_158, p_done_158, p_left_158, s_startX, s_startY, s_dx, s_dy, s_size, r_centreX_158, r_centreY_158, r_diagonal_158, r_side_158, r_first_158, r_turn_158, r_size_158, ar_158)) d_P_startMove_172 hP hD hS hw
  have J110 : ∀ (H : Heap) (locs : List Loc) (ls : Array Slot) (x3 : Int32) (p_way : Bool) (p_done p_left s_startX s_startY s_dx s_dy s_size r_centreX r_centreY r_diagonal r_side r_first r_turn r_size : Int32) (ar : Nat → Int32), va_P D cls ((o_P a p_way p_done p_left p_nextLineStart p_line p_state p_ending p_x p_y p_time p_pulses p_last p_feedRate p_motion p_relative) :: e1 :: e2 :: (o_W a w_rowSize w_at w_motion w_distances) :: e4 :: (o_wz a K wz) :: (o_wn a K wn) :: (o_S a s_startX s_startY s_dx s_dy s_size) :: (o_A a r_centreX r_centreY r_diagonal r_side r_first r_turn r_size) :: (o_ar a K ar) :: tl) H → va_D A ((o_P a p_way p_done p_left p_nextLineStart p_line p_state p_ending p_x p_y p_time p_pulses p_last p_feedRate p_motion p_relative) :: e1 :: e2 :: (o_W a w_rowSize w_at w_motion w_distances) :: e4 :: (o_wz a K wz) :: (o_wn a K wn) :: (o_S a s_startX s_startY s_dx s_dy s_size) :: (o_A a r_centreX r_centreY r_diagonal r_side r_first r_turn r_size) :: (o_ar a K ar) :: tl) → va_S A s.heap H locs → lv_has ls 6 [(0, .ref (a 0)), (3, .int x3)] → wq_P_startMove_110 Q p_x p_y p_feedRate p_motion p_relative wz wn x3 p_way p_done p_left s_startX s_startY s_dx s_dy s_size r_centreX r_centreY r_diagonal r_side r_first r_turn r_size ar → W p l e rm_P_startMove s m args below meth c H locs 0 0 QQ (F0 m 110 ls []) := by
    intro H locs ls x3 p_way p_done p_left s_startX s_startY s_dx s_dy s_size r_centreX r_centreY r_diagonal r_side r_first r_turn r_size ar hP hD hS hl hw
    unfold wq_P_startMove_110 at hw
    refine lv_aload_n hx hb d_P_startMove_110 rfl (lv_at hl 0 rfl) ?_
    refine g_P_motion hx hb hts hown hK hP 0 rfl rfl d_P_startMove_111 ?_
    refine lv_if_eq (tgt := 127) hx hb d_P_startMove_114 (by decide) (fun hc => ?_) (fun hc => ?_)
    · replace hw := hw.1 hc
      exact J127 H locs ls x3 p_way p_done p_left s_startX s_startY s_dx s_dy s_size r_centreX r_centreY r_diagonal r_side r_first r_turn r_size ar hP hD hS (lv_sub hl [0, 1] rfl) hw
    · replace hw := hw.2 hc
      refine lv_aload_n hx hb d_P_startMove_117 rfl (lv_at hl 0 rfl) ?_
      refine g_P_feedRate hx hb hts hown hK hP 0 rfl rfl d_P_startMove_118 ?_
      refine lv_if_ne (tgt := 127) hx hb d_P_startMove_121 (by decide) (fun hc => ?_) (fun hc => ?_)
      · replace hw := hw.1 hc
        exact J127 H locs ls x3 p_way p_done p_left s_startX s_startY s_dx s_dy s_size r_centreX r_centreY r_diagonal r_side r_first r_turn r_size ar hP hD hS (lv_sub hl [0, 1] rfl) hw
      · replace hw := hw.2 hc
        refine lv_bipush (v := (105 : Int32)) hx hb d_P_startMove_124 (by decide) ?_
        exact hret H locs ls 126 ((105 : Int32)) ((p_way, p_done, p_left, s_startX, s_startY, s_dx, s_dy, s_size, r_centreX, r_centreY, r_diagonal, r_side, r_first, r_turn, r_size, ar)) d_P_startMove_126 hP hD hS hw
  have J100 : ∀ (H : Heap) (locs : List Loc) (ls : Array Slot) (x1 x2 x3 : Int32) (p_way : Bool) (p_done p_left s_startX s_startY s_dx s_dy s_size r_centreX r_centreY r_diagonal r_side r_first r_turn r_size : Int32) (ar : Nat → Int32), va_P D cls ((o_P a p_way p_done p_left p_nextLineStart p_line p_state p_ending p_x p_y p_time p_pulses p_last p_feedRate p_motion p_relative) :: e1 :: e2 :: (o_W a w_rowSize w_at w_motion w_distances) :: e4 :: (o_wz a K wz) :: (o_wn a K wn) :: (o_S a s_startX s_startY s_dx s_dy s_size) :: (o_A a r_centreX r_centreY r_diagonal r_side r_first r_turn r_size) :: (o_ar a K ar) :: tl) H → va_D A ((o_P a p_way p_done p_left p_nextLineStart p_line p_state p_ending p_x p_y p_time p_pulses p_last p_feedRate p_motion p_relative) :: e1 :: e2 :: (o_W a w_rowSize w_at w_motion w_distances) :: e4 :: (o_wz a K wz) :: (o_wn a K wn) :: (o_S a s_startX s_startY s_dx s_dy s_size) :: (o_A a r_centreX r_centreY r_diagonal r_side r_first r_turn r_size) :: (o_ar a K ar) :: tl) → va_S A s.heap H locs → lv_has ls 6 [(0, .ref (a 0)), (1, .int x1), (2, .int x2), (3, .int x3)] → wq_P_startMove_100 Q p_x p_y p_feedRate p_motion p_relative wz wn x1 x2 x3 p_way p_done p_left s_startX s_startY s_dx s_dy s_size r_centreX r_centreY r_diagonal r_side r_first r_turn r_size ar → W p l e rm_P_startMove s m args below meth c H locs 0 0 QQ (F0 m 100 ls []) := by
    intro H locs ls x1 x2 x3 p_way p_done p_left s_startX s_startY s_dx s_dy s_size r_centreX r_centreY r_diagonal r_side r_first r_turn r_size ar hP hD hS hl hw
    unfold wq_P_startMove_100 at hw
    refine lv_iload_n hx hb d_P_startMove_100 rfl (lv_at hl 1 rfl) ?_
    refine lv_if_ne (tgt := 110) hx hb d_P_startMove_101 (by decide) (fun hc => ?_) (fun hc => ?_)
    · replace hw := hw.1 hc
      exact J110 H locs ls x3 p_way p_done p_left s_startX s_startY s_dx s_dy s_size r_centreX r_centreY r_diagonal r_side r_first r_turn r_size ar hP hD hS (lv_sub hl [0, 3] rfl) hw
    · replace hw := hw.2 hc
      refine lv_iload_n hx hb d_P_startMove_104 rfl (lv_at hl 2 rfl) ?_
      refine lv_if_ne (tgt := 110) hx hb d_P_startMove_105 (by decide) (fun hc => ?_) (fun hc => ?_)
      · replace hw := hw.1 hc
        exact J110 H locs ls x3 p_way p_done p_left s_startX s_startY s_dx s_dy s_size r_centreX r_centreY r_diagonal r_side r_first r_turn r_size ar hP hD hS (lv_sub hl [0, 3] rfl) hw
      · replace hw := hw.2 hc
        refine lv_iconst (v := (0 : Int32)) hx hb d_P_startMove_108 (by decide) ?_
        exact hret H locs ls 109 ((0 : Int32)) ((p_way, p_done, p_left, s_startX, s_startY, s_dx, s_dy, s_size, r_centreX, r_centreY, r_diagonal, r_side, r_first, r_turn, r_size, ar)) d_P_startMove_109 hP hD hS hw
  have J77 : ∀ (H : Heap) (locs : List Loc) (ls : Array Slot) (x1 x2 s0 : Int32) (p_way : Bool) (p_done p_left s_startX s_startY s_dx s_dy s_size r_centreX r_centreY r_diagonal r_side r_first r_turn r_size : Int32) (ar : Nat → Int32), va_P D cls ((o_P a p_way p_done p_left p_nextLineStart p_line p_state p_ending p_x p_y p_time p_pulses p_last p_feedRate p_motion p_relative) :: e1 :: e2 :: (o_W a w_rowSize w_at w_motion w_distances) :: e4 :: (o_wz a K wz) :: (o_wn a K wn) :: (o_S a s_startX s_startY s_dx s_dy s_size) :: (o_A a r_centreX r_centreY r_diagonal r_side r_first r_turn r_size) :: (o_ar a K ar) :: tl) H → va_D A ((o_P a p_way p_done p_left p_nextLineStart p_line p_state p_ending p_x p_y p_time p_pulses p_last p_feedRate p_motion p_relative) :: e1 :: e2 :: (o_W a w_rowSize w_at w_motion w_distances) :: e4 :: (o_wz a K wz) :: (o_wn a K wn) :: (o_S a s_startX s_startY s_dx s_dy s_size) :: (o_A a r_centreX r_centreY r_diagonal r_side r_first r_turn r_size) :: (o_ar a K ar) :: tl) → va_S A s.heap H locs → lv_has ls 6 [(0, .ref (a 0)), (1, .int x1), (2, .int x2)] → wq_P_startMove_77 Q p_x p_y p_feedRate p_motion p_relative wz wn x1 x2 s0 p_way p_done p_left s_startX s_startY s_dx s_dy s_size r_centreX r_centreY r_diagonal r_side r_first r_turn r_size ar → W p l e rm_P_startMove s m args below meth c H locs 0 0 QQ (F0 m 77 ls [.int s0]) := by
    intro H locs ls x1 x2 s0 p_way p_done p_left s_startX s_startY s_dx s_dy s_size r_centreX r_centreY r_diagonal r_side r_first r_turn r_size ar hP hD hS hl hw
    unfold wq_P_startMove_77 at hw
    refine lv_istore_n (lv' := [(3, .int s0), (0, .ref (a 0)), (1, .int x1), (2, .int x2)]) hx hb d_P_startMove_77 rfl hl (Nat.le_of_ble_eq_true rfl) rfl (fun ls hl => ?_)
    refine lv_iload_n hx hb d_P_startMove_78 rfl (lv_at hl 0 rfl) ?_
    refine lv_if_eq (tgt := 93) hx hb d_P_startMove_79 (by decide) (fun hc => ?_) (fun hc => ?_)
    · replace hw := hw.1 hc
      refine lv_iload_n hx hb d_P_startMove_93 rfl (lv_at hl 3 rfl) ?_
      refine lv_if_eq (tgt := 100) hx hb d_P_startMove_94 (by decide) (fun hc => ?_) (fun hc => ?_)
      · replace hw := hw.1 hc
        exact J100 H locs ls x1 x2 s0 p_way p_done p_left s_startX s_startY s_dx s_dy s_size r_centreX r_centreY r_diagonal r_side r_first r_turn r_size ar hP hD hS (lv_sub hl [1, 2, 3, 0] rfl) hw
      · replace hw := hw.2 hc
        refine lv_bipush (v := (104 : Int32)) hx hb d_P_startMove_97 (by decide) ?_
        exact hret H locs ls 99 ((104 : Int32)) ((p_way, p_done, p_left, s_startX, s_startY, s_dx, s_dy, s_size, r_centreX, r_centreY, r_diagonal, r_side, r_first, r_turn, r_size, ar)) d_P_startMove_99 hP hD hS hw
    · replace hw := hw.2 hc
      refine lv_iload_n hx hb d_P_startMove_82 rfl (lv_at hl 2 rfl) ?_
      refine lv_if_eq (tgt := 100) hx hb d_P_startMove_83 (by decide) (fun hc => ?_) (fun hc => ?_)
      · replace hw := hw.1 hc
        exact J100 H locs ls x1 x2 s0 p_way p_done p_left s_startX s_startY s_dx s_dy s_size r_centreX r_centreY r_diagonal r_side r_first r_turn r_size ar hP hD hS (lv_sub hl [1, 2, 3, 0] rfl) hw
      · replace hw := hw.2 hc
        refine lv_iload_n hx hb d_P_startMove_86 rfl (lv_at hl 3 rfl) ?_
        refine lv_if_ne (tgt := 100) hx hb d_P_startMove_87 (by decide) (fun hc => ?_) (fun hc => ?_)
        · replace hw := hw.1 hc
          exact J100 H locs ls x1 x2 s0 p_way p_done p_left s_startX s_startY s_dx s_dy s_size r_centreX r_centreY r_diagonal r_side r_first r_turn r_size ar hP hD hS (lv_sub hl [1, 2, 3, 0] rfl) hw
        · replace hw := hw.2 hc
          refine lv_goto (tgt := 97) hx hb d_P_startMove_90 (by decide) ?_
          refine lv_bipush (v := (104 : Int32)) hx hb d_P_startMove_97 (by decide) ?_
          exact hret H locs ls 99 ((104 : Int32)) ((p_way, p_done, p_left, s_startX, s_startY, s_dx, s_dy, s_size, r_centreX, r_centreY, r_diagonal, r_side, r_first, r_turn, r_size, ar)) d_P_startMove_99 hP hD hS hw
  have J72 : ∀ (H : Heap) (locs : List Loc) (ls : Array Slot) (x1 x2 : Int32) (p_way : Bool) (p_done p_left s_startX s_startY s_dx s_dy s_size r_centreX r_centreY r_diagonal r_side r_first r_turn r_size : Int32) (ar : Nat → Int32), va_P D cls ((o_P a p_way p_done p_left p_nextLineStart p_line p_state p_ending p_x p_y p_time p_pulses p_last p_feedRate p_motion p_relative) :: e1 :: e2 :: (o_W a w_rowSize w_at w_motion w_distances) :: e4 :: (o_wz a K wz) :: (o_wn a K wn) :: (o_S a s_startX s_startY s_dx s_dy s_size) :: (o_A a r_centreX r_centreY r_diagonal r_side r_first r_turn r_size) :: (o_ar a K ar) :: tl) H → va_D A ((o_P a p_way p_done p_left p_nextLineStart p_line p_state p_ending p_x p_y p_time p_pulses p_last p_feedRate p_motion p_relative) :: e1 :: e2 :: (o_W a w_rowSize w_at w_motion w_distances) :: e4 :: (o_wz a K wz) :: (o_wn a K wn) :: (o_S a s_startX s_startY s_dx s_dy s_size) :: (o_A a r_centreX r_centreY r_diagonal r_side r_first r_turn r_size) :: (o_ar a K ar) :: tl) → va_S A s.heap H locs → lv_has ls 6 [(0, .ref (a 0)), (1, .int x1), (2, .int x2)] → wq_P_startMove_72 Q p_x p_y p_feedRate p_motion p_relative wz wn x1 x2 p_way p_done p_left s_startX s_startY s_dx s_dy s_size r_centreX r_centreY r_diagonal r_side r_first r_turn r_size ar → W p l e rm_P_startMove s m args below meth c H locs 0 0 QQ (F0 m 72 ls []) := by
    intro H locs ls x1 x2 p_way p_done p_left s_startX s_startY s_dx s_dy s_size r_centreX r_centreY r_diagonal r_side r_first r_turn r_size ar hP hD hS hl hw
    unfold wq_P_startMove_72 at hw
    refine lv_iconst (v := (1 : Int32)) hx hb d_P_startMove_72 (by decide) ?_
    refine lv_goto (tgt := 77) hx hb d_P_startMove_73 (by decide) ?_
    exact J77 H locs ls x1 x2 (1 : Int32) p_way p_done p_left s_startX s_startY s_dx s_dy s_size r_centreX r_centreY r_diagonal r_side r_first r_turn r_size ar hP hD hS (lv_sub hl [0, 1, 2] rfl) hw
  have J55 : ∀ (H : Heap) (locs : List Loc) (ls : Array Slot) (x1 s0 : Int32) (p_way : Bool) (p_done p_left s_startX s_startY s_dx s_dy s_size r_centreX r_centreY r_diagonal r_side r_first r_turn r_size : Int32) (ar : Nat → Int32), va_P D cls ((o_P a p_way p_done p_left p_nextLineStart p_line p_state p_ending p_x p_y p_time p_pulses p_last p_feedRate p_motion p_relative) :: e1 :: e2 :: (o_W a w_rowSize w_at w_motion w_distances) :: e4 :: (o_wz a K wz) :: (o_wn a K wn) :: (o_S a s_startX s_startY s_dx s_dy s_size) :: (o_A a r_centreX r_centreY r_diagonal r_side r_first r_turn r_size) :: (o_ar a K ar) :: tl) H → va_D A ((o_P a p_way p_done p_left p_nextLineStart p_line p_state p_ending p_x p_y p_time p_pulses p_last p_feedRate p_motion p_relative) :: e1 :: e2 :: (o_W a w_rowSize w_at w_motion w_distances) :: e4 :: (o_wz a K wz) :: (o_wn a K wn) :: (o_S a s_startX s_startY s_dx s_dy s_size) :: (o_A a r_centreX r_centreY r_diagonal r_side r_first r_turn r_size) :: (o_ar a K ar) :: tl) → va_S A s.heap H locs → lv_has ls 6 [(0, .ref (a 0)), (1, .int x1)] → wq_P_startMove_55 Q p_x p_y p_feedRate p_motion p_relative wz wn x1 s0 p_way p_done p_left s_startX s_startY s_dx s_dy s_size r_centreX r_centreY r_diagonal r_side r_first r_turn r_size ar → W p l e rm_P_startMove s m args below meth c H locs 0 0 QQ (F0 m 55 ls [.int s0]) := by
    intro H locs ls x1 s0 p_way p_done p_left s_startX s_startY s_dx s_dy s_size r_centreX r_centreY r_diagonal r_side r_first r_turn r_size ar hP hD hS hl hw
    unfold wq_P_startMove_55 at hw
    refine lv_istore_n (lv' := [(2, .int s0), (0, .ref (a 0)), (1, .int x1)]) hx hb d_P_startMove_55 rfl hl (Nat.le_of_ble_eq_true rfl) rfl (fun ls hl => ?_)
    refine lv_aload_n hx hb d_P_startMove_56 rfl (lv_at hl 1 rfl) ?_
    refine g_P_motion hx hb hts hown hK hP 0 rfl rfl d_P_startMove_57 ?_
    refine lv_iconst (v := (2 : Int32)) hx hb d_P_startMove_60 (by decide) ?_
    refine lv_icmp_eq (tgt := 72) hx hb d_P_startMove_61 (by decide) (fun hc => ?_) (fun hc => ?_)
    · replace hw := hw.1 hc
      exact J72 H locs ls x1 s0 p_way p_done p_left s_startX s_startY s_dx s_dy s_size r_centreX r_centreY r_diagonal r_side r_first r_turn r_size ar hP hD hS (lv_sub hl [1, 2, 0] rfl) hw
    · replace hw := hw.2 hc
      refine lv_aload_n hx hb d_P_startMove_64 rfl (lv_at hl 1 rfl) ?_
      refine g_P_motion hx hb hts hown hK hP 0 rfl rfl d_P_startMove_65 ?_
      refine lv_iconst (v := (3 : Int32)) hx hb d_P_startMove_68 (by decide) ?_
      refine lv_icmp_ne (tgt := 76) hx hb d_P_startMove_69 (by decide) (fun hc => ?_) (fun hc => ?_)
      · replace hw := hw.1 hc
        refine lv_iconst (v := (0 : Int32)) hx hb d_P_startMove_76 (by decide) ?_
        exact J77 H locs ls x1 s0 (0 : Int32) p_way p_done p_left s_startX s_startY s_dx s_dy s_size r_centreX r_centreY r_diagonal r_side r_first r_turn r_size ar hP hD hS (lv_sub hl [1, 2, 0] rfl) hw
      · replace hw := hw.2 hc
        exact J72 H locs ls x1 s0 p_way p_done p_left s_startX s_startY s_dx s_dy s_size r_centreX r_centreY r_diagonal r_side r_first r_turn r_size ar hP hD hS (lv_sub hl [1, 2, 0] rfl) hw
  have J50 : ∀ (H : Heap) (locs : List Loc) (ls : Array Slot) (x1 : Int32) (p_way : Bool) (p_done p_left s_startX s_startY s_dx s_dy s_size r_centreX r_centreY r_diagonal r_side r_first r_turn r_size : Int32) (ar : Nat → Int32), va_P D cls ((o_P a p_way p_done p_left p_nextLineStart p_line p_state p_ending p_x p_y p_time p_pulses p_last p_feedRate p_motion p_relative) :: e1 :: e2 :: (o_W a w_rowSize w_at w_motion w_distances) :: e4 :: (o_wz a K wz) :: (o_wn a K wn) :: (o_S a s_startX s_startY s_dx s_dy s_size) :: (o_A a r_centreX r_centreY r_diagonal r_side r_first r_turn r_size) :: (o_ar a K ar) :: tl) H → va_D A ((o_P a p_way p_done p_left p_nextLineStart p_line p_state p_ending p_x p_y p_time p_pulses p_last p_feedRate p_motion p_relative) :: e1 :: e2 :: (o_W a w_rowSize w_at w_motion w_distances) :: e4 :: (o_wz a K wz) :: (o_wn a K wn) :: (o_S a s_startX s_startY s_dx s_dy s_size) :: (o_A a r_centreX r_centreY r_diagonal r_side r_first r_turn r_size) :: (o_ar a K ar) :: tl) → va_S A s.heap H locs → lv_has ls 6 [(0, .ref (a 0)), (1, .int x1)] → wq_P_startMove_50 Q p_x p_y p_feedRate p_motion p_relative wz wn x1 p_way p_done p_left s_startX s_startY s_dx s_dy s_size r_centreX r_centreY r_diagonal r_side r_first r_turn r_size ar → W p l e rm_P_startMove s m args below meth c H locs 0 0 QQ (F0 m 50 ls []) := by
    intro H locs ls x1 p_way p_done p_left s_startX s_startY s_dx s_dy s_size r_centreX r_centreY r_diagonal r_side r_first r_turn r_size ar hP hD hS hl hw
    unfold wq_P_startMove_50 at hw
    refine lv_iconst (v := (1 : Int32)) hx hb d_P_startMove_50 (by decide) ?_
    refine lv_goto (tgt := 55) hx hb d_P_startMove_51 (by decide) ?_
    exact J55 H locs ls x1 (1 : Int32) p_way p_done p_left s_startX s_startY s_dx s_dy s_size r_centreX r_centreY r_diagonal r_side r_first r_turn r_size ar hP hD hS (lv_sub hl [0, 1] rfl) hw
  have J27 : ∀ (H : Heap) (locs : List Loc) (ls : Array Slot) (s0 : Int32) (p_way : Bool) (p_done p_left s_startX s_startY s_dx s_dy s_size r_centreX r_centreY r_diagonal r_side r_first r_turn r_size : Int32) (ar : Nat → Int32), va_P D cls ((o_P a p_way p_done p_left p_nextLineStart p_line p_state p_ending p_x p_y p_time p_pulses p_last p_feedRate p_motion p_relative) :: e1 :: e2 :: (o_W a w_rowSize w_at w_motion w_distances) :: e4 :: (o_wz a K wz) :: (o_wn a K wn) :: (o_S a s_startX s_startY s_dx s_dy s_size) :: (o_A a r_centreX r_centreY r_diagonal r_side r_first r_turn r_size) :: (o_ar a K ar) :: tl) H → va_D A ((o_P a p_way p_done p_left p_nextLineStart p_line p_state p_ending p_x p_y p_time p_pulses p_last p_feedRate p_motion p_relative) :: e1 :: e2 :: (o_W a w_rowSize w_at w_motion w_distances) :: e4 :: (o_wz a K wz) :: (o_wn a K wn) :: (o_S a s_startX s_startY s_dx s_dy s_size) :: (o_A a r_centreX r_centreY r_diagonal r_side r_first r_turn r_size) :: (o_ar a K ar) :: tl) → va_S A s.heap H locs → lv_has ls 6 [(0, .ref (a 0))] → wq_P_startMove_27 Q p_x p_y p_feedRate p_motion p_relative wz wn s0 p_way p_done p_left s_startX s_startY s_dx s_dy s_size r_centreX r_centreY r_diagonal r_side r_first r_turn r_size ar → W p l e rm_P_startMove s m args below meth c H locs 0 0 QQ (F0 m 27 ls [.int s0]) := by
    intro H locs ls s0 p_way p_done p_left s_startX s_startY s_dx s_dy s_size r_centreX r_centreY r_diagonal r_side r_first r_turn r_size ar hP hD hS hl hw
    unfold wq_P_startMove_27 at hw
    refine lv_istore_n (lv' := [(1, .int s0), (0, .ref (a 0))]) hx hb d_P_startMove_27 rfl hl (Nat.le_of_ble_eq_true rfl) rfl (fun ls hl => ?_)
    refine lv_aload_n hx hb d_P_startMove_28 rfl (lv_at hl 1 rfl) ?_
    refine g_P_words hx hb hts hown hK hP 0 rfl rfl d_P_startMove_29 ?_
    refine lv_iconst (v := (4 : Int32)) hx hb d_P_startMove_32 (by decide) ?_
    refine my_calli (va_runV (As := [.int (4 : Int32)]) (rest := []) ⟨hx, hb, hml, hown, hts⟩ (c_W_has l H.size) (cw_P_137 hts ⟨Nat.le_of_ble_eq_true rfl, Nat.le_of_ble_eq_true rfl⟩) (my_preV hK hP hX hD hS hA 3 rfl rfl hw) rfl rfl hl.1 rfl (lv_room (Nat.le_of_ble_eq_true rfl)) d_P_startMove_33 ⟨Nat.le_refl _, Nat.le_refl _⟩) hD hS hA (fun r33 _ H locs hw hP hD hS => ?_)
    have hP : va_P D cls ((o_P a p_way p_done p_left p_nextLineStart p_line p_state p_ending p_x p_y p_time p_pulses p_last p_feedRate p_motion p_relative) :: e1 :: e2 :: (o_W a w_rowSize w_at w_motion w_distances) :: e4 :: (o_wz a K wz) :: (o_wn a K wn) :: (o_S a s_startX s_startY s_dx s_dy s_size) :: (o_A a r_centreX r_centreY r_diagonal r_side r_first r_turn r_size) :: (o_ar a K ar) :: tl) H := hP
    have hD : va_D A ((o_P a p_way p_done p_left p_nextLineStart p_line p_state p_ending p_x p_y p_time p_pulses p_last p_feedRate p_motion p_relative) :: e1 :: e2 :: (o_W a w_rowSize w_at w_motion w_distances) :: e4 :: (o_wz a K wz) :: (o_wn a K wn) :: (o_S a s_startX s_startY s_dx s_dy s_size) :: (o_A a r_centreX r_centreY r_diagonal r_side r_first r_turn r_size) :: (o_ar a K ar) :: tl) := hD
    refine lv_if_ne (tgt := 50) hx hb d_P_startMove_36 (by decide) (fun hc => ?_) (fun hc => ?_)
    · replace hw := hw.1 hc
      exact J50 H locs ls s0 p_way p_done p_left s_startX s_startY s_dx s_dy s_size r_centreX r_centreY r_diagonal r_side r_first r_turn r_size ar hP hD hS (lv_sub hl [1, 0] rfl) hw
    · replace hw := hw.2 hc
      refine lv_aload_n hx hb d_P_startMove_39 rfl (lv_at hl 1 rfl) ?_
      refine g_P_words hx hb hts hown hK hP 0 rfl rfl d_P_startMove_40 ?_
      refine lv_iconst (v := (5 : Int32)) hx hb d_P_startMove_43 (by decide) ?_
      refine my_calli (va_runV (As := [.int (5 : Int32)]) (rest := []) ⟨hx, hb, hml, hown, hts⟩ (c_W_has l H.size) (cw_P_137 hts ⟨Nat.le_of_ble_eq_true rfl, Nat.le_of_ble_eq_true rfl⟩) (my_preV hK hP hX hD hS hA 3 rfl rfl hw) rfl rfl hl.1 rfl (lv_room (Nat.le_of_ble_eq_true rfl)) d_P_startMove_44 ⟨Nat.le_refl _, Nat.le_refl _⟩) hD hS hA (fun r44 _ H locs hw hP hD hS => ?_)
      have hP : va_P D cls ((o_P a p_way p_done p_left p_nextLineStart p_line p_state p_ending p_x p_y p_time p_pulses p_last p_feedRate p_motion p_relative) :: e1 :: e2 :: (o_W a w_rowSize w_at w_motion w_distances) :: e4 :: (o_wz a K wz) :: (o_wn a K wn) :: (o_S a s_startX s_startY s_dx s_dy s_size) :: (o_A a r_centreX r_centreY r_diagonal r_side r_first r_turn r_size) :: (o_ar a K ar) :: tl) H := hP
      have hD : va_D A ((o_P a p_way p_done p_left p_nextLineStart p_line p_state p_ending p_x p_y p_time p_pulses p_last p_feedRate p_motion p_relative) :: e1 :: e2 :: (o_W a w_rowSize w_at w_motion w_distances) :: e4 :: (o_wz a K wz) :: (o_wn a K wn) :: (o_S a s_startX s_startY s_dx s_dy s_size) :: (o_A a r_centreX r_centreY r_diagonal r_side r_first r_turn r_size) :: (o_ar a K ar) :: tl) := hD
      refine lv_if_eq (tgt := 54) hx hb d_P_startMove_47 (by decide) (fun hc => ?_) (fun hc => ?_)
      · replace hw := hw.1 hc
        refine lv_iconst (v := (0 : Int32)) hx hb d_P_startMove_54 (by decide) ?_
        exact J55 H locs ls s0 (0 : Int32) p_way p_done p_left s_startX s_startY s_dx s_dy s_size r_centreX r_centreY r_diagonal r_side r_first r_turn r_size ar hP hD hS (lv_sub hl [1, 0] rfl) hw
      · replace hw := hw.2 hc
        exact J50 H locs ls s0 p_way p_done p_left s_startX s_startY s_dx s_dy s_size r_centreX r_centreY r_diagonal r_side r_first r_turn r_size ar hP hD hS (lv_sub hl [1, 0] rfl) hw
  have J22 : ∀ (H : Heap) (locs : List Loc) (ls : Array Slot) (p_way : Bool) (p_done p_left s_startX s_startY s_dx s_dy s_size r_centreX r_centreY r_diagonal r_side r_first r_turn r_size : Int32) (ar : Nat → Int32), va_P D cls ((o_P a p_way p_done p_left p_nextLineStart p_line p_state p_ending p_x p_y p_time p_pulses p_last p_feedRate p_motion p_relative) :: e1 :: e2 :: (o_W a w_rowSize w_at w_motion w_distances) :: e4 :: (o_wz a K wz) :: (o_wn a K wn) :: (o_S a s_startX s_startY s_dx s_dy s_size) :: (o_A a r_centreX r_centreY r_diagonal r_side r_first r_turn r_size) :: (o_ar a K ar) :: tl) H → va_D A ((o_P a p_way p_done p_left p_nextLineStart p_line p_state p_ending p_x p_y p_time p_pulses p_last p_feedRate p_motion p_relative) :: e1 :: e2 :: (o_W a w_rowSize w_at w_motion w_distances) :: e4 :: (o_wz a K wz) :: (o_wn a K wn) :: (o_S a s_startX s_startY s_dx s_dy s_size) :: (o_A a r_centreX r_centreY r_diagonal r_side r_first r_turn r_size) :: (o_ar a K ar) :: tl) → va_S A s.heap H locs → lv_has ls 6 [(0, .ref (a 0))] → wq_P_startMove_22 Q p_x p_y p_feedRate p_motion p_relative wz wn p_way p_done p_left s_startX s_startY s_dx s_dy s_size r_centreX r_centreY r_diagonal r_side r_first r_turn r_size ar → W p l e rm_P_startMove s m args below meth c H locs 0 0 QQ (F0 m 22 ls []) := by
    intro H locs ls p_way p_done p_left s_startX s_startY s_dx s_dy s_size r_centreX r_centreY r_diagonal r_side r_first r_turn r_size ar hP hD hS hl hw
    unfold wq_P_startMove_22 at hw
    refine lv_iconst (v := (1 : Int32)) hx hb d_P_startMove_22 (by decide) ?_
    refine lv_goto (tgt := 27) hx hb d_P_startMove_23 (by decide) ?_
    exact J27 H locs ls (1 : Int32) p_way p_done p_left s_startX s_startY s_dx s_dy s_size r_centreX r_centreY r_diagonal r_side r_first r_turn r_size ar hP hD hS (lv_sub hl [0] rfl) hw
  unfold wp_P_startMove at hw
  refine lv_aload_n hx hb d_P_startMove_0 rfl (lv_at hl 0 rfl) ?_
  refine g_P_words hx hb hts hown hK hP 0 rfl rfl d_P_startMove_1 ?_
  refine lv_iconst (v := (2 : Int32)) hx hb d_P_startMove_4 (by decide) ?_
  refine my_calli (va_runV (As := [.int (2 : Int32)]) (rest := []) ⟨hx, hb, hml, hown, hts⟩ (c_W_has l H.size) (cw_P_137 hts ⟨Nat.le_of_ble_eq_true rfl, Nat.le_of_ble_eq_true rfl⟩) (my_preV hK hP hX hD hS hA 3 rfl rfl hw) rfl rfl hl.1 rfl (lv_room (Nat.le_of_ble_eq_true rfl)) d_P_startMove_5 ⟨Nat.le_refl _, Nat.le_refl _⟩) hD hS hA (fun r5 _ H locs hw hP hD hS => ?_)
  have hP : va_P D cls ((o_P a p_way p_done p_left p_nextLineStart p_line p_state p_ending p_x p_y p_time p_pulses p_last p_feedRate p_motion p_relative) :: e1 :: e2 :: (o_W a w_rowSize w_at w_motion w_distances) :: e4 :: (o_wz a K wz) :: (o_wn a K wn) :: (o_S a s_startX s_startY s_dx s_dy s_size) :: (o_A a r_centreX r_centreY r_diagonal r_side r_first r_turn r_size) :: (o_ar a K ar) :: tl) H := hP
  have hD : va_D A ((o_P a p_way p_done p_left p_nextLineStart p_line p_state p_ending p_x p_y p_time p_pulses p_last p_feedRate p_motion p_relative) :: e1 :: e2 :: (o_W a w_rowSize w_at w_motion w_distances) :: e4 :: (o_wz a K wz) :: (o_wn a K wn) :: (o_S a s_startX s_startY s_dx s_dy s_size) :: (o_A a r_centreX r_centreY r_diagonal r_side r_first r_turn r_size) :: (o_ar a K ar) :: tl) := hD
  refine lv_if_ne (tgt := 22) hx hb d_P_startMove_8 (by decide) (fun hc => ?_) (fun hc => ?_)
  · replace hw := hw.1 hc
    exact J22 H locs ls p_way p_done p_left s_startX s_startY s_dx s_dy s_size r_centreX r_centreY r_diagonal r_side r_first r_turn r_size ar hP hD hS (lv_sub hl [0] rfl) hw
  · replace hw := hw.2 hc
    refine lv_aload_n hx hb d_P_startMove_11 rfl (lv_at hl 0 rfl) ?_
    refine g_P_words hx hb hts hown hK hP 0 rfl rfl d_P_startMove_12 ?_
    refine lv_iconst (v := (3 : Int32)) hx hb d_P_startMove_15 (by decide) ?_
    refine my_calli (va_runV (As := [.int (3 : Int32)]) (rest := []) ⟨hx, hb, hml, hown, hts⟩ (c_W_has l H.size) (cw_P_137 hts ⟨Nat.le_of_ble_eq_true rfl, Nat.le_of_ble_eq_true rfl⟩) (my_preV hK hP hX hD hS hA 3 rfl rfl hw) rfl rfl hl.1 rfl (lv_room (Nat.le_of_ble_eq_true rfl)) d_P_startMove_16 ⟨Nat.le_refl _, Nat.le_refl _⟩) hD hS hA (fun r16 _ H locs hw hP hD hS => ?_)
    have hP : va_P D cls ((o_P a p_way p_done p_left p_nextLineStart p_line p_state p_ending p_x p_y p_time p_pulses p_last p_feedRate p_motion p_relative) :: e1 :: e2 :: (o_W a w_rowSize w_at w_motion w_distances) :: e4 :: (o_wz a K wz) :: (o_wn a K wn) :: (o_S a s_startX s_startY s_dx s_dy s_size) :: (o_A a r_centreX r_centreY r_diagonal r_side r_first r_turn r_size) :: (o_ar a K ar) :: tl) H := hP
    have hD : va_D A ((o_P a p_way p_done p_left p_nextLineStart p_line p_state p_ending p_x p_y p_time p_pulses p_last p_feedRate p_motion p_relative) :: e1 :: e2 :: (o_W a w_rowSize w_at w_motion w_distances) :: e4 :: (o_wz a K wz) :: (o_wn a K wn) :: (o_S a s_startX s_startY s_dx s_dy s_size) :: (o_A a r_centreX r_centreY r_diagonal r_side r_first r_turn r_size) :: (o_ar a K ar) :: tl) := hD
    refine lv_if_eq (tgt := 26) hx hb d_P_startMove_19 (by decide) (fun hc => ?_) (fun hc => ?_)
    · replace hw := hw.1 hc
      refine lv_iconst (v := (0 : Int32)) hx hb d_P_startMove_26 (by decide) ?_
      exact J27 H locs ls (0 : Int32) p_way p_done p_left s_startX s_startY s_dx s_dy s_size r_centreX r_centreY r_diagonal r_side r_first r_turn r_size ar hP hD hS (lv_sub hl [0] rfl) hw
    · replace hw := hw.2 hc
      exact J22 H locs ls p_way p_done p_left s_startX s_startY s_dx s_dy s_size r_centreX r_centreY r_diagonal r_side r_first r_turn r_size ar hP hD hS (lv_sub hl [0] rfl) hw
def wq_P_applySettings_79 (Q : Int32 → Int32 → Int32 → Int32 → Prop) (wz : Nat → Int32) (p_ending p_feedRate p_motion p_relative : Int32) : Prop := (wp_W_has (1 : Int32) wz (fun r85 => (bZ r85 ∧ (Q r85 p_feedRate p_motion p_relative))))
def wq_P_applySettings_57 (Q : Int32 → Int32 → Int32 → Int32 → Prop) (w_motion : Int32) (wz : Nat → Int32) (p_ending p_feedRate p_motion p_relative : Int32) : Prop := (wp_W_motion w_motion (fun r61 => ((r61 = (-1 : Int32) → (wq_P_applySettings_79 Q wz p_ending p_feedRate p_motion p_relative)) ∧ (¬ r61 = (-1 : Int32) → (wp_W_motion w_motion (fun r73 => (wq_P_applySettings_79 Q wz p_ending p_feedRate r73 p_relative)))))))
def wq_P_applySettings_54 (Q : Int32 → Int32 → Int32 → Int32 → Prop) (w_motion : Int32) (wz : Nat → Int32) (s1 p_ending p_feedRate p_motion p_relative : Int32) : Prop := (bZ s1 ∧ (wq_P_applySettings_57 Q w_motion wz p_ending p_feedRate p_motion s1))
def wq_P_applySettings_25 (Q : Int32 → Int32 → Int32 → Int32 → Prop) (w_motion w_distances : Int32) (wz : Nat → Int32) (p_ending p_feedRate p_motion p_relative : Int32) : Prop := (wp_W_distances w_distances (fun r29 => ((r29 = (-1 : Int32) → (wq_P_applySettings_57 Q w_motion wz p_ending p_feedRate p_motion p_relative)) ∧ (¬ r29 = (-1 : Int32) → (wp_W_distances w_distances (fun r41 => ((¬ r41 = (91 : Int32) → (wq_P_applySettings_54 Q w_motion wz (0 : Int32) p_ending p_feedRate p_motion p_relative)) ∧ (r41 = (91 : Int32) → (wq_P_applySettings_54 Q w_motion wz (1 : Int32) p_ending p_feedRate p_motion p_relative)))))))))
def wp_P_applySettings (p_ending p_feedRate p_motion p_relative w_motion w_distances : Int32) (wz wn : Nat → Int32) (Q : Int32 → Int32 → Int32 → Int32 → Prop) : Prop := (wp_W_has (6 : Int32) wz (fun r6 => ((r6 = 0 → (wq_P_applySettings_25 Q w_motion w_distances wz p_ending p_feedRate p_motion p_relative)) ∧ (¬ r6 = 0 → (wp_W_number (6 : Int32) wz wn (fun r19 => (wq_P_applySettings_25 Q w_motion w_distances wz p_ending r19 p_motion p_relative)))))))
abbrev rm_P_applySettings : Room := { frames := 2, cells := 0, slots := 0, locals := 42 }
set_option maxRecDepth 100000 in
set_option maxHeartbeats 4000000 in
theorem c_P_applySettings (l : Launch) {D : va_G} {X : xT} {a : Nat → Nat} {K : Nat → ClassId} {tl : va_W} {e1 e2 e4 : Nat × va_E} {p_way : Bool} {p_done p_left p_nextLineStart p_line p_state p_ending p_x p_y : Int32} {p_time : Int64} {p_pulses p_last p_feedRate p_motion p_relative w_rowSize w_at w_motion w_distances : Int32} {wz wn : Nat → Int32} {Q : Int32 → Int32 → Int32 → Int32 → Prop} : MV l y_P_applySettings b_P_applySettings 1 rm_P_applySettings D cls (tys K) X [.ref (a 0)] ((o_P a p_way p_done p_left p_nextLineStart p_line p_state p_ending p_x p_y p_time p_pulses p_last p_feedRate p_motion p_relative) :: e1 :: e2 :: (o_W a w_rowSize w_at w_motion w_distances) :: e4 :: (o_wz a K wz) :: (o_wn a K wn) :: tl) (fun u : Int32 × Int32 × Int32 × Int32 => (o_P a p_way p_done p_left p_nextLineStart p_line p_state u.1 p_x p_y p_time p_pulses p_last u.2.1 u.2.2.1 u.2.2.2) :: e1 :: e2 :: (o_W a w_rowSize w_at w_motion w_distances) :: e4 :: (o_wz a K wz) :: (o_wn a K wn) :: tl) (wp_P_applySettings p_ending p_feedRate p_motion p_relative w_motion w_distances wz wn Q) (fun u => Q u.1 u.2.1 u.2.2.1 u.2.2.2) := by
  refine my_of_V (by decide +kernel) (Nat.le_of_ble_eq_true rfl) (fun p e s m args below meth c A QQ H locs ls hx hb hts hown hml hK hX hA hP hD hS hl hw hret => ?_)
  replace hl : lv_has ls 1 [(0, .ref (a 0))] := hl
  have J79 : ∀ (H : Heap) (locs : List Loc) (ls : Array Slot) (p_ending p_feedRate p_motion p_relative : Int32), va_P D cls ((o_P a p_way p_done p_left p_nextLineStart p_line p_state p_ending p_x p_y p_time p_pulses p_last p_feedRate p_motion p_relative) :: e1 :: e2 :: (o_W a w_rowSize w_at w_motion w_distances) :: e4 :: (o_wz a K wz) :: (o_wn a K wn) :: tl) H → va_D A ((o_P a p_way p_done p_left p_nextLineStart p_line p_state p_ending p_x p_y p_time p_pulses p_last p_feedRate p_motion p_relative) :: e1 :: e2 :: (o_W a w_rowSize w_at w_motion w_distances) :: e4 :: (o_wz a K wz) :: (o_wn a K wn) :: tl) → va_S A s.heap H locs → lv_has ls 1 [(0, .ref (a 0))] → wq_P_applySettings_79 Q wz p_ending p_feedRate p_motion p_relative → W p l e rm_P_applySettings s m args below meth c H locs 0 0 QQ (F0 m 79 ls []) := by
    intro H locs ls p_ending p_feedRate p_motion p_relative hP hD hS hl hw
    unfold wq_P_applySettings_79 at hw
    refine lv_aload_n hx hb d_P_applySettings_79 rfl (lv_at hl 0 rfl) ?_
    refine lv_aload_n hx hb d_P_applySettings_80 rfl (lv_at hl 0 rfl) ?_
    refine g_P_words hx hb hts hown hK hP 0 rfl rfl d_P_applySettings_81 ?_
    refine lv_iconst (v := (1 : Int32)) hx hb d_P_applySettings_84 (by decide) ?_
    refine my_calli (va_runV (As := [.int (1 : Int32)]) (rest := [.ref (a 0)]) ⟨hx, hb, hml, hown, hts⟩ (c_W_has l H.size) (cw_P_137 hts ⟨Nat.le_of_ble_eq_true rfl, Nat.le_of_ble_eq_true rfl⟩) (my_preV hK hP hX hD hS hA 3 rfl rfl hw) rfl rfl hl.1 rfl (lv_room (Nat.le_of_ble_eq_true rfl)) d_P_applySettings_85 ⟨Nat.le_refl _, Nat.le_refl _⟩) hD hS hA (fun r85 _ H locs hw hP hD hS => ?_)
    have hP : va_P D cls ((o_P a p_way p_done p_left p_nextLineStart p_line p_state p_ending p_x p_y p_time p_pulses p_last p_feedRate p_motion p_relative) :: e1 :: e2 :: (o_W a w_rowSize w_at w_motion w_distances) :: e4 :: (o_wz a K wz) :: (o_wn a K wn) :: tl) H := hP
    have hD : va_D A ((o_P a p_way p_done p_left p_nextLineStart p_line p_state p_ending p_x p_y p_time p_pulses p_last p_feedRate p_motion p_relative) :: e1 :: e2 :: (o_W a w_rowSize w_at w_motion w_distances) :: e4 :: (o_wz a K wz) :: (o_wn a K wn) :: tl) := hD
    refine u_P_ending hx hb hts hown hK hP hD hS 0 rfl rfl hw.1 d_P_applySettings_88 (fun H locs hP hD hS => ?_)
    replace hw := hw.2
    have hP : va_P D cls ((o_P a p_way p_done p_left p_nextLineStart p_line p_state r85 p_x p_y p_time p_pulses p_last p_feedRate p_motion p_relative) :: e1 :: e2 :: (o_W a w_rowSize w_at w_motion w_distances) :: e4 :: (o_wz a K wz) :: (o_wn a K wn) :: tl) H := hP
    have hD : va_D A ((o_P a p_way p_done p_left p_nextLineStart p_line p_state r85 p_x p_y p_time p_pulses p_last p_feedRate p_motion p_relative) :: e1 :: e2 :: (o_W a w_rowSize w_at w_motion w_distances) :: e4 :: (o_wz a K wz) :: (o_wn a K wn) :: tl) := hD
    exact hret H locs ls 91 ((r85, p_feedRate, p_motion, p_relative)) d_P_applySettings_91 hP hD hS hw
  have J57 : ∀ (H : Heap) (locs : List Loc) (ls : Array Slot) (p_ending p_feedRate p_motion p_relative : Int32), va_P D cls ((o_P a p_way p_done p_left p_nextLineStart p_line p_state p_ending p_x p_y p_time p_pulses p_last p_feedRate p_motion p_relative) :: e1 :: e2 :: (o_W a w_rowSize w_at w_motion w_distances) :: e4 :: (o_wz a K wz) :: (o_wn a K wn) :: tl) H → va_D A ((o_P a p_way p_done p_left p_nextLineStart p_line p_state p_ending p_x p_y p_time p_pulses p_last p_feedRate p_motion p_relative) :: e1 :: e2 :: (o_W a w_rowSize w_at w_motion w_distances) :: e4 :: (o_wz a K wz) :: (o_wn a K wn) :: tl) → va_S A s.heap H locs → lv_has ls 1 [(0, .ref (a 0))] → wq_P_applySettings_57 Q w_motion wz p_ending p_feedRate p_motion p_relative → W p l e rm_P_applySettings s m args below meth c H locs 0 0 QQ (F0 m 57 ls []) := by
    intro H locs ls p_ending p_feedRate p_motion p_relative hP hD hS hl hw
    unfold wq_P_applySettings_57 at hw
    refine lv_aload_n hx hb d_P_applySettings_57 rfl (lv_at hl 0 rfl) ?_
    refine g_P_words hx hb hts hown hK hP 0 rfl rfl d_P_applySettings_58 ?_
    refine my_calli (va_runV (As := []) (rest := []) ⟨hx, hb, hml, hown, hts⟩ (c_W_motion l H.size) (cw_P_147 hts ⟨Nat.le_of_ble_eq_true rfl, Nat.le_of_ble_eq_true rfl⟩) (my_preV hK hP hX hD hS hA 3 rfl rfl hw) rfl rfl hl.1 rfl (lv_room (Nat.le_of_ble_eq_true rfl)) d_P_applySettings_61 ⟨Nat.le_refl _, Nat.le_refl _⟩) hD hS hA (fun r61 _ H locs hw hP hD hS => ?_)
    have hP : va_P D cls ((o_P a p_way p_done p_left p_nextLineStart p_line p_state p_ending p_x p_y p_time p_pulses p_last p_feedRate p_motion p_relative) :: e1 :: e2 :: (o_W a w_rowSize w_at w_motion w_distances) :: e4 :: (o_wz a K wz) :: (o_wn a K wn) :: tl) H := hP
    have hD : va_D A ((o_P a p_way p_done p_left p_nextLineStart p_line p_state p_ending p_x p_y p_time p_pulses p_last p_feedRate p_motion p_relative) :: e1 :: e2 :: (o_W a w_rowSize w_at w_motion w_distances) :: e4 :: (o_wz a K wz) :: (o_wn a K wn) :: tl) := hD
    refine lv_iconst (v := (-1 : Int32)) hx hb d_P_applySettings_64 (by decide) ?_
    refine lv_icmp_eq (tgt := 79) hx hb d_P_applySettings_65 (by decide) (fun hc => ?_) (fun hc => ?_)
    · replace hw := hw.1 hc
      exact J79 H locs ls p_ending p_feedRate p_motion p_relative hP hD hS (lv_sub hl [0] rfl) hw
    · replace hw := hw.2 hc
      refine lv_aload_n hx hb d_P_applySettings_68 rfl (lv_at hl 0 rfl) ?_
      refine lv_aload_n hx hb d_P_applySettings_69 rfl (lv_at hl 0 rfl) ?_
      refine g_P_words hx hb hts hown hK hP 0 rfl rfl d_P_applySettings_70 ?_
      refine my_calli (va_runV (As := []) (rest := [.ref (a 0)]) ⟨hx, hb, hml, hown, hts⟩ (c_W_motion l H.size) (cw_P_147 hts ⟨Nat.le_of_ble_eq_true rfl, Nat.le_of_ble_eq_true rfl⟩) (my_preV hK hP hX hD hS hA 3 rfl rfl hw) rfl rfl hl.1 rfl (lv_room (Nat.le_of_ble_eq_true rfl)) d_P_applySettings_73 ⟨Nat.le_refl _, Nat.le_refl _⟩) hD hS hA (fun r73 _ H locs hw hP hD hS => ?_)
      have hP : va_P D cls ((o_P a p_way p_done p_left p_nextLineStart p_line p_state p_ending p_x p_y p_time p_pulses p_last p_feedRate p_motion p_relative) :: e1 :: e2 :: (o_W a w_rowSize w_at w_motion w_distances) :: e4 :: (o_wz a K wz) :: (o_wn a K wn) :: tl) H := hP
      have hD : va_D A ((o_P a p_way p_done p_left p_nextLineStart p_line p_state p_ending p_x p_y p_time p_pulses p_last p_feedRate p_motion p_relative) :: e1 :: e2 :: (o_W a w_rowSize w_at w_motion w_distances) :: e4 :: (o_wz a K wz) :: (o_wn a K wn) :: tl) := hD
      refine u_P_motion hx hb hts hown hK hP hD hS 0 rfl rfl d_P_applySettings_76 (fun H locs hP hD hS => ?_)
      have hP : va_P D cls ((o_P a p_way p_done p_left p_nextLineStart p_line p_state p_ending p_x p_y p_time p_pulses p_last p_feedRate r73 p_relative) :: e1 :: e2 :: (o_W a w_rowSize w_at w_motion w_distances) :: e4 :: (o_wz a K wz) :: (o_wn a K wn) :: tl) H := hP
      have hD : va_D A ((o_P a p_way p_done p_left p_nextLineStart p_line p_state p_ending p_x p_y p_time p_pulses p_last p_feedRate r73 p_relative) :: e1 :: e2 :: (o_W a w_rowSize w_at w_motion w_distances) :: e4 :: (o_wz a K wz) :: (o_wn a K wn) :: tl) := hD
      exact J79 H locs ls p_ending p_feedRate r73 p_relative hP hD hS (lv_sub hl [0] rfl) hw
  have J54 : ∀ (H : Heap) (locs : List Loc) (ls : Array Slot) (s1 p_ending p_feedRate p_motion p_relative : Int32), va_P D cls ((o_P a p_way p_done p_left p_nextLineStart p_line p_state p_ending p_x p_y p_time p_pulses p_last p_feedRate p_motion p_relative) :: e1 :: e2 :: (o_W a w_rowSize w_at w_motion w_distances) :: e4 :: (o_wz a K wz) :: (o_wn a K wn) :: tl) H → va_D A ((o_P a p_way p_done p_left p_nextLineStart p_line p_state p_ending p_x p_y p_time p_pulses p_last p_feedRate p_motion p_relative) :: e1 :: e2 :: (o_W a w_rowSize w_at w_motion w_distances) :: e4 :: (o_wz a K wz) :: (o_wn a K wn) :: tl) → va_S A s.heap H locs → lv_has ls 1 [(0, .ref (a 0))] → wq_P_applySettings_54 Q w_motion wz s1 p_ending p_feedRate p_motion p_relative → W p l e rm_P_applySettings s m args below meth c H locs 0 0 QQ (F0 m 54 ls [.int s1, .ref (a 0)]) := by
    intro H locs ls s1 p_ending p_feedRate p_motion p_relative hP hD hS hl hw
    unfold wq_P_applySettings_54 at hw
    refine u_P_relative hx hb hts hown hK hP hD hS 0 rfl rfl hw.1 d_P_applySettings_54 (fun H locs hP hD hS => ?_)
    replace hw := hw.2
    have hP : va_P D cls ((o_P a p_way p_done p_left p_nextLineStart p_line p_state p_ending p_x p_y p_time p_pulses p_last p_feedRate p_motion s1) :: e1 :: e2 :: (o_W a w_rowSize w_at w_motion w_distances) :: e4 :: (o_wz a K wz) :: (o_wn a K wn) :: tl) H := hP
    have hD : va_D A ((o_P a p_way p_done p_left p_nextLineStart p_line p_state p_ending p_x p_y p_time p_pulses p_last p_feedRate p_motion s1) :: e1 :: e2 :: (o_W a w_rowSize w_at w_motion w_distances) :: e4 :: (o_wz a K wz) :: (o_wn a K wn) :: tl) := hD
    exact J57 H locs ls p_ending p_feedRate p_motion s1 hP hD hS (lv_sub hl [0] rfl) hw
  have J25 : ∀ (H : Heap) (locs : List Loc) (ls : Array Slot) (p_ending p_feedRate p_motion p_relative : Int32), va_P D cls ((o_P a p_way p_done p_left p_nextLineStart p_line p_state p_ending p_x p_y p_time p_pulses p_last p_feedRate p_motion p_relative) :: e1 :: e2 :: (o_W a w_rowSize w_at w_motion w_distances) :: e4 :: (o_wz a K wz) :: (o_wn a K wn) :: tl) H → va_D A ((o_P a p_way p_done p_left p_nextLineStart p_line p_state p_ending p_x p_y p_time p_pulses p_last p_feedRate p_motion p_relative) :: e1 :: e2 :: (o_W a w_rowSize w_at w_motion w_distances) :: e4 :: (o_wz a K wz) :: (o_wn a K wn) :: tl) → va_S A s.heap H locs → lv_has ls 1 [(0, .ref (a 0))] → wq_P_applySettings_25 Q w_motion w_distances wz p_ending p_feedRate p_motion p_relative → W p l e rm_P_applySettings s m args below meth c H locs 0 0 QQ (F0 m 25 ls []) := by
    intro H locs ls p_ending p_feedRate p_motion p_relative hP hD hS hl hw
    unfold wq_P_applySettings_25 at hw
    refine lv_aload_n hx hb d_P_applySettings_25 rfl (lv_at hl 0 rfl) ?_
    refine g_P_words hx hb hts hown hK hP 0 rfl rfl d_P_applySettings_26 ?_
    refine my_calli (va_runV (As := []) (rest := []) ⟨hx, hb, hml, hown, hts⟩ (c_W_distances l H.size) (cw_P_144 hts ⟨Nat.le_of_ble_eq_true rfl, Nat.le_of_ble_eq_true rfl⟩) (my_preV hK hP hX hD hS hA 3 rfl rfl hw) rfl rfl hl.1 rfl (lv_room (Nat.le_of_ble_eq_true rfl)) d_P_applySettings_29 ⟨Nat.le_refl _, Nat.le_refl _⟩) hD hS hA (fun r29 _ H locs hw hP hD hS => ?_)
    have hP : va_P D cls ((o_P a p_way p_done p_left p_nextLineStart p_line p_state p_ending p_x p_y p_time p_pulses p_last p_feedRate p_motion p_relative) :: e1 :: e2 :: (o_W a w_rowSize w_at w_motion w_distances) :: e4 :: (o_wz a K wz) :: (o_wn a K wn) :: tl) H := hP
    have hD : va_D A ((o_P a p_way p_done p_left p_nextLineStart p_line p_state p_ending p_x p_y p_time p_pulses p_last p_feedRate p_motion p_relative) :: e1 :: e2 :: (o_W a w_rowSize w_at w_motion w_distances) :: e4 :: (o_wz a K wz) :: (o_wn a K wn) :: tl) := hD
    refine lv_iconst (v := (-1 : Int32)) hx hb d_P_applySettings_32 (by decide) ?_
    refine lv_icmp_eq (tgt := 57) hx hb d_P_applySettings_33 (by decide) (fun hc => ?_) (fun hc => ?_)
    · replace hw := hw.1 hc
      exact J57 H locs ls p_ending p_feedRate p_motion p_relative hP hD hS (lv_sub hl [0] rfl) hw
    · replace hw := hw.2 hc
      refine lv_aload_n hx hb d_P_applySettings_36 rfl (lv_at hl 0 rfl) ?_
      refine lv_aload_n hx hb d_P_applySettings_37 rfl (lv_at hl 0 rfl) ?_
      refine g_P_words hx hb hts hown hK hP 0 rfl rfl d_P_applySettings_38 ?_
      refine my_calli (va_runV (As := []) (rest := [.ref (a 0)]) ⟨hx, hb, hml, hown, hts⟩ (c_W_distances l H.size) (cw_P_144 hts ⟨Nat.le_of_ble_eq_true rfl, Nat.le_of_ble_eq_true rfl⟩) (my_preV hK hP hX hD hS hA 3 rfl rfl hw) rfl rfl hl.1 rfl (lv_room (Nat.le_of_ble_eq_true rfl)) d_P_applySettings_41 ⟨Nat.le_refl _, Nat.le_refl _⟩) hD hS hA (fun r41 _ H locs hw hP hD hS => ?_)
      have hP : va_P D cls ((o_P a p_way p_done p_left p_nextLineStart p_line p_state p_ending p_x p_y p_time p_pulses p_last p_feedRate p_motion p_relative) :: e1 :: e2 :: (o_W a w_rowSize w_at w_motion w_distances) :: e4 :: (o_wz a K wz) :: (o_wn a K wn) :: tl) H := hP
      have hD : va_D A ((o_P a p_way p_done p_left p_nextLineStart p_line p_state p_ending p_x p_y p_time p_pulses p_last p_feedRate p_motion p_relative) :: e1 :: e2 :: (o_W a w_rowSize w_at w_motion w_distances) :: e4 :: (o_wz a K wz) :: (o_wn a K wn) :: tl) := hD
      refine lv_bipush (v := (91 : Int32)) hx hb d_P_applySettings_44 (by decide) ?_
      refine lv_icmp_ne (tgt := 53) hx hb d_P_applySettings_46 (by decide) (fun hc => ?_) (fun hc => ?_)
      · replace hw := hw.1 hc
        refine lv_iconst (v := (0 : Int32)) hx hb d_P_applySettings_53 (by decide) ?_
        exact J54 H locs ls (0 : Int32) p_ending p_feedRate p_motion p_relative hP hD hS (lv_sub hl [0] rfl) hw
      · replace hw := hw.2 hc
        refine lv_iconst (v := (1 : Int32)) hx hb d_P_applySettings_49 (by decide) ?_
        refine lv_goto (tgt := 54) hx hb d_P_applySettings_50 (by decide) ?_
        exact J54 H locs ls (1 : Int32) p_ending p_feedRate p_motion p_relative hP hD hS (lv_sub hl [0] rfl) hw
  unfold wp_P_applySettings at hw
  refine lv_aload_n hx hb d_P_applySettings_0 rfl (lv_at hl 0 rfl) ?_
  refine g_P_words hx hb hts hown hK hP 0 rfl rfl d_P_applySettings_1 ?_
  refine lv_bipush (v := (6 : Int32)) hx hb d_P_applySettings_4 (by decide) ?_
  refine my_calli (va_runV (As := [.int (6 : Int32)]) (rest := []) ⟨hx, hb, hml, hown, hts⟩ (c_W_has l H.size) (cw_P_137 hts ⟨Nat.le_of_ble_eq_true rfl, Nat.le_of_ble_eq_true rfl⟩) (my_preV hK hP hX hD hS hA 3 rfl rfl hw) rfl rfl hl.1 rfl (lv_room (Nat.le_of_ble_eq_true rfl)) d_P_applySettings_6 ⟨Nat.le_refl _, Nat.le_refl _⟩) hD hS hA (fun r6 _ H locs hw hP hD hS => ?_)
  have hP : va_P D cls ((o_P a p_way p_done p_left p_nextLineStart p_line p_state p_ending p_x p_y p_time p_pulses p_last p_feedRate p_motion p_relative) :: e1 :: e2 :: (o_W a w_rowSize w_at w_motion w_distances) :: e4 :: (o_wz a K wz) :: (o_wn a K wn) :: tl) H := hP
  have hD : va_D A ((o_P a p_way p_done p_left p_nextLineStart p_line p_state p_ending p_x p_y p_time p_pulses p_last p_feedRate p_motion p_relative) :: e1 :: e2 :: (o_W a w_rowSize w_at w_motion w_distances) :: e4 :: (o_wz a K wz) :: (o_wn a K wn) :: tl) := hD
  refine lv_if_eq (tgt := 25) hx hb d_P_applySettings_9 (by decide) (fun hc => ?_) (fun hc => ?_)
  · replace hw := hw.1 hc
    exact J25 H locs ls p_ending p_feedRate p_motion p_relative hP hD hS (lv_sub hl [0] rfl) hw
  · replace hw := hw.2 hc
    refine lv_aload_n hx hb d_P_applySettings_12 rfl (lv_at hl 0 rfl) ?_
    refine lv_aload_n hx hb d_P_applySettings_13 rfl (lv_at hl 0 rfl) ?_
    refine g_P_words hx hb hts hown hK hP 0 rfl rfl d_P_applySettings_14 ?_
    refine lv_bipush (v := (6 : Int32)) hx hb d_P_applySettings_17 (by decide) ?_
    refine my_calli (va_runV (As := [.int (6 : Int32)]) (rest := [.ref (a 0)]) ⟨hx, hb, hml, hown, hts⟩ (c_W_number l H.size) (cw_P_141 hts ⟨Nat.le_of_ble_eq_true rfl, Nat.le_of_ble_eq_true rfl⟩) (my_preV hK hP hX hD hS hA 3 rfl rfl hw) rfl rfl hl.1 rfl (lv_room (Nat.le_of_ble_eq_true rfl)) d_P_applySettings_19 ⟨Nat.le_refl _, Nat.le_refl _⟩) hD hS hA (fun r19 _ H locs hw hP hD hS => ?_)
    have hP : va_P D cls ((o_P a p_way p_done p_left p_nextLineStart p_line p_state p_ending p_x p_y p_time p_pulses p_last p_feedRate p_motion p_relative) :: e1 :: e2 :: (o_W a w_rowSize w_at w_motion w_distances) :: e4 :: (o_wz a K wz) :: (o_wn a K wn) :: tl) H := hP
    have hD : va_D A ((o_P a p_way p_done p_left p_nextLineStart p_line p_state p_ending p_x p_y p_time p_pulses p_last p_feedRate p_motion p_relative) :: e1 :: e2 :: (o_W a w_rowSize w_at w_motion w_distances) :: e4 :: (o_wz a K wz) :: (o_wn a K wn) :: tl) := hD
    refine u_P_feedRate hx hb hts hown hK hP hD hS 0 rfl rfl d_P_applySettings_22 (fun H locs hP hD hS => ?_)
    have hP : va_P D cls ((o_P a p_way p_done p_left p_nextLineStart p_line p_state p_ending p_x p_y p_time p_pulses p_last r19 p_motion p_relative) :: e1 :: e2 :: (o_W a w_rowSize w_at w_motion w_distances) :: e4 :: (o_wz a K wz) :: (o_wn a K wn) :: tl) H := hP
    have hD : va_D A ((o_P a p_way p_done p_left p_nextLineStart p_line p_state p_ending p_x p_y p_time p_pulses p_last r19 p_motion p_relative) :: e1 :: e2 :: (o_W a w_rowSize w_at w_motion w_distances) :: e4 :: (o_wz a K wz) :: (o_wn a K wn) :: tl) := hD
    exact J25 H locs ls p_ending r19 p_motion p_relative hP hD hS (lv_sub hl [0] rfl) hw
def wq_P_lookAtNextLine_21 (Q : Bool → Int32 → Int32 → Int32 → Int32 → Int32 → Int32 → Int32 → Int32 → Int32 → Int32 → Int32 → Int32 → Int32 → (Nat → Int32) → (Nat → Int32) → (Nat → Int32) → Int32 → Int32 → Int32 → Int32 → Int32 → Int32 → Int32 → Int32 → Int32 → Int32 → Int32 → Int32 → (Nat → Int32) → Prop) (p_way : Bool) (p_done p_left p_nextLineStart p_line p_state p_ending p_feedRate p_motion p_relative w_rowSize w_at w_motion w_distances : Int32) (wr wz wn : Nat → Int32) (s_startX s_startY s_dx s_dy s_size r_centreX r_centreY r_diagonal r_side r_first r_turn r_size : Int32) (ar : Nat → Int32) : Prop := (Q p_way p_done p_left p_nextLineStart p_line (100 : Int32) p_ending p_feedRate p_motion p_relative w_rowSize w_at w_motion w_distances wr wz wn s_startX s_startY s_dx s_dy s_size r_centreX r_centreY r_diagonal r_side r_first r_turn r_size ar)
def wp_P_lookAtNextLine (p_way : Bool) (p_done p_left p_nextLineStart p_line p_state p_ending p_x p_y p_feedRate p_motion p_relative t_size : Int32) (tc : Nat → Int32) (w_rowSize w_at w_motion w_distances : Int32) (wr wz wn : Nat → Int32) (s_startX s_startY s_dx s_dy s_size r_centreX r_centreY r_diagonal r_side r_first r_turn r_size : Int32) (ar : Nat → Int32) (Q : Bool → Int32 → Int32 → Int32 → Int32 → Int32 → Int32 → Int32 → Int32 → Int32 → Int32 → Int32 → Int32 → Int32 → (Nat → Int32) → (Nat → Int32) → (Nat → Int32) → Int32 → Int32 → Int32 → Int32 → Int32 → Int32 → Int32 → Int32 → Int32 → Int32 → Int32 → Int32 → (Nat → Int32) → Prop) : Prop := ((¬ p_ending = 0 → (wq_P_lookAtNextLine_21 Q p_way p_done p_left p_nextLineStart p_line p_state p_ending p_feedRate p_motion p_relative w_rowSize w_at w_motion w_distances wr wz wn s_startX s_startY s_dx s_dy s_size r_centreX r_centreY r_diagonal r_side r_first r_turn r_size ar)) ∧ (p_ending = 0 → (wp_T_size t_size (fun r15 => ((p_nextLineStart < r15 → (wp_T_lineEnd p_nextLineStart t_size tc (fun r36 => (wp_W_read p_nextLineStart r36 t_size tc w_rowSize w_at w_motion w_distances wr wz wn (fun r54 w_rowSize_54 w_at_54 w_motion_54 w_distances_54 wr_54 wz_54 wn_54 => ((¬ r54 = 0 → (Q p_way p_done p_left (r36 + (1 : Int32)) (p_line + (1 : Int32)) r54 p_ending p_feedRate p_motion p_relative w_rowSize_54 w_at_54 w_motion_54 w_distances_54 wr_54 wz_54 wn_54 s_startX s_startY s_dx s_dy s_size r_centreX r_centreY r_diagonal r_side r_first r_turn r_size ar)) ∧ (r54 = 0 → (wp_P_applySettings p_ending p_feedRate p_motion p_relative w_motion_54 w_distances_54 wz_54 wn_54 (fun p_ending_85 p_feedRate_85 p_motion_85 p_relative_85 => (wp_P_startMove p_way p_done p_left p_x p_y p_feedRate_85 p_motion_85 p_relative_85 wz_54 wn_54 s_startX s_startY s_dx s_dy s_size r_centreX r_centreY r_diagonal r_side r_first r_turn r_size ar (fun r90 p_way_90 p_done_90 p_left_90 s_startX_90 s_startY_90 s_dx_90 s_dy_90 s_size_90 r_centreX_90 r_centreY_90 r_diagonal_90 r_side_90 r_first_90 r_turn_90 r_size_90 ar_90 => (Q p_way_90 p_done_90 p_left_90 (r36 + (1 : Int32)) (p_line + (1 : Int32)) r90 p_ending_85 p_feedRate_85 p_motion_85 p_relative_85 w_rowSize_54 w_at_54 w_motion_54 w_distances_54 wr_54 wz_54 wn_54 s_startX_90 s_startY_90 s_dx_90 s_dy_90 s_size_90 r_centreX_90 r_centreY_90 r_diagonal_90 r_side_90 r_first_90 r_turn_90 r_size_90 ar_90)))))))))))) ∧ (¬ p_nextLineStart < r15 → (wq_P_lookAtNextLine_21 Q p_way p_done p_left p_nextLineStart p_line p_state p_ending p_feedRate p_motion p_relative w_rowSize w_at w_motion w_distances wr wz wn s_startX s_startY s_dx s_dy s_size r_centreX r_centreY r_diagonal r_side r_first r_turn r_size ar)))))))
abbrev rm_P_lookAtNextLine : Room := { frames := 6, cells := 0, slots := 0, locals := 141 }
set_option maxRecDepth 100000 in
set_option maxHeartbeats 4000000 in
theorem c_P_lookAtNextLine (l : Launch) {D : va_G} {X : xT} {a : Nat → Nat} {K : Nat → ClassId} {tl : va_W} {p_way : Bool} {p_done p_left p_nextLineStart p_line p_state p_ending p_x p_y : Int32} {p_time : Int64} {p_pulses p_last p_feedRate p_motion p_relative t_size : Int32} {tc : Nat → Int32} {w_rowSize w_at w_motion w_distances : Int32} {wr wz wn : Nat → Int32} {s_startX s_startY s_dx s_dy s_size r_centreX r_centreY r_diagonal r_side r_first r_turn r_size : Int32} {ar : Nat → Int32} {Q : Bool → Int32 → Int32 → Int32 → Int32 → Int32 → Int32 → Int32 → Int32 → Int32 → Int32 → Int32 → Int32 → Int32 → (Nat → Int32) → (Nat → Int32) → (Nat → Int32) → Int32 → Int32 → Int32 → Int32 → Int32 → Int32 → Int32 → Int32 → Int32 → Int32 → Int32 → Int32 → (Nat → Int32) → Prop} : MV l y_P_lookAtNextLine b_P_lookAtNextLine 2 rm_P_lookAtNextLine D cls (tys K) X [.ref (a 0)] ((o_P a p_way p_done p_left p_nextLineStart p_line p_state p_ending p_x p_y p_time p_pulses p_last p_feedRate p_motion p_relative) :: (o_T a t_size) :: (o_tc a K tc) :: (o_W a w_rowSize w_at w_motion w_distances) :: (o_wr a K wr) :: (o_wz a K wz) :: (o_wn a K wn) :: (o_S a s_startX s_startY s_dx s_dy s_size) :: (o_A a r_centreX r_centreY r_diagonal r_side r_first r_turn r_size) :: (o_ar a K ar) :: tl) (fun u : Bool × Int32 × Int32 × Int32 × Int32 × Int32 × Int32 × Int32 × Int32 × Int32 × Int32 × Int32 × Int32 × Int32 × (Nat → Int32) × (Nat → Int32) × (Nat → Int32) × Int32 × Int32 × Int32 × Int32 × Int32 × Int32 × Int32 × Int32 × Int32 × Int32 × Int32 × Int32 × (Nat → Int32) => (o_P a u.1 u.2.1 u.2.2.1 u.2.2.2.1 u.2.2.2.2.1 u.2.2.2.2.2.1 u.2.2.2.2.2.2.1 p_x p_y p_time p_pulses p_last u.2.2.2.2.2.2.2.1 u.2.2.2.2.2.2.2.2.1 u.2.2.2.2.2.2.2.2.2.1) :: (o_T a t_size) :: (o_tc a K tc) :: (o_W a u.2.2.2.2.2.2.2.2.2.2.1 u.2.2.2.2.2.2.2.2.2.2.2.1 u.2.2.2.2.2.2.2.2.2.2.2.2.1 u.2.2.2.2.2.2.2.2.2.2.2.2.2.1) :: (o_wr a K u.2.2.2.2.2.2.2.2.2.2.2.2.2.2.1) :: (o_wz a K u.2.2.2.2.2.2.2.2.2.2.2.2.2.2.2.1) :: (o_wn a K u.2.2.2.2.2.2.2.2.2.2.2.2.2.2.2.2.1) :: (o_S a u.2.2.2.2.2.2.2.2.2.2.2.2.2.2.2.2.2.1 u.2.2.2.2.2.2.2.2.2.2.2.2.2.2.2.2.2.2.1 u.2.2.2.2.2.2.2.2.2.2.2.2.2.2.2.2.2.2.2.1 u.2.2.2.2.2.2.2.2.2.2.2.2.2.2.2.2.2.2.2.2.1 u.2.2.2.2.2.2.2.2.2.2.2.2.2.2.2.2.2.2.2.2.2.1) :: (o_A a u.2.2.2.2.2.2.2.2.2.2.2.2.2.2.2.2.2.2.2.2.2.2.1 u.2.2.2.2.2.2.2.2.2.2.2.2.2.2.2.2.2.2.2.2.2.2.2.1 u.2.2.2.2.2.2.2.2.2.2.2.2.2.2.2.2.2.2.2.2.2.2.2.2.1 u.2.2.2.2.2.2.2.2.2.2.2.2.2.2.2.2.2.2.2.2.2.2.2.2.2.1 u.2.2.2.2.2.2.2.2.2.2.2.2.2.2.2.2.2.2.2.2.2.2.2.2.2.2.1 u.2.2.2.2.2.2.2.2.2.2.2.2.2.2.2.2.2.2.2.2.2.2.2.2.2.2.2.1 u.2.2.2.2.2.2.2.2.2.2.2.2.2.2.2.2.2.2.2.2.2.2.2.2.2.2.2.2.1) :: (o_ar a K u.2.2.2.2.2.2.2.2.2.2.2.2.2.2.2.2.2.2.2.2.2.2.2.2.2.2.2.2.2) :: tl) (wp_P_lookAtNextLine p_way p_done p_left p_nextLineStart p_line p_state p_ending p_x p_y p_feedRate p_motion p_relative t_size tc w_rowSize w_at w_motion w_distances wr wz wn s_startX s_startY s_dx s_dy s_size r_centreX r_centreY r_diagonal r_side r_first r_turn r_size ar Q) (fun u => Q u.1 u.2.1 u.2.2.1 u.2.2.2.1 u.2.2.2.2.1 u.2.2.2.2.2.1 u.2.2.2.2.2.2.1 u.2.2.2.2.2.2.2.1 u.2.2.2.2.2.2.2.2.1 u.2.2.2.2.2.2.2.2.2.1 u.2.2.2.2.2.2.2.2.2.2.1 u.2.2.2.2.2.2.2.2.2.2.2.1 u.2.2.2.2.2.2.2.2.2.2.2.2.1 u.2.2.2.2.2.2.2.2.2.2.2.2.2.1 u.2.2.2.2.2.2.2.2.2.2.2.2.2.2.1 u.2.2.2.2.2.2.2.2.2.2.2.2.2.2.2.1 u.2.2.2.2.2.2.2.2.2.2.2.2.2.2.2.2.1 u.2.2.2.2.2.2.2.2.2.2.2.2.2.2.2.2.2.1 u.2.2.2.2.2.2.2.2.2.2.2.2.2.2.2.2.2.2.1 u.2.2.2.2.2.2.2.2.2.2.2.2.2.2.2.2.2.2.2.1 u.2.2.2.2.2.2.2.2.2.2.2.2.2.2.2.2.2.2.2.2.1 u.2.2.2.2.2.2.2.2.2.2.2.2.2.2.2.2.2.2.2.2.2.1 u.2.2.2.2.2.2.2.2.2.2.2.2.2.2.2.2.2.2.2.2.2.2.1 u.2.2.2.2.2.2.2.2.2.2.2.2.2.2.2.2.2.2.2.2.2.2.2.1 u.2.2.2.2.2.2.2.2.2.2.2.2.2.2.2.2.2.2.2.2.2.2.2.2.1 u.2.2.2.2.2.2.2.2.2.2.2.2.2.2.2.2.2.2.2.2.2.2.2.2.2.1 u.2.2.2.2.2.2.2.2.2.2.2.2.2.2.2.2.2.2.2.2.2.2.2.2.2.2.1 u.2.2.2.2.2.2.2.2.2.2.2.2.2.2.2.2.2.2.2.2.2.2.2.2.2.2.2.1 u.2.2.2.2.2.2.2.2.2.2.2.2.2.2.2.2.2.2.2.2.2.2.2.2.2.2.2.2.1 u.2.2.2.2.2.2.2.2.2.2.2.2.2.2.2.2.2.2.2.2.2.2.2.2.2.2.2.2.2) := by
  refine my_of_V (by decide +kernel) (Nat.le_of_ble_eq_true rfl) (fun p e s m args below meth c A QQ H locs ls hx hb hts hown hml hK hX hA hP hD hS hl hw hret => ?_)
  replace hl : lv_has ls 2 [(0, .ref (a 0))] := hl
  have J21 : ∀ (H : Heap) (locs : List Loc) (ls : Array Slot) (p_way : Bool) (p_done p_left p_nextLineStart p_line p_state p_ending p_feedRate p_motion p_relative w_rowSize w_at w_motion w_distances : Int32) (wr wz wn : Nat → Int32) (s_startX s_startY s_dx s_dy s_size r_centreX r_centreY r_diagonal r_side r_first r_turn r_size : Int32) (ar : Nat → Int32), va_P D cls ((o_P a p_way p_done p_left p_nextLineStart p_line p_state p_ending p_x p_y p_time p_pulses p_last p_feedRate p_motion p_relative) :: (o_T a t_size) :: (o_tc a K tc) :: (o_W a w_rowSize w_at w_motion w_distances) :: (o_wr a K wr) :: (o_wz a K wz) :: (o_wn a K wn) :: (o_S a s_startX s_startY s_dx s_dy s_size) :: (o_A a r_centreX r_centreY r_diagonal r_side r_first r_turn r_size) :: (o_ar a K ar) :: tl) H → va_D A ((o_P a p_way p_done p_left p_nextLineStart p_line p_state p_ending p_x p_y p_time p_pulses p_last p_feedRate p_motion p_relative) :: (o_T a t_size) :: (o_tc a K tc) :: (o_W a w_rowSize w_at w_motion w_distances) :: (o_wr a K wr) :: (o_wz a K wz) :: (o_wn a K wn) :: (o_S a s_startX s_startY s_dx s_dy s_size) :: (o_A a r_centreX r_centreY r_diagonal r_side r_first r_turn r_size) :: (o_ar a K ar) :: tl) → va_S A s.heap H locs → lv_has ls 2 [(0, .ref (a 0))] → wq_P_lookAtNextLine_21 Q p_way p_done p_left p_nextLineStart p_line p_state p_ending p_feedRate p_motion p_relative w_rowSize w_at w_motion w_distances wr wz wn s_startX s_startY s_dx s_dy s_size r_centreX r_centreY r_diagonal r_side r_first r_turn r_size ar → W p l e rm_P_lookAtNextLine s m args below meth c H locs 0 0 QQ (F0 m 21 ls []) := by
    intro H locs ls p_way p_done p_left p_nextLineStart p_line p_state p_ending p_feedRate p_motion p_relative w_rowSize w_at w_motion w_distances wr wz wn s_startX s_startY s_dx s_dy s_size r_centreX r_centreY r_diagonal r_side r_first r_turn r_size ar hP hD hS hl hw
    unfold wq_P_lookAtNextLine_21 at hw
    refine lv_aload_n hx hb d_P_lookAtNextLine_21 rfl (lv_at hl 0 rfl) ?_
    refine lv_bipush (v := (100 : Int32)) hx hb d_P_lookAtNextLine_22 (by decide) ?_
    refine u_P_state hx hb hts hown hK hP hD hS 0 rfl rfl d_P_lookAtNextLine_24 (fun H locs hP hD hS => ?_)
    have hP : va_P D cls ((o_P a p_way p_done p_left p_nextLineStart p_line (100 : Int32) p_ending p_x p_y p_time p_pulses p_last p_feedRate p_motion p_relative) :: (o_T a t_size) :: (o_tc a K tc) :: (o_W a w_rowSize w_at w_motion w_distances) :: (o_wr a K wr) :: (o_wz a K wz) :: (o_wn a K wn) :: (o_S a s_startX s_startY s_dx s_dy s_size) :: (o_A a r_centreX r_centreY r_diagonal r_side r_first r_turn r_size) :: (o_ar a K ar) :: tl) H := hP
    have hD : va_D A ((o_P a p_way p_done p_left p_nextLineStart p_line (100 : Int32) p_ending p_x p_y p_time p_pulses p_last p_feedRate p_motion p_relative) :: (o_T a t_size) :: (o_tc a K tc) :: (o_W a w_rowSize w_at w_motion w_distances) :: (o_wr a K wr) :: (o_wz a K wz) :: (o_wn a K wn) :: (o_S a s_startX s_startY s_dx s_dy s_size) :: (o_A a r_centreX r_centreY r_diagonal r_side r_first r_turn r_size) :: (o_ar a K ar) :: tl) := hD
    exact hret H locs ls 27 ((p_way, p_done, p_left, p_nextLineStart, p_line, (100 : Int32), p_ending, p_feedRate, p_motion, p_relative, w_rowSize, w_at, w_motion, w_distances, wr, wz, wn, s_startX, s_startY, s_dx, s_dy, s_size, r_centreX, r_centreY, r_diagonal, r_side, r_first, r_turn, r_size, ar)) d_P_lookAtNextLine_27 hP hD hS hw
  unfold wp_P_lookAtNextLine at hw
  refine lv_aload_n hx hb d_P_lookAtNextLine_0 rfl (lv_at hl 0 rfl) ?_
  refine g_P_ending hx hb hts hown hK hP 0 rfl rfl d_P_lookAtNextLine_1 ?_
  refine lv_if_ne (tgt := 21) hx hb d_P_lookAtNextLine_4 (by decide) (fun hc => ?_) (fun hc => ?_)
  · replace hw := hw.1 hc
    exact J21 H locs ls p_way p_done p_left p_nextLineStart p_line p_state p_ending p_feedRate p_motion p_relative w_rowSize w_at w_motion w_distances wr wz wn s_startX s_startY s_dx s_dy s_size r_centreX r_centreY r_diagonal r_side r_first r_turn r_size ar hP hD hS (lv_sub hl [0] rfl) hw
  · replace hw := hw.2 hc
    refine lv_aload_n hx hb d_P_lookAtNextLine_7 rfl (lv_at hl 0 rfl) ?_
    refine g_P_nextLineStart hx hb hts hown hK hP 0 rfl rfl d_P_lookAtNextLine_8 ?_
    refine lv_aload_n hx hb d_P_lookAtNextLine_11 rfl (lv_at hl 0 rfl) ?_
    refine g_P_text hx hb hts hown hK hP 0 rfl rfl d_P_lookAtNextLine_12 ?_
    refine my_calli (va_runV (As := []) (rest := [.int p_nextLineStart]) ⟨hx, hb, hml, hown, hts⟩ (c_T_size l H.size) (cw_P_121 hts ⟨Nat.le_of_ble_eq_true rfl, Nat.le_of_ble_eq_true rfl⟩) (my_preV hK hP hX hD hS hA 1 rfl rfl hw) rfl rfl hl.1 rfl (lv_room (Nat.le_of_ble_eq_true rfl)) d_P_lookAtNextLine_15 ⟨Nat.le_refl _, Nat.le_refl _⟩) hD hS hA (fun r15 _ H locs hw hP hD hS => ?_)
    have hP : va_P D cls ((o_P a p_way p_done p_left p_nextLineStart p_line p_state p_ending p_x p_y p_time p_pulses p_last p_feedRate p_motion p_relative) :: (o_T a t_size) :: (o_tc a K tc) :: (o_W a w_rowSize w_at w_motion w_distances) :: (o_wr a K wr) :: (o_wz a K wz) :: (o_wn a K wn) :: (o_S a s_startX s_startY s_dx s_dy s_size) :: (o_A a r_centreX r_centreY r_diagonal r_side r_first r_turn r_size) :: (o_ar a K ar) :: tl) H := hP
    have hD : va_D A ((o_P a p_way p_done p_left p_nextLineStart p_line p_state p_ending p_x p_y p_time p_pulses p_last p_feedRate p_motion p_relative) :: (o_T a t_size) :: (o_tc a K tc) :: (o_W a w_rowSize w_at w_motion w_distances) :: (o_wr a K wr) :: (o_wz a K wz) :: (o_wn a K wn) :: (o_S a s_startX s_startY s_dx s_dy s_size) :: (o_A a r_centreX r_centreY r_diagonal r_side r_first r_turn r_size) :: (o_ar a K ar) :: tl) := hD
    refine lv_icmp_lt (tgt := 28) hx hb d_P_lookAtNextLine_18 (by decide) (fun hc => ?_) (fun hc => ?_)
    · replace hw := hw.1 hc
      refine lv_aload_n hx hb d_P_lookAtNextLine_28 rfl (lv_at hl 0 rfl) ?_
      refine g_P_text hx hb hts hown hK hP 0 rfl rfl d_P_lookAtNextLine_29 ?_
      refine lv_aload_n hx hb d_P_lookAtNextLine_32 rfl (lv_at hl 0 rfl) ?_
      refine g_P_nextLineStart hx hb hts hown hK hP 0 rfl rfl d_P_lookAtNextLine_33 ?_
      refine my_calli (va_runV (As := [.int p_nextLineStart]) (rest := []) ⟨hx, hb, hml, hown, hts⟩ (c_T_lineEnd l H.size) (cw_P_124 hts ⟨Nat.le_of_ble_eq_true rfl, Nat.le_of_ble_eq_true rfl⟩) (my_preV hK hP hX hD hS hA 1 rfl rfl hw) rfl rfl hl.1 rfl (lv_room (Nat.le_of_ble_eq_true rfl)) d_P_lookAtNextLine_36 ⟨Nat.le_refl _, Nat.le_refl _⟩) hD hS hA (fun r36 _ H locs hw hP hD hS => ?_)
      have hP : va_P D cls ((o_P a p_way p_done p_left p_nextLineStart p_line p_state p_ending p_x p_y p_time p_pulses p_last p_feedRate p_motion p_relative) :: (o_T a t_size) :: (o_tc a K tc) :: (o_W a w_rowSize w_at w_motion w_distances) :: (o_wr a K wr) :: (o_wz a K wz) :: (o_wn a K wn) :: (o_S a s_startX s_startY s_dx s_dy s_size) :: (o_A a r_centreX r_centreY r_diagonal r_side r_first r_turn r_size) :: (o_ar a K ar) :: tl) H := hP
      have hD : va_D A ((o_P a p_way p_done p_left p_nextLineStart p_line p_state p_ending p_x p_y p_time p_pulses p_last p_feedRate p_motion p_relative) :: (o_T a t_size) :: (o_tc a K tc) :: (o_W a w_rowSize w_at w_motion w_distances) :: (o_wr a K wr) :: (o_wz a K wz) :: (o_wn a K wn) :: (o_S a s_startX s_startY s_dx s_dy s_size) :: (o_A a r_centreX r_centreY r_diagonal r_side r_first r_turn r_size) :: (o_ar a K ar) :: tl) := hD
      refine lv_istore_n (lv' := [(1, .int r36), (0, .ref (a 0))]) hx hb d_P_lookAtNextLine_39 rfl hl (Nat.le_of_ble_eq_true rfl) rfl (fun ls hl => ?_)
      refine lv_aload_n hx hb d_P_lookAtNextLine_40 rfl (lv_at hl 1 rfl) ?_
      refine lv_aload_n hx hb d_P_lookAtNextLine_41 rfl (lv_at hl 1 rfl) ?_
      refine g_P_words hx hb hts hown hK hP 0 rfl rfl d_P_lookAtNextLine_42 ?_
      refine lv_aload_n hx hb d_P_lookAtNextLine_45 rfl (lv_at hl 1 rfl) ?_
      refine g_P_text hx hb hts hown hK hP 0 rfl rfl d_P_lookAtNextLine_46 ?_
      refine lv_aload_n hx hb d_P_lookAtNextLine_49 rfl (lv_at hl 1 rfl) ?_
      refine g_P_nextLineStart hx hb hts hown hK hP 0 rfl rfl d_P_lookAtNextLine_50 ?_
      refine lv_iload_n hx hb d_P_lookAtNextLine_53 rfl (lv_at hl 0 rfl) ?_
      refine my_calli (va_runV (As := [.ref (a 1), .int p_nextLineStart, .int r36]) (rest := [.ref (a 0)]) ⟨hx, hb, hml, hown, hts⟩ (c_W_read l H.size) (cw_P_127 hts ⟨Nat.le_of_ble_eq_true rfl, Nat.le_of_ble_eq_true rfl⟩) (my_preV hK hP hX hD hS hA 3 rfl rfl hw) rfl rfl hl.1 rfl (lv_room (Nat.le_of_ble_eq_true rfl)) d_P_lookAtNextLine_54 ⟨Nat.le_refl _, Nat.le_refl _⟩) hD hS hA (fun r54 u H locs hw hP hD hS => ?_)
      obtain ⟨w_rowSize_54, w_at_54, w_motion_54, w_distances_54, wr_54, wz_54, wn_54⟩ := u
      dsimp only at hw
      have hP : va_P D cls ((o_P a p_way p_done p_left p_nextLineStart p_line p_state p_ending p_x p_y p_time p_pulses p_last p_feedRate p_motion p_relative) :: (o_T a t_size) :: (o_tc a K tc) :: (o_W a w_rowSize_54 w_at_54 w_motion_54 w_distances_54) :: (o_wr a K wr_54) :: (o_wz a K wz_54) :: (o_wn a K wn_54) :: (o_S a s_startX s_startY s_dx s_dy s_size) :: (o_A a r_centreX r_centreY r_diagonal r_side r_first r_turn r_size) :: (o_ar a K ar) :: tl) H := hP
      have hD : va_D A ((o_P a p_way p_done p_left p_nextLineStart p_line p_state p_ending p_x p_y p_time p_pulses p_last p_feedRate p_motion p_relative) :: (o_T a t_size) :: (o_tc a K tc) :: (o_W a w_rowSize_54 w_at_54 w_motion_54 w_distances_54) :: (o_wr a K wr_54) :: (o_wz a K wz_54) :: (o_wn a K wn_54) :: (o_S a s_startX s_startY s_dx s_dy s_size) :: (o_A a r_centreX r_centreY r_diagonal r_side r_first r_turn r_size) :: (o_ar a K ar) :: tl) := hD
      refine u_P_state hx hb hts hown hK hP hD hS 0 rfl rfl d_P_lookAtNextLine_57 (fun H locs hP hD hS => ?_)
      have hP : va_P D cls ((o_P a p_way p_done p_left p_nextLineStart p_line r54 p_ending p_x p_y p_time p_pulses p_last p_feedRate p_motion p_relative) :: (o_T a t_size) :: (o_tc a K tc) :: (o_W a w_rowSize_54 w_at_54 w_motion_54 w_distances_54) :: (o_wr a K wr_54) :: (o_wz a K wz_54) :: (o_wn a K wn_54) :: (o_S a s_startX s_startY s_dx s_dy s_size) :: (o_A a r_centreX r_centreY r_diagonal r_side r_first r_turn r_size) :: (o_ar a K ar) :: tl) H := hP
      have hD : va_D A ((o_P a p_way p_done p_left p_nextLineStart p_line r54 p_ending p_x p_y p_time p_pulses p_last p_feedRate p_motion p_relative) :: (o_T a t_size) :: (o_tc a K tc) :: (o_W a w_rowSize_54 w_at_54 w_motion_54 w_distances_54) :: (o_wr a K wr_54) :: (o_wz a K wz_54) :: (o_wn a K wn_54) :: (o_S a s_startX s_startY s_dx s_dy s_size) :: (o_A a r_centreX r_centreY r_diagonal r_side r_first r_turn r_size) :: (o_ar a K ar) :: tl) := hD
      refine lv_aload_n hx hb d_P_lookAtNextLine_60 rfl (lv_at hl 1 rfl) ?_
      refine lv_iload_n hx hb d_P_lookAtNextLine_61 rfl (lv_at hl 0 rfl) ?_
      refine lv_iconst (v := (1 : Int32)) hx hb d_P_lookAtNextLine_62 (by decide) ?_
      refine lv_iadd hx hb d_P_lookAtNextLine_63 ?_
      refine u_P_nextLineStart hx hb hts hown hK hP hD hS 0 rfl rfl d_P_lookAtNextLine_64 (fun H locs hP hD hS => ?_)
      have hP : va_P D cls ((o_P a p_way p_done p_left (r36 + (1 : Int32)) p_line r54 p_ending p_x p_y p_time p_pulses p_last p_feedRate p_motion p_relative) :: (o_T a t_size) :: (o_tc a K tc) :: (o_W a w_rowSize_54 w_at_54 w_motion_54 w_distances_54) :: (o_wr a K wr_54) :: (o_wz a K wz_54) :: (o_wn a K wn_54) :: (o_S a s_startX s_startY s_dx s_dy s_size) :: (o_A a r_centreX r_centreY r_diagonal r_side r_first r_turn r_size) :: (o_ar a K ar) :: tl) H := hP
      have hD : va_D A ((o_P a p_way p_done p_left (r36 + (1 : Int32)) p_line r54 p_ending p_x p_y p_time p_pulses p_last p_feedRate p_motion p_relative) :: (o_T a t_size) :: (o_tc a K tc) :: (o_W a w_rowSize_54 w_at_54 w_motion_54 w_distances_54) :: (o_wr a K wr_54) :: (o_wz a K wz_54) :: (o_wn a K wn_54) :: (o_S a s_startX s_startY s_dx s_dy s_size) :: (o_A a r_centreX r_centreY r_diagonal r_side r_first r_turn r_size) :: (o_ar a K ar) :: tl) := hD
      refine lv_aload_n hx hb d_P_lookAtNextLine_67 rfl (lv_at hl 1 rfl) ?_
      refine lv_dup hx hb d_P_lookAtNextLine_68 rfl ?_
      refine g_P_line hx hb hts hown hK hP 0 rfl rfl d_P_lookAtNextLine_69 ?_
      refine lv_iconst (v := (1 : Int32)) hx hb d_P_lookAtNextLine_72 (by decide) ?_
      refine lv_iadd hx hb d_P_lookAtNextLine_73 ?_
      refine u_P_line hx hb hts hown hK hP hD hS 0 rfl rfl d_P_lookAtNextLine_74 (fun H locs hP hD hS => ?_)
      have hP : va_P D cls ((o_P a p_way p_done p_left (r36 + (1 : Int32)) (p_line + (1 : Int32)) r54 p_ending p_x p_y p_time p_pulses p_last p_feedRate p_motion p_relative) :: (o_T a t_size) :: (o_tc a K tc) :: (o_W a w_rowSize_54 w_at_54 w_motion_54 w_distances_54) :: (o_wr a K wr_54) :: (o_wz a K wz_54) :: (o_wn a K wn_54) :: (o_S a s_startX s_startY s_dx s_dy s_size) :: (o_A a r_centreX r_centreY r_diagonal r_side r_first r_turn r_size) :: (o_ar a K ar) :: tl) H := hP
      have hD : va_D A ((o_P a p_way p_done p_left (r36 + (1 : Int32)) (p_line + (1 : Int32)) r54 p_ending p_x p_y p_time p_pulses p_last p_feedRate p_motion p_relative) :: (o_T a t_size) :: (o_tc a K tc) :: (o_W a w_rowSize_54 w_at_54 w_motion_54 w_distances_54) :: (o_wr a K wr_54) :: (o_wz a K wz_54) :: (o_wn a K wn_54) :: (o_S a s_startX s_startY s_dx s_dy s_size) :: (o_A a r_centreX r_centreY r_diagonal r_side r_first r_turn r_size) :: (o_ar a K ar) :: tl) := hD
      refine lv_aload_n hx hb d_P_lookAtNextLine_77 rfl (lv_at hl 1 rfl) ?_
      refine g_P_state hx hb hts hown hK hP 0 rfl rfl d_P_lookAtNextLine_78 ?_
      refine lv_if_ne (tgt := 96) hx hb d_P_lookAtNextLine_81 (by decide) (fun hc => ?_) (fun hc => ?_)
      · replace hw := hw.1 hc
        exact hret H locs ls 96 ((p_way, p_done, p_left, r36 + (1 : Int32), p_line + (1 : Int32), r54, p_ending, p_feedRate, p_motion, p_relative, w_rowSize_54, w_at_54, w_motion_54, w_distances_54, wr_54, wz_54, wn_54, s_startX, s_startY, s_dx, s_dy, s_size, r_centreX, r_centreY, r_diagonal, r_side, r_first, r_turn, r_size, ar)) d_P_lookAtNextLine_96 hP hD hS hw
      · replace hw := hw.2 hc
        refine lv_aload_n hx hb d_P_lookAtNextLine_84 rfl (lv_at hl 1 rfl) ?_
        refine my_callv (va_runV (As := []) (rest := []) ⟨hx, hb, hml, hown, hts⟩ (c_P_applySettings l H.size) (cw_P_131 hts ⟨Nat.le_of_ble_eq_true rfl, Nat.le_of_ble_eq_true rfl⟩) (my_preV hK hP hX hD hS hA 0 rfl rfl hw) rfl rfl hl.1 rfl (lv_room (Nat.le_of_ble_eq_true rfl)) d_P_lookAtNextLine_85 ⟨Nat.le_refl _, Nat.le_refl _⟩) hD hS hA (fun u H locs hw hP hD hS => ?_)
        obtain ⟨p_ending_85, p_feedRate_85, p_motion_85, p_relative_85⟩ := u
        dsimp only at hw
        have hP : va_P D cls ((o_P a p_way p_done p_left (r36 + (1 : Int32)) (p_line + (1 : Int32)) r54 p_ending_85 p_x p_y p_time p_pulses p_last p_feedRate_85 p_motion_85 p_relative_85) :: (o_T a t_size) :: (o_tc a K tc) :: (o_W a w_rowSize_54 w_at_54 w_motion_54 w_distances_54) :: (o_wr a K wr_54) :: (o_wz a K wz_54) :: (o_wn a K wn_54) :: (o_S a s_startX s_startY s_dx s_dy s_size) :: (o_A a r_centreX r_centreY r_diagonal r_side r_first r_turn r_size) :: (o_ar a K ar) :: tl) H := hP
        have hD : va_D A ((o_P a p_way p_done p_left (r36 + (1 : Int32)) (p_line + (1 : Int32)) r54 p_ending_85 p_x p_y p_time p_pulses p_last p_feedRate_85 p_motion_85 p_relative_85) :: (o_T a t_size) :: (o_tc a K tc) :: (o_W a w_rowSize_54 w_at_54 w_motion_54 w_distances_54) :: (o_wr a K wr_54) :: (o_wz a K wz_54) :: (o_wn a K wn_54) :: (o_S a s_startX s_startY s_dx s_dy s_size) :: (o_A a r_centreX r_centreY r_diagonal r_side r_first r_turn r_size) :: (o_ar a K ar) :: tl) := hD
        refine lv_aload_n hx hb d_P_lookAtNextLine_88 rfl (lv_at hl 1 rfl) ?_
        refine lv_aload_n hx hb d_P_lookAtNextLine_89 rfl (lv_at hl 1 rfl) ?_
        refine my_calli (va_runV (As := []) (rest := [.ref (a 0)]) ⟨hx, hb, hml, hown, hts⟩ (c_P_startMove l H.size) (cw_P_134 hts ⟨Nat.le_of_ble_eq_true rfl, Nat.le_of_ble_eq_true rfl⟩) (my_preV hK hP hX hD hS hA 0 rfl rfl hw) rfl rfl hl.1 rfl (lv_room (Nat.le_of_ble_eq_true rfl)) d_P_lookAtNextLine_90 ⟨Nat.le_refl _, Nat.le_refl _⟩) hD hS hA (fun r90 u H locs hw hP hD hS => ?_)
        obtain ⟨p_way_90, p_done_90, p_left_90, s_startX_90, s_startY_90, s_dx_90, s_dy_90, s_size_90, r_centreX_90, r_centreY_90, r_diagonal_90, r_side_90, r_first_90, r_turn_90, r_size_90, ar_90⟩ := u
        dsimp only at hw
        have hP : va_P D cls ((o_P a p_way_90 p_done_90 p_left_90 (r36 + (1 : Int32)) (p_line + (1 : Int32)) r54 p_ending_85 p_x p_y p_time p_pulses p_last p_feedRate_85 p_motion_85 p_relative_85) :: (o_T a t_size) :: (o_tc a K tc) :: (o_W a w_rowSize_54 w_at_54 w_motion_54 w_distances_54) :: (o_wr a K wr_54) :: (o_wz a K wz_54) :: (o_wn a K wn_54) :: (o_S a s_startX_90 s_startY_90 s_dx_90 s_dy_90 s_size_90) :: (o_A a r_centreX_90 r_centreY_90 r_diagonal_90 r_side_90 r_first_90 r_turn_90 r_size_90) :: (o_ar a K ar_90) :: tl) H := hP
        have hD : va_D A ((o_P a p_way_90 p_done_90 p_left_90 (r36 + (1 : Int32)) (p_line + (1 : Int32)) r54 p_ending_85 p_x p_y p_time p_pulses p_last p_feedRate_85 p_motion_85 p_relative_85) :: (o_T a t_size) :: (o_tc a K tc) :: (o_W a w_rowSize_54 w_at_54 w_motion_54 w_distances_54) :: (o_wr a K wr_54) :: (o_wz a K wz_54) :: (o_wn a K wn_54) :: (o_S a s_startX_90 s_startY_90 s_dx_90 s_dy_90 s_size_90) :: (o_A a r_centreX_90 r_centreY_90 r_diagonal_90 r_side_90 r_first_90 r_turn_90 r_size_90) :: (o_ar a K ar_90) :: tl) := hD
        refine u_P_state hx hb hts hown hK hP hD hS 0 rfl rfl d_P_lookAtNextLine_93 (fun H locs hP hD hS => ?_)
        have hP : va_P D cls ((o_P a p_way_90 p_done_90 p_left_90 (r36 + (1 : Int32)) (p_line + (1 : Int32)) r90 p_ending_85 p_x p_y p_time p_pulses p_last p_feedRate_85 p_motion_85 p_relative_85) :: (o_T a t_size) :: (o_tc a K tc) :: (o_W a w_rowSize_54 w_at_54 w_motion_54 w_distances_54) :: (o_wr a K wr_54) :: (o_wz a K wz_54) :: (o_wn a K wn_54) :: (o_S a s_startX_90 s_startY_90 s_dx_90 s_dy_90 s_size_90) :: (o_A a r_centreX_90 r_centreY_90 r_diagonal_90 r_side_90 r_first_90 r_turn_90 r_size_90) :: (o_ar a K ar_90) :: tl) H := hP
        have hD : va_D A ((o_P a p_way_90 p_done_90 p_left_90 (r36 + (1 : Int32)) (p_line + (1 : Int32)) r90 p_ending_85 p_x p_y p_time p_pulses p_last p_feedRate_85 p_motion_85 p_relative_85) :: (o_T a t_size) :: (o_tc a K tc) :: (o_W a w_rowSize_54 w_at_54 w_motion_54 w_distances_54) :: (o_wr a K wr_54) :: (o_wz a K wz_54) :: (o_wn a K wn_54) :: (o_S a s_startX_90 s_startY_90 s_dx_90 s_dy_90 s_size_90) :: (o_A a r_centreX_90 r_centreY_90 r_diagonal_90 r_side_90 r_first_90 r_turn_90 r_size_90) :: (o_ar a K ar_90) :: tl) := hD
        exact hret H locs ls 96 ((p_way_90, p_done_90, p_left_90, r36 + (1 : Int32), p_line + (1 : Int32), r90, p_ending_85, p_feedRate_85, p_motion_85, p_relative_85, w_rowSize_54, w_at_54, w_motion_54, w_distances_54, wr_54, wz_54, wn_54, s_startX_90, s_startY_90, s_dx_90, s_dy_90, s_size_90, r_centreX_90, r_centreY_90, r_diagonal_90, r_side_90, r_first_90, r_turn_90, r_size_90, ar_90)) d_P_lookAtNextLine_96 hP hD hS hw
    · replace hw := hw.2 hc
      exact J21 H locs ls p_way p_done p_left p_nextLineStart p_line p_state p_ending p_feedRate p_motion p_relative w_rowSize w_at w_motion w_distances wr wz wn s_startX s_startY s_dx s_dy s_size r_centreX r_centreY r_diagonal r_side r_first r_turn r_size ar hP hD hS (lv_sub hl [0] rfl) hw
def wq_P_run_8 (Q : Int32 → Bool → Int32 → Int32 → Int32 → Int32 → Int32 → Int32 → Int32 → Int32 → Int64 → Int32 → Int32 → Int32 → Int32 → Int32 → Int32 → Int32 → Int32 → Int32 → (Nat → Int32) → (Nat → Int32) → (Nat → Int32) → Int32 → Int32 → Int32 → Int32 → Int32 → Int32 → Int32 → Int32 → Int32 → Int32 → Int32 → Int32 → (Nat → Int32) → Prop) (t_size : Int32) (tc : Nat → Int32) : Nat → Int32 → Int32 → Int32 → Bool → Int32 → Int32 → Int32 → Int32 → Int32 → Int32 → Int32 → Int32 → Int64 → Int32 → Int32 → Int32 → Int32 → Int32 → Int32 → Int32 → Int32 → Int32 → (Nat → Int32) → (Nat → Int32) → (Nat → Int32) → Int32 → Int32 → Int32 → Int32 → Int32 → Int32 → Int32 → Int32 → Int32 → Int32 → Int32 → Int32 → (Nat → Int32) → Prop
  | 0, _, _, _, _, _, _, _, _, _, _, _, _, _, _, _, _, _, _, _, _, _, _, _, _, _, _, _, _, _, _, _, _, _, _, _, _, _, _ => False
  | n8 + 1, x1, x2, x3, p_way, p_done, p_left, p_nextLineStart, p_line, p_state, p_ending, p_x, p_y, p_time, p_pulses, p_last, p_feedRate, p_motion, p_relative, w_rowSize, w_at, w_motion, w_distances, wr, wz, wn, s_startX, s_startY, s_dx, s_dy, s_size, r_centreX, r_centreY, r_diagonal, r_side, r_first, r_turn, r_size, ar => (((400 : Int32) < x3 → (Q x2 p_way p_done p_left p_nextLineStart p_line p_state p_ending p_x p_y p_time p_pulses p_last p_feedRate p_motion p_relative w_rowSize w_at w_motion w_distances wr wz wn s_startX s_startY s_dx s_dy s_size r_centreX r_centreY r_diagonal r_side r_first r_turn r_size ar)) ∧ (¬ (400 : Int32) < x3 → ((x1 ≤ x2 → (Q x2 p_way p_done p_left p_nextLineStart p_line p_state p_ending p_x p_y p_time p_pulses p_last p_feedRate p_motion p_relative w_rowSize w_at w_motion w_distances wr wz wn s_startX s_startY s_dx s_dy s_size r_centreX r_centreY r_diagonal r_side r_first r_turn r_size ar)) ∧ (¬ x1 ≤ x2 → ((¬ p_state = 0 → (Q x2 p_way p_done p_left p_nextLineStart p_line p_state p_ending p_x p_y p_time p_pulses p_last p_feedRate p_motion p_relative w_rowSize w_at w_motion w_distances wr wz wn s_startX s_startY s_dx s_dy s_size r_centreX r_centreY r_diagonal r_side r_first r_turn r_size ar)) ∧ (p_state = 0 → (wp_P_lookAtNextLine p_way p_done p_left p_nextLineStart p_line p_state p_ending p_x p_y p_feedRate p_motion p_relative t_size tc w_rowSize w_at w_motion w_distances wr wz wn s_startX s_startY s_dx s_dy s_size r_centreX r_centreY r_diagonal r_side r_first r_turn r_size ar (fun p_way_28 p_done_28 p_left_28 p_nextLineStart_28 p_line_28 p_state_28 p_ending_28 p_feedRate_28 p_motion_28 p_relative_28 w_rowSize_28 w_at_28 w_motion_28 w_distances_28 wr_28 wz_28 wn_28 s_startX_28 s_startY_28 s_dx_28 s_dy_28 s_size_28 r_centreX_28 r_centreY_28 r_diagonal_28 r_side_28 r_first_28 r_turn_28 r_size_28 ar_28 => (wp_P_makePulses (x1 - x2) p_way_28 p_done_28 p_left_28 p_x p_y p_time p_pulses p_last p_feedRate_28 p_motion_28 s_startX_28 s_startY_28 s_dx_28 s_dy_28 s_size_28 r_centreX_28 r_centreY_28 r_diagonal_28 r_side_28 r_first_28 r_turn_28 ar_28 (fun r36 p_done_36 p_left_36 p_x_36 p_y_36 p_time_36 p_pulses_36 p_last_36 => (wq_P_run_8 Q t_size tc n8 x1 (x2 + r36) (x3 + (1 : Int32)) p_way_28 p_done_36 p_left_36 p_nextLineStart_28 p_line_28 p_state_28 p_ending_28 p_x_36 p_y_36 p_time_36 p_pulses_36 p_last_36 p_feedRate_28 p_motion_28 p_relative_28 w_rowSize_28 w_at_28 w_motion_28 w_distances_28 wr_28 wz_28 wn_28 s_startX_28 s_startY_28 s_dx_28 s_dy_28 s_size_28 r_centreX_28 r_centreY_28 r_diagonal_28 r_side_28 r_first_28 r_turn_28 r_size_28 ar_28)))))))))))
def wp_P_run (x1 : Int32) (p_way : Bool) (p_done p_left p_nextLineStart p_line p_state p_ending p_x p_y : Int32) (p_time : Int64) (p_pulses p_last p_feedRate p_motion p_relative t_size : Int32) (tc : Nat → Int32) (w_rowSize w_at w_motion w_distances : Int32) (wr wz wn : Nat → Int32) (s_startX s_startY s_dx s_dy s_size r_centreX r_centreY r_diagonal r_side r_first r_turn r_size : Int32) (ar : Nat → Int32) (Q : Int32 → Bool → Int32 → Int32 → Int32 → Int32 → Int32 → Int32 → Int32 → Int32 → Int64 → Int32 → Int32 → Int32 → Int32 → Int32 → Int32 → Int32 → Int32 → Int32 → (Nat → Int32) → (Nat → Int32) → (Nat → Int32) → Int32 → Int32 → Int32 → Int32 → Int32 → Int32 → Int32 → Int32 → Int32 → Int32 → Int32 → Int32 → (Nat → Int32) → Prop) : Prop := (wp_P_makePulses x1 p_way p_done p_left p_x p_y p_time p_pulses p_last p_feedRate p_motion s_startX s_startY s_dx s_dy s_size r_centreX r_centreY r_diagonal r_side r_first r_turn ar (fun r2 p_done_2 p_left_2 p_x_2 p_y_2 p_time_2 p_pulses_2 p_last_2 => (∃ n8 : Nat, wq_P_run_8 Q t_size tc n8 x1 r2 (0 : Int32) p_way p_done_2 p_left_2 p_nextLineStart p_line p_state p_ending p_x_2 p_y_2 p_time_2 p_pulses_2 p_last_2 p_feedRate p_motion p_relative w_rowSize w_at w_motion w_distances wr wz wn s_startX s_startY s_dx s_dy s_size r_centreX r_centreY r_diagonal r_side r_first r_turn r_size ar)))
abbrev rm_P_run : Room := { frames := 7, cells := 0, slots := 0, locals := 162 }
set_option maxRecDepth 100000 in
set_option maxHeartbeats 4000000 in
theorem c_P_run (l : Launch) {D : va_G} {X : xT} {a : Nat → Nat} {K : Nat → ClassId} {tl : va_W} {x1 : Int32} {p_way : Bool} {p_done p_left p_nextLineStart p_line p_state p_ending p_x p_y : Int32} {p_time : Int64} {p_pulses p_last p_feedRate p_motion p_relative t_size : Int32} {tc : Nat → Int32} {w_rowSize w_at w_motion w_distances : Int32} {wr wz wn : Nat → Int32} {s_startX s_startY s_dx s_dy s_size r_centreX r_centreY r_diagonal r_side r_first r_turn r_size : Int32} {ar : Nat → Int32} {Q : Int32 → Bool → Int32 → Int32 → Int32 → Int32 → Int32 → Int32 → Int32 → Int32 → Int64 → Int32 → Int32 → Int32 → Int32 → Int32 → Int32 → Int32 → Int32 → Int32 → (Nat → Int32) → (Nat → Int32) → (Nat → Int32) → Int32 → Int32 → Int32 → Int32 → Int32 → Int32 → Int32 → Int32 → Int32 → Int32 → Int32 → Int32 → (Nat → Int32) → Prop} : MI l y_P_run b_P_run 4 rm_P_run D cls (tys K) X [.ref (a 0), .int x1] ((o_P a p_way p_done p_left p_nextLineStart p_line p_state p_ending p_x p_y p_time p_pulses p_last p_feedRate p_motion p_relative) :: (o_T a t_size) :: (o_tc a K tc) :: (o_W a w_rowSize w_at w_motion w_distances) :: (o_wr a K wr) :: (o_wz a K wz) :: (o_wn a K wn) :: (o_S a s_startX s_startY s_dx s_dy s_size) :: (o_A a r_centreX r_centreY r_diagonal r_side r_first r_turn r_size) :: (o_ar a K ar) :: tl) (fun u : Bool × Int32 × Int32 × Int32 × Int32 × Int32 × Int32 × Int32 × Int32 × Int64 × Int32 × Int32 × Int32 × Int32 × Int32 × Int32 × Int32 × Int32 × Int32 × (Nat → Int32) × (Nat → Int32) × (Nat → Int32) × Int32 × Int32 × Int32 × Int32 × Int32 × Int32 × Int32 × Int32 × Int32 × Int32 × Int32 × Int32 × (Nat → Int32) => (o_P a u.1 u.2.1 u.2.2.1 u.2.2.2.1 u.2.2.2.2.1 u.2.2.2.2.2.1 u.2.2.2.2.2.2.1 u.2.2.2.2.2.2.2.1 u.2.2.2.2.2.2.2.2.1 u.2.2.2.2.2.2.2.2.2.1 u.2.2.2.2.2.2.2.2.2.2.1 u.2.2.2.2.2.2.2.2.2.2.2.1 u.2.2.2.2.2.2.2.2.2.2.2.2.1 u.2.2.2.2.2.2.2.2.2.2.2.2.2.1 u.2.2.2.2.2.2.2.2.2.2.2.2.2.2.1) :: (o_T a t_size) :: (o_tc a K tc) :: (o_W a u.2.2.2.2.2.2.2.2.2.2.2.2.2.2.2.1 u.2.2.2.2.2.2.2.2.2.2.2.2.2.2.2.2.1 u.2.2.2.2.2.2.2.2.2.2.2.2.2.2.2.2.2.1 u.2.2.2.2.2.2.2.2.2.2.2.2.2.2.2.2.2.2.1) :: (o_wr a K u.2.2.2.2.2.2.2.2.2.2.2.2.2.2.2.2.2.2.2.1) :: (o_wz a K u.2.2.2.2.2.2.2.2.2.2.2.2.2.2.2.2.2.2.2.2.1) :: (o_wn a K u.2.2.2.2.2.2.2.2.2.2.2.2.2.2.2.2.2.2.2.2.2.1) :: (o_S a u.2.2.2.2.2.2.2.2.2.2.2.2.2.2.2.2.2.2.2.2.2.2.1 u.2.2.2.2.2.2.2.2.2.2.2.2.2.2.2.2.2.2.2.2.2.2.2.1 u.2.2.2.2.2.2.2.2.2.2.2.2.2.2.2.2.2.2.2.2.2.2.2.2.1 u.2.2.2.2.2.2.2.2.2.2.2.2.2.2.2.2.2.2.2.2.2.2.2.2.2.1 u.2.2.2.2.2.2.2.2.2.2.2.2.2.2.2.2.2.2.2.2.2.2.2.2.2.2.1) :: (o_A a u.2.2.2.2.2.2.2.2.2.2.2.2.2.2.2.2.2.2.2.2.2.2.2.2.2.2.2.1 u.2.2.2.2.2.2.2.2.2.2.2.2.2.2.2.2.2.2.2.2.2.2.2.2.2.2.2.2.1 u.2.2.2.2.2.2.2.2.2.2.2.2.2.2.2.2.2.2.2.2.2.2.2.2.2.2.2.2.2.1 u.2.2.2.2.2.2.2.2.2.2.2.2.2.2.2.2.2.2.2.2.2.2.2.2.2.2.2.2.2.2.1 u.2.2.2.2.2.2.2.2.2.2.2.2.2.2.2.2.2.2.2.2.2.2.2.2.2.2.2.2.2.2.2.1 u.2.2.2.2.2.2.2.2.2.2.2.2.2.2.2.2.2.2.2.2.2.2.2.2.2.2.2.2.2.2.2.2.1 u.2.2.2.2.2.2.2.2.2.2.2.2.2.2.2.2.2.2.2.2.2.2.2.2.2.2.2.2.2.2.2.2.2.1) :: (o_ar a K u.2.2.2.2.2.2.2.2.2.2.2.2.2.2.2.2.2.2.2.2.2.2.2.2.2.2.2.2.2.2.2.2.2.2) :: tl) (wp_P_run x1 p_way p_done p_left p_nextLineStart p_line p_state p_ending p_x p_y p_time p_pulses p_last p_feedRate p_motion p_relative t_size tc w_rowSize w_at w_motion w_distances wr wz wn s_startX s_startY s_dx s_dy s_size r_centreX r_centreY r_diagonal r_side r_first r_turn r_size ar Q) (fun r u => Q r u.1 u.2.1 u.2.2.1 u.2.2.2.1 u.2.2.2.2.1 u.2.2.2.2.2.1 u.2.2.2.2.2.2.1 u.2.2.2.2.2.2.2.1 u.2.2.2.2.2.2.2.2.1 u.2.2.2.2.2.2.2.2.2.1 u.2.2.2.2.2.2.2.2.2.2.1 u.2.2.2.2.2.2.2.2.2.2.2.1 u.2.2.2.2.2.2.2.2.2.2.2.2.1 u.2.2.2.2.2.2.2.2.2.2.2.2.2.1 u.2.2.2.2.2.2.2.2.2.2.2.2.2.2.1 u.2.2.2.2.2.2.2.2.2.2.2.2.2.2.2.1 u.2.2.2.2.2.2.2.2.2.2.2.2.2.2.2.2.1 u.2.2.2.2.2.2.2.2.2.2.2.2.2.2.2.2.2.1 u.2.2.2.2.2.2.2.2.2.2.2.2.2.2.2.2.2.2.1 u.2.2.2.2.2.2.2.2.2.2.2.2.2.2.2.2.2.2.2.1 u.2.2.2.2.2.2.2.2.2.2.2.2.2.2.2.2.2.2.2.2.1 u.2.2.2.2.2.2.2.2.2.2.2.2.2.2.2.2.2.2.2.2.2.1 u.2.2.2.2.2.2.2.2.2.2.2.2.2.2.2.2.2.2.2.2.2.2.1 u.2.2.2.2.2.2.2.2.2.2.2.2.2.2.2.2.2.2.2.2.2.2.2.1 u.2.2.2.2.2.2.2.2.2.2.2.2.2.2.2.2.2.2.2.2.2.2.2.2.1 u.2.2.2.2.2.2.2.2.2.2.2.2.2.2.2.2.2.2.2.2.2.2.2.2.2.1 u.2.2.2.2.2.2.2.2.2.2.2.2.2.2.2.2.2.2.2.2.2.2.2.2.2.2.1 u.2.2.2.2.2.2.2.2.2.2.2.2.2.2.2.2.2.2.2.2.2.2.2.2.2.2.2.1 u.2.2.2.2.2.2.2.2.2.2.2.2.2.2.2.2.2.2.2.2.2.2.2.2.2.2.2.2.1 u.2.2.2.2.2.2.2.2.2.2.2.2.2.2.2.2.2.2.2.2.2.2.2.2.2.2.2.2.2.1 u.2.2.2.2.2.2.2.2.2.2.2.2.2.2.2.2.2.2.2.2.2.2.2.2.2.2.2.2.2.2.1 u.2.2.2.2.2.2.2.2.2.2.2.2.2.2.2.2.2.2.2.2.2.2.2.2.2.2.2.2.2.2.2.1 u.2.2.2.2.2.2.2.2.2.2.2.2.2.2.2.2.2.2.2.2.2.2.2.2.2.2.2.2.2.2.2.2.1 u.2.2.2.2.2.2.2.2.2.2.2.2.2.2.2.2.2.2.2.2.2.2.2.2.2.2.2.2.2.2.2.2.2.1 u.2.2.2.2.2.2.2.2.2.2.2.2.2.2.2.2.2.2.2.2.2.2.2.2.2.2.2.2.2.2.2.2.2.2) := by
  refine my_of_I (by decide +kernel) (Nat.le_of_ble_eq_true rfl) (fun p e s m args below meth c A QQ H locs ls hx hb hts hown hml hK hX hA hP hD hS hl hw hret => ?_)
  replace hl : lv_has ls 4 [(0, .ref (a 0)), (1, .int x1)] := hl
  have J8 : ∀ (n8 : Nat) (H : Heap) (locs : List Loc) (ls : Array Slot) (x1 x2 x3 : Int32) (p_way : Bool) (p_done p_left p_nextLineStart p_line p_state p_ending p_x p_y : Int32) (p_time : Int64) (p_pulses p_last p_feedRate p_motion p_relative w_rowSize w_at w_motion w_distances : Int32) (wr wz wn : Nat → Int32) (s_startX s_startY s_dx s_dy s_size r_centreX r_centreY r_diagonal r_side r_first r_turn r_size : Int32) (ar : Nat → Int32), va_P D cls ((o_P a p_way p_done p_left p_nextLineStart p_line p_state p_ending p_x p_y p_time p_pulses p_last p_feedRate p_motion p_relative) :: (o_T a t_size) :: (o_tc a K tc) :: (o_W a w_rowSize w_at w_motion w_distances) :: (o_wr a K wr) :: (o_wz a K wz) :: (o_wn a K wn) :: (o_S a s_startX s_startY s_dx s_dy s_size) :: (o_A a r_centreX r_centreY r_diagonal r_side r_first r_turn r_size) :: (o_ar a K ar) :: tl) H → va_D A ((o_P a p_way p_done p_left p_nextLineStart p_line p_state p_ending p_x p_y p_time p_pulses p_last p_feedRate p_motion p_relative) :: (o_T a t_size) :: (o_tc a K tc) :: (o_W a w_rowSize w_at w_motion w_distances) :: (o_wr a K wr) :: (o_wz a K wz) :: (o_wn a K wn) :: (o_S a s_startX s_startY s_dx s_dy s_size) :: (o_A a r_centreX r_centreY r_diagonal r_side r_first r_turn r_size) :: (o_ar a K ar) :: tl) → va_S A s.heap H locs → lv_has ls 4 [(0, .ref (a 0)), (1, .int x1), (2, .int x2), (3, .int x3)] → wq_P_run_8 Q t_size tc n8 x1 x2 x3 p_way p_done p_left p_nextLineStart p_line p_state p_ending p_x p_y p_time p_pulses p_last p_feedRate p_motion p_relative w_rowSize w_at w_motion w_distances wr wz wn s_startX s_startY s_dx s_dy s_size r_centreX r_centreY r_diagonal r_side r_first r_turn r_size ar → W p l e rm_P_run s m args below meth c H locs 0 0 QQ (F0 m 8 ls []) := by
    intro n8
    induction n8 with
    | zero => intro H locs ls x1 x2 x3 p_way p_done p_left p_nextLineStart p_line p_state p_ending p_x p_y p_time p_pulses p_last p_feedRate p_motion p_relative w_rowSize w_at w_motion w_distances wr wz wn s_startX s_startY s_dx s_dy s_size r_centreX r_centreY r_diagonal r_side r_first r_turn r_size ar hP hD hS hl hw; exact False.elim hw
    | succ n8 ih =>
      intro H locs ls x1 x2 x3 p_way p_done p_left p_nextLineStart p_line p_state p_ending p_x p_y p_time p_pulses p_last p_feedRate p_motion p_relative w_rowSize w_at w_motion w_distances wr wz wn s_startX s_startY s_dx s_dy s_size r_centreX r_centreY r_diagonal r_side r_first r_turn r_size ar hP hD hS hl hw
      unfold wq_P_run_8 at hw
      refine lv_iload_n hx hb d_P_run_8 rfl (lv_at hl 3 rfl) ?_
      refine lv_sipush (v := (400 : Int32)) hx hb d_P_run_9 (by decide) ?_
      refine lv_icmp_gt (tgt := 47) hx hb d_P_run_12 (by decide) (fun hc => ?_) (fun hc => ?_)
      · replace hw := hw.1 hc
        refine lv_iload_n hx hb d_P_run_47 rfl (lv_at hl 2 rfl) ?_
        exact hret H locs ls 48 (x2) ((p_way, p_done, p_left, p_nextLineStart, p_line, p_state, p_ending, p_x, p_y, p_time, p_pulses, p_last, p_feedRate, p_motion, p_relative, w_rowSize, w_at, w_motion, w_distances, wr, wz, wn, s_startX, s_startY, s_dx, s_dy, s_size, r_centreX, r_centreY, r_diagonal, r_side, r_first, r_turn, r_size, ar)) d_P_run_48 hP hD hS hw
      · replace hw := hw.2 hc
        refine lv_iload_n hx hb d_P_run_15 rfl (lv_at hl 2 rfl) ?_
        refine lv_iload_n hx hb d_P_run_16 rfl (lv_at hl 1 rfl) ?_
        refine lv_icmp_ge (tgt := 47) hx hb d_P_run_17 (by decide) (fun hc => ?_) (fun hc => ?_)
        · replace hw := hw.1 hc
          refine lv_iload_n hx hb d_P_run_47 rfl (lv_at hl 2 rfl) ?_
          exact hret H locs ls 48 (x2) ((p_way, p_done, p_left, p_nextLineStart, p_line, p_state, p_ending, p_x, p_y, p_time, p_pulses, p_last, p_feedRate, p_motion, p_relative, w_rowSize, w_at, w_motion, w_distances, wr, wz, wn, s_startX, s_startY, s_dx, s_dy, s_size, r_centreX, r_centreY, r_diagonal, r_side, r_first, r_turn, r_size, ar)) d_P_run_48 hP hD hS hw
        · replace hw := hw.2 hc
          refine lv_aload_n hx hb d_P_run_20 rfl (lv_at hl 0 rfl) ?_
          refine g_P_state hx hb hts hown hK hP 0 rfl rfl d_P_run_21 ?_
          refine lv_if_ne (tgt := 47) hx hb d_P_run_24 (by decide) (fun hc => ?_) (fun hc => ?_)
          · replace hw := hw.1 hc
            refine lv_iload_n hx hb d_P_run_47 rfl (lv_at hl 2 rfl) ?_
            exact hret H locs ls 48 (x2) ((p_way, p_done, p_left, p_nextLineStart, p_line, p_state, p_ending, p_x, p_y, p_time, p_pulses, p_last, p_feedRate, p_motion, p_relative, w_rowSize, w_at, w_motion, w_distances, wr, wz, wn, s_startX, s_startY, s_dx, s_dy, s_size, r_centreX, r_centreY, r_diagonal, r_side, r_first, r_turn, r_size, ar)) d_P_run_48 hP hD hS hw
          · replace hw := hw.2 hc
            refine lv_aload_n hx hb d_P_run_27 rfl (lv_at hl 0 rfl) ?_
            refine my_callv (va_runV (As := []) (rest := []) ⟨hx, hb, hml, hown, hts⟩ (c_P_lookAtNextLine l H.size) (cw_P_99 hts ⟨Nat.le_of_ble_eq_true rfl, Nat.le_of_ble_eq_true rfl⟩) (my_preV hK hP hX hD hS hA 0 rfl rfl hw) rfl rfl hl.1 rfl (lv_room (Nat.le_of_ble_eq_true rfl)) d_P_run_28 ⟨Nat.le_refl _, Nat.le_refl _⟩) hD hS hA (fun u H locs hw hP hD hS => ?_)
            obtain ⟨p_way_28, p_done_28, p_left_28, p_nextLineStart_28, p_line_28, p_state_28, p_ending_28, p_feedRate_28, p_motion_28, p_relative_28, w_rowSize_28, w_at_28, w_motion_28, w_distances_28, wr_28, wz_28, wn_28, s_startX_28, s_startY_28, s_dx_28, s_dy_28, s_size_28, r_centreX_28, r_centreY_28, r_diagonal_28, r_side_28, r_first_28, r_turn_28, r_size_28, ar_28⟩ := u
            dsimp only at hw
            have hP : va_P D cls ((o_P a p_way_28 p_done_28 p_left_28 p_nextLineStart_28 p_line_28 p_state_28 p_ending_28 p_x p_y p_time p_pulses p_last p_feedRate_28 p_motion_28 p_relative_28) :: (o_T a t_size) :: (o_tc a K tc) :: (o_W a w_rowSize_28 w_at_28 w_motion_28 w_distances_28) :: (o_wr a K wr_28) :: (o_wz a K wz_28) :: (o_wn a K wn_28) :: (o_S a s_startX_28 s_startY_28 s_dx_28 s_dy_28 s_size_28) :: (o_A a r_centreX_28 r_centreY_28 r_diagonal_28 r_side_28 r_first_28 r_turn_28 r_size_28) :: (o_ar a K ar_28) :: tl) H := hP
            have hD : va_D A ((o_P a p_way_28 p_done_28 p_left_28 p_nextLineStart_28 p_line_28 p_state_28 p_ending_28 p_x p_y p_time p_pulses p_last p_feedRate_28 p_motion_28 p_relative_28) :: (o_T a t_size) :: (o_tc a K tc) :: (o_W a w_rowSize_28 w_at_28 w_motion_28 w_distances_28) :: (o_wr a K wr_28) :: (o_wz a K wz_28) :: (o_wn a K wn_28) :: (o_S a s_startX_28 s_startY_28 s_dx_28 s_dy_28 s_size_28) :: (o_A a r_centreX_28 r_centreY_28 r_diagonal_28 r_side_28 r_first_28 r_turn_28 r_size_28) :: (o_ar a K ar_28) :: tl) := hD
            refine lv_iload_n hx hb d_P_run_31 rfl (lv_at hl 2 rfl) ?_
            refine lv_aload_n hx hb d_P_run_32 rfl (lv_at hl 0 rfl) ?_
            refine lv_iload_n hx hb d_P_run_33 rfl (lv_at hl 1 rfl) ?_
            refine lv_iload_n hx hb d_P_run_34 rfl (lv_at hl 2 rfl) ?_
            refine lv_isub hx hb d_P_run_35 ?_
            refine my_calli (va_runV (As := [.int (x1 - x2)]) (rest := [.int x2]) ⟨hx, hb, hml, hown, hts⟩ (c_P_makePulses l H.size) (cw_P_96 hts ⟨Nat.le_of_ble_eq_true rfl, Nat.le_of_ble_eq_true rfl⟩) (my_preV hK hP hX hD hS hA 0 rfl rfl hw) rfl rfl hl.1 rfl (lv_room (Nat.le_of_ble_eq_true rfl)) d_P_run_36 ⟨Nat.le_refl _, Nat.le_refl _⟩) hD hS hA (fun r36 u H locs hw hP hD hS => ?_)
            obtain ⟨p_done_36, p_left_36, p_x_36, p_y_36, p_time_36, p_pulses_36, p_last_36⟩ := u
            dsimp only at hw
            have hP : va_P D cls ((o_P a p_way_28 p_done_36 p_left_36 p_nextLineStart_28 p_line_28 p_state_28 p_ending_28 p_x_36 p_y_36 p_time_36 p_pulses_36 p_last_36 p_feedRate_28 p_motion_28 p_relative_28) :: (o_T a t_size) :: (o_tc a K tc) :: (o_W a w_rowSize_28 w_at_28 w_motion_28 w_distances_28) :: (o_wr a K wr_28) :: (o_wz a K wz_28) :: (o_wn a K wn_28) :: (o_S a s_startX_28 s_startY_28 s_dx_28 s_dy_28 s_size_28) :: (o_A a r_centreX_28 r_centreY_28 r_diagonal_28 r_side_28 r_first_28 r_turn_28 r_size_28) :: (o_ar a K ar_28) :: tl) H := hP
            have hD : va_D A ((o_P a p_way_28 p_done_36 p_left_36 p_nextLineStart_28 p_line_28 p_state_28 p_ending_28 p_x_36 p_y_36 p_time_36 p_pulses_36 p_last_36 p_feedRate_28 p_motion_28 p_relative_28) :: (o_T a t_size) :: (o_tc a K tc) :: (o_W a w_rowSize_28 w_at_28 w_motion_28 w_distances_28) :: (o_wr a K wr_28) :: (o_wz a K wz_28) :: (o_wn a K wn_28) :: (o_S a s_startX_28 s_startY_28 s_dx_28 s_dy_28 s_size_28) :: (o_A a r_centreX_28 r_centreY_28 r_diagonal_28 r_side_28 r_first_28 r_turn_28 r_size_28) :: (o_ar a K ar_28) :: tl) := hD
            refine lv_iadd hx hb d_P_run_39 ?_
            refine lv_istore_n (lv' := [(2, .int (x2 + r36)), (0, .ref (a 0)), (1, .int x1), (3, .int x3)]) hx hb d_P_run_40 rfl hl (Nat.le_of_ble_eq_true rfl) rfl (fun ls hl => ?_)
            refine lv_iinc (k := 3) (v := x3 + (1 : Int32)) (lv' := [(3, .int (x3 + (1 : Int32))), (2, .int (x2 + r36)), (0, .ref (a 0)), (1, .int x1)]) hx hb d_P_run_41 hl rfl (iinc_1 _) (Nat.le_of_ble_eq_true rfl) rfl (fun ls hl => ?_)
            refine lv_goto (tgt := 8) hx hb d_P_run_44 (by decide) ?_
            exact ih H locs ls x1 (x2 + r36) (x3 + (1 : Int32)) p_way_28 p_done_36 p_left_36 p_nextLineStart_28 p_line_28 p_state_28 p_ending_28 p_x_36 p_y_36 p_time_36 p_pulses_36 p_last_36 p_feedRate_28 p_motion_28 p_relative_28 w_rowSize_28 w_at_28 w_motion_28 w_distances_28 wr_28 wz_28 wn_28 s_startX_28 s_startY_28 s_dx_28 s_dy_28 s_size_28 r_centreX_28 r_centreY_28 r_diagonal_28 r_side_28 r_first_28 r_turn_28 r_size_28 ar_28 hP hD hS (lv_sub hl [2, 3, 1, 0] rfl) hw
  unfold wp_P_run at hw
  refine lv_aload_n hx hb d_P_run_0 rfl (lv_at hl 0 rfl) ?_
  refine lv_iload_n hx hb d_P_run_1 rfl (lv_at hl 1 rfl) ?_
  refine my_calli (va_runV (As := [.int x1]) (rest := []) ⟨hx, hb, hml, hown, hts⟩ (c_P_makePulses l H.size) (cw_P_96 hts ⟨Nat.le_of_ble_eq_true rfl, Nat.le_of_ble_eq_true rfl⟩) (my_preV hK hP hX hD hS hA 0 rfl rfl hw) rfl rfl hl.1 rfl (lv_room (Nat.le_of_ble_eq_true rfl)) d_P_run_2 ⟨Nat.le_refl _, Nat.le_refl _⟩) hD hS hA (fun r2 u H locs hw hP hD hS => ?_)
  obtain ⟨p_done_2, p_left_2, p_x_2, p_y_2, p_time_2, p_pulses_2, p_last_2⟩ := u
  dsimp only at hw
  have hP : va_P D cls ((o_P a p_way p_done_2 p_left_2 p_nextLineStart p_line p_state p_ending p_x_2 p_y_2 p_time_2 p_pulses_2 p_last_2 p_feedRate p_motion p_relative) :: (o_T a t_size) :: (o_tc a K tc) :: (o_W a w_rowSize w_at w_motion w_distances) :: (o_wr a K wr) :: (o_wz a K wz) :: (o_wn a K wn) :: (o_S a s_startX s_startY s_dx s_dy s_size) :: (o_A a r_centreX r_centreY r_diagonal r_side r_first r_turn r_size) :: (o_ar a K ar) :: tl) H := hP
  have hD : va_D A ((o_P a p_way p_done_2 p_left_2 p_nextLineStart p_line p_state p_ending p_x_2 p_y_2 p_time_2 p_pulses_2 p_last_2 p_feedRate p_motion p_relative) :: (o_T a t_size) :: (o_tc a K tc) :: (o_W a w_rowSize w_at w_motion w_distances) :: (o_wr a K wr) :: (o_wz a K wz) :: (o_wn a K wn) :: (o_S a s_startX s_startY s_dx s_dy s_size) :: (o_A a r_centreX r_centreY r_diagonal r_side r_first r_turn r_size) :: (o_ar a K ar) :: tl) := hD
  refine lv_istore_n (lv' := [(2, .int r2), (0, .ref (a 0)), (1, .int x1)]) hx hb d_P_run_5 rfl hl (Nat.le_of_ble_eq_true rfl) rfl (fun ls hl => ?_)
  refine lv_iconst (v := (0 : Int32)) hx hb d_P_run_6 (by decide) ?_
  refine lv_istore_n (lv' := [(3, .int (0 : Int32)), (2, .int r2), (0, .ref (a 0)), (1, .int x1)]) hx hb d_P_run_7 rfl hl (Nat.le_of_ble_eq_true rfl) rfl (fun ls hl => ?_)
  obtain ⟨n8, hw⟩ := hw
  exact J8 n8 H locs ls x1 r2 (0 : Int32) p_way p_done_2 p_left_2 p_nextLineStart p_line p_state p_ending p_x_2 p_y_2 p_time_2 p_pulses_2 p_last_2 p_feedRate p_motion p_relative w_rowSize w_at w_motion w_distances wr wz wn s_startX s_startY s_dx s_dy s_size r_centreX r_centreY r_diagonal r_side r_first r_turn r_size ar hP hD hS (lv_sub hl [2, 3, 1, 0] rfl) hw
def wp_P_state (p_state : Int32) (Q : Int32 → Prop) : Prop := (Q p_state)
abbrev rm_P_state : Room := { frames := 0, cells := 0, slots := 0, locals := 0 }
set_option maxRecDepth 100000 in
set_option maxHeartbeats 4000000 in
theorem c_P_state (l : Launch) {D : va_G} {X : xT} {a : Nat → Nat} {K : Nat → ClassId} {tl : va_W} {p_way : Bool} {p_done p_left p_nextLineStart p_line p_state p_ending p_x p_y : Int32} {p_time : Int64} {p_pulses p_last p_feedRate p_motion p_relative : Int32} {Q : Int32 → Prop} : MI l y_P_state b_P_state 1 rm_P_state D cls (tys K) X [.ref (a 0)] ((o_P a p_way p_done p_left p_nextLineStart p_line p_state p_ending p_x p_y p_time p_pulses p_last p_feedRate p_motion p_relative) :: tl) (fun _ : Unit => (o_P a p_way p_done p_left p_nextLineStart p_line p_state p_ending p_x p_y p_time p_pulses p_last p_feedRate p_motion p_relative) :: tl) (wp_P_state p_state Q) (fun r _ => Q r) := by
  refine my_of_I (by decide +kernel) (Nat.le_of_ble_eq_true rfl) (fun p e s m args below meth c A QQ H locs ls hx hb hts hown hml hK hX hA hP hD hS hl hw hret => ?_)
  replace hl : lv_has ls 1 [(0, .ref (a 0))] := hl
  unfold wp_P_state at hw
  refine lv_aload_n hx hb d_P_state_0 rfl (lv_at hl 0 rfl) ?_
  refine g_P_state hx hb hts hown hK hP 0 rfl rfl d_P_state_1 ?_
  exact hret H locs ls 4 (p_state) (()) d_P_state_4 hP hD hS hw
def wp_P_x (p_x : Int32) (Q : Int32 → Prop) : Prop := (Q p_x)
abbrev rm_P_x : Room := { frames := 0, cells := 0, slots := 0, locals := 0 }
set_option maxRecDepth 100000 in
set_option maxHeartbeats 4000000 in
theorem c_P_x (l : Launch) {D : va_G} {X : xT} {a : Nat → Nat} {K : Nat → ClassId} {tl : va_W} {p_way : Bool} {p_done p_left p_nextLineStart p_line p_state p_ending p_x p_y : Int32} {p_time : Int64} {p_pulses p_last p_feedRate p_motion p_relative : Int32} {Q : Int32 → Prop} : MI l y_P_x b_P_x 1 rm_P_x D cls (tys K) X [.ref (a 0)] ((o_P a p_way p_done p_left p_nextLineStart p_line p_state p_ending p_x p_y p_time p_pulses p_last p_feedRate p_motion p_relative) :: tl) (fun _ : Unit => (o_P a p_way p_done p_left p_nextLineStart p_line p_state p_ending p_x p_y p_time p_pulses p_last p_feedRate p_motion p_relative) :: tl) (wp_P_x p_x Q) (fun r _ => Q r) := by
  refine my_of_I (by decide +kernel) (Nat.le_of_ble_eq_true rfl) (fun p e s m args below meth c A QQ H locs ls hx hb hts hown hml hK hX hA hP hD hS hl hw hret => ?_)
  replace hl : lv_has ls 1 [(0, .ref (a 0))] := hl
  unfold wp_P_x at hw
  refine lv_aload_n hx hb d_P_x_0 rfl (lv_at hl 0 rfl) ?_
  refine g_P_x hx hb hts hown hK hP 0 rfl rfl d_P_x_1 ?_
  exact hret H locs ls 4 (p_x) (()) d_P_x_4 hP hD hS hw
def wp_P_y (p_y : Int32) (Q : Int32 → Prop) : Prop := (Q p_y)
abbrev rm_P_y : Room := { frames := 0, cells := 0, slots := 0, locals := 0 }
set_option maxRecDepth 100000 in
set_option maxHeartbeats 4000000 in
theorem c_P_y (l : Launch) {D : va_G} {X : xT} {a : Nat → Nat} {K : Nat → ClassId} {tl : va_W} {p_way : Bool} {p_done p_left p_nextLineStart p_line p_state p_ending p_x p_y : Int32} {p_time : Int64} {p_pulses p_last p_feedRate p_motion p_relative : Int32} {Q : Int32 → Prop} : MI l y_P_y b_P_y 1 rm_P_y D cls (tys K) X [.ref (a 0)] ((o_P a p_way p_done p_left p_nextLineStart p_line p_state p_ending p_x p_y p_time p_pulses p_last p_feedRate p_motion p_relative) :: tl) (fun _ : Unit => (o_P a p_way p_done p_left p_nextLineStart p_line p_state p_ending p_x p_y p_time p_pulses p_last p_feedRate p_motion p_relative) :: tl) (wp_P_y p_y Q) (fun r _ => Q r) := by
  refine my_of_I (by decide +kernel) (Nat.le_of_ble_eq_true rfl) (fun p e s m args below meth c A QQ H locs ls hx hb hts hown hml hK hX hA hP hD hS hl hw hret => ?_)
  replace hl : lv_has ls 1 [(0, .ref (a 0))] := hl
  unfold wp_P_y at hw
  refine lv_aload_n hx hb d_P_y_0 rfl (lv_at hl 0 rfl) ?_
  refine g_P_y hx hb hts hown hK hP 0 rfl rfl d_P_y_1 ?_
  exact hret H locs ls 4 (p_y) (()) d_P_y_4 hP hD hS hw
def wp_P_time (p_time : Int64) (Q : Int64 → Prop) : Prop := (Q p_time)
abbrev rm_P_time : Room := { frames := 0, cells := 0, slots := 0, locals := 0 }
set_option maxRecDepth 100000 in
set_option maxHeartbeats 4000000 in
theorem c_P_time (l : Launch) {D : va_G} {X : xT} {a : Nat → Nat} {K : Nat → ClassId} {tl : va_W} {p_way : Bool} {p_done p_left p_nextLineStart p_line p_state p_ending p_x p_y : Int32} {p_time : Int64} {p_pulses p_last p_feedRate p_motion p_relative : Int32} {Q : Int64 → Prop} : ML l y_P_time b_P_time 1 rm_P_time D cls (tys K) X [.ref (a 0)] ((o_P a p_way p_done p_left p_nextLineStart p_line p_state p_ending p_x p_y p_time p_pulses p_last p_feedRate p_motion p_relative) :: tl) (fun _ : Unit => (o_P a p_way p_done p_left p_nextLineStart p_line p_state p_ending p_x p_y p_time p_pulses p_last p_feedRate p_motion p_relative) :: tl) (wp_P_time p_time Q) (fun r _ => Q r) := by
  refine my_of_L (by decide +kernel) (Nat.le_of_ble_eq_true rfl) (fun p e s m args below meth c A QQ H locs ls hx hb hts hown hml hK hX hA hP hD hS hl hw hret => ?_)
  replace hl : lv_has ls 1 [(0, .ref (a 0))] := hl
  unfold wp_P_time at hw
  refine lv_aload_n hx hb d_P_time_0 rfl (lv_at hl 0 rfl) ?_
  refine g_P_time hx hb hts hown hK hP 0 rfl rfl d_P_time_1 ?_
  exact hret H locs ls 4 (p_time) (()) d_P_time_4 hP hD hS hw
def wp_P_pulses (p_pulses : Int32) (Q : Int32 → Prop) : Prop := (Q p_pulses)
abbrev rm_P_pulses : Room := { frames := 0, cells := 0, slots := 0, locals := 0 }
set_option maxRecDepth 100000 in
set_option maxHeartbeats 4000000 in
theorem c_P_pulses (l : Launch) {D : va_G} {X : xT} {a : Nat → Nat} {K : Nat → ClassId} {tl : va_W} {p_way : Bool} {p_done p_left p_nextLineStart p_line p_state p_ending p_x p_y : Int32} {p_time : Int64} {p_pulses p_last p_feedRate p_motion p_relative : Int32} {Q : Int32 → Prop} : MI l y_P_pulses b_P_pulses 1 rm_P_pulses D cls (tys K) X [.ref (a 0)] ((o_P a p_way p_done p_left p_nextLineStart p_line p_state p_ending p_x p_y p_time p_pulses p_last p_feedRate p_motion p_relative) :: tl) (fun _ : Unit => (o_P a p_way p_done p_left p_nextLineStart p_line p_state p_ending p_x p_y p_time p_pulses p_last p_feedRate p_motion p_relative) :: tl) (wp_P_pulses p_pulses Q) (fun r _ => Q r) := by
  refine my_of_I (by decide +kernel) (Nat.le_of_ble_eq_true rfl) (fun p e s m args below meth c A QQ H locs ls hx hb hts hown hml hK hX hA hP hD hS hl hw hret => ?_)
  replace hl : lv_has ls 1 [(0, .ref (a 0))] := hl
  unfold wp_P_pulses at hw
  refine lv_aload_n hx hb d_P_pulses_0 rfl (lv_at hl 0 rfl) ?_
  refine g_P_pulses hx hb hts hown hK hP 0 rfl rfl d_P_pulses_1 ?_
  exact hret H locs ls 4 (p_pulses) (()) d_P_pulses_4 hP hD hS hw
def wp_P_last (p_last : Int32) (Q : Int32 → Prop) : Prop := (Q p_last)
abbrev rm_P_last : Room := { frames := 0, cells := 0, slots := 0, locals := 0 }
set_option maxRecDepth 100000 in
set_option maxHeartbeats 4000000 in
theorem c_P_last (l : Launch) {D : va_G} {X : xT} {a : Nat → Nat} {K : Nat → ClassId} {tl : va_W} {p_way : Bool} {p_done p_left p_nextLineStart p_line p_state p_ending p_x p_y : Int32} {p_time : Int64} {p_pulses p_last p_feedRate p_motion p_relative : Int32} {Q : Int32 → Prop} : MI l y_P_last b_P_last 1 rm_P_last D cls (tys K) X [.ref (a 0)] ((o_P a p_way p_done p_left p_nextLineStart p_line p_state p_ending p_x p_y p_time p_pulses p_last p_feedRate p_motion p_relative) :: tl) (fun _ : Unit => (o_P a p_way p_done p_left p_nextLineStart p_line p_state p_ending p_x p_y p_time p_pulses p_last p_feedRate p_motion p_relative) :: tl) (wp_P_last p_last Q) (fun r _ => Q r) := by
  refine my_of_I (by decide +kernel) (Nat.le_of_ble_eq_true rfl) (fun p e s m args below meth c A QQ H locs ls hx hb hts hown hml hK hX hA hP hD hS hl hw hret => ?_)
  replace hl : lv_has ls 1 [(0, .ref (a 0))] := hl
  unfold wp_P_last at hw
  refine lv_aload_n hx hb d_P_last_0 rfl (lv_at hl 0 rfl) ?_
  refine g_P_last hx hb hts hown hK hP 0 rfl rfl d_P_last_1 ?_
  exact hret H locs ls 4 (p_last) (()) d_P_last_4 hP hD hS hw
def wp_P_line (p_line : Int32) (Q : Int32 → Prop) : Prop := (Q p_line)
abbrev rm_P_line : Room := { frames := 0, cells := 0, slots := 0, locals := 0 }
set_option maxRecDepth 100000 in
set_option maxHeartbeats 4000000 in
theorem c_P_line (l : Launch) {D : va_G} {X : xT} {a : Nat → Nat} {K : Nat → ClassId} {tl : va_W} {p_way : Bool} {p_done p_left p_nextLineStart p_line p_state p_ending p_x p_y : Int32} {p_time : Int64} {p_pulses p_last p_feedRate p_motion p_relative : Int32} {Q : Int32 → Prop} : MI l y_P_line b_P_line 1 rm_P_line D cls (tys K) X [.ref (a 0)] ((o_P a p_way p_done p_left p_nextLineStart p_line p_state p_ending p_x p_y p_time p_pulses p_last p_feedRate p_motion p_relative) :: tl) (fun _ : Unit => (o_P a p_way p_done p_left p_nextLineStart p_line p_state p_ending p_x p_y p_time p_pulses p_last p_feedRate p_motion p_relative) :: tl) (wp_P_line p_line Q) (fun r _ => Q r) := by
  refine my_of_I (by decide +kernel) (Nat.le_of_ble_eq_true rfl) (fun p e s m args below meth c A QQ H locs ls hx hb hts hown hml hK hX hA hP hD hS hl hw hret => ?_)
  replace hl : lv_has ls 1 [(0, .ref (a 0))] := hl
  unfold wp_P_line at hw
  refine lv_aload_n hx hb d_P_line_0 rfl (lv_at hl 0 rfl) ?_
  refine g_P_line hx hb hts hown hK hP 0 rfl rfl d_P_line_1 ?_
  exact hret H locs ls 4 (p_line) (()) d_P_line_4 hP hD hS hw
def wp_P_feedRate (p_feedRate : Int32) (Q : Int32 → Prop) : Prop := (Q p_feedRate)
abbrev rm_P_feedRate : Room := { frames := 0, cells := 0, slots := 0, locals := 0 }
set_option maxRecDepth 100000 in
set_option maxHeartbeats 4000000 in
theorem c_P_feedRate (l : Launch) {D : va_G} {X : xT} {a : Nat → Nat} {K : Nat → ClassId} {tl : va_W} {p_way : Bool} {p_done p_left p_nextLineStart p_line p_state p_ending p_x p_y : Int32} {p_time : Int64} {p_pulses p_last p_feedRate p_motion p_relative : Int32} {Q : Int32 → Prop} : MI l y_P_feedRate b_P_feedRate 1 rm_P_feedRate D cls (tys K) X [.ref (a 0)] ((o_P a p_way p_done p_left p_nextLineStart p_line p_state p_ending p_x p_y p_time p_pulses p_last p_feedRate p_motion p_relative) :: tl) (fun _ : Unit => (o_P a p_way p_done p_left p_nextLineStart p_line p_state p_ending p_x p_y p_time p_pulses p_last p_feedRate p_motion p_relative) :: tl) (wp_P_feedRate p_feedRate Q) (fun r _ => Q r) := by
  refine my_of_I (by decide +kernel) (Nat.le_of_ble_eq_true rfl) (fun p e s m args below meth c A QQ H locs ls hx hb hts hown hml hK hX hA hP hD hS hl hw hret => ?_)
  replace hl : lv_has ls 1 [(0, .ref (a 0))] := hl
  unfold wp_P_feedRate at hw
  refine lv_aload_n hx hb d_P_feedRate_0 rfl (lv_at hl 0 rfl) ?_
  refine g_P_feedRate hx hb hts hown hK hP 0 rfl rfl d_P_feedRate_1 ?_
  exact hret H locs ls 4 (p_feedRate) (()) d_P_feedRate_4 hP hD hS hw
def wp_P_mode (p_motion p_relative : Int32) (Q : Int32 → Prop) : Prop := ((p_relative = 0 → (Q p_motion)) ∧ (¬ p_relative = 0 → (Q (p_motion + (4 : Int32)))))
abbrev rm_P_mode : Room := { frames := 0, cells := 0, slots := 0, locals := 0 }
set_option maxRecDepth 100000 in
set_option maxHeartbeats 4000000 in
theorem c_P_mode (l : Launch) {D : va_G} {X : xT} {a : Nat → Nat} {K : Nat → ClassId} {tl : va_W} {p_way : Bool} {p_done p_left p_nextLineStart p_line p_state p_ending p_x p_y : Int32} {p_time : Int64} {p_pulses p_last p_feedRate p_motion p_relative : Int32} {Q : Int32 → Prop} : MI l y_P_mode b_P_mode 1 rm_P_mode D cls (tys K) X [.ref (a 0)] ((o_P a p_way p_done p_left p_nextLineStart p_line p_state p_ending p_x p_y p_time p_pulses p_last p_feedRate p_motion p_relative) :: tl) (fun _ : Unit => (o_P a p_way p_done p_left p_nextLineStart p_line p_state p_ending p_x p_y p_time p_pulses p_last p_feedRate p_motion p_relative) :: tl) (wp_P_mode p_motion p_relative Q) (fun r _ => Q r) := by
  refine my_of_I (by decide +kernel) (Nat.le_of_ble_eq_true rfl) (fun p e s m args below meth c A QQ H locs ls hx hb hts hown hml hK hX hA hP hD hS hl hw hret => ?_)
  replace hl : lv_has ls 1 [(0, .ref (a 0))] := hl
  unfold wp_P_mode at hw
  refine lv_aload_n hx hb d_P_mode_0 rfl (lv_at hl 0 rfl) ?_
  refine g_P_relative hx hb hts hown hK hP 0 rfl rfl d_P_mode_1 ?_
  refine lv_if_eq (tgt := 16) hx hb d_P_mode_4 (by decide) (fun hc => ?_) (fun hc => ?_)
  · replace hw := hw.1 hc
    refine lv_aload_n hx hb d_P_mode_16 rfl (lv_at hl 0 rfl) ?_
    refine g_P_motion hx hb hts hown hK hP 0 rfl rfl d_P_mode_17 ?_
    exact hret H locs ls 20 (p_motion) (()) d_P_mode_20 hP hD hS hw
  · replace hw := hw.2 hc
    refine lv_aload_n hx hb d_P_mode_7 rfl (lv_at hl 0 rfl) ?_
    refine g_P_motion hx hb hts hown hK hP 0 rfl rfl d_P_mode_8 ?_
    refine lv_iconst (v := (4 : Int32)) hx hb d_P_mode_11 (by decide) ?_
    refine lv_iadd hx hb d_P_mode_12 ?_
    refine lv_goto (tgt := 20) hx hb d_P_mode_13 (by decide) ?_
    exact hret H locs ls 20 (p_motion + (4 : Int32)) (()) d_P_mode_20 hP hD hS hw
def wp_P_left (p_left : Int32) (Q : Int32 → Prop) : Prop := (Q p_left)
abbrev rm_P_left : Room := { frames := 0, cells := 0, slots := 0, locals := 0 }
set_option maxRecDepth 100000 in
set_option maxHeartbeats 4000000 in
theorem c_P_left (l : Launch) {D : va_G} {X : xT} {a : Nat → Nat} {K : Nat → ClassId} {tl : va_W} {p_way : Bool} {p_done p_left p_nextLineStart p_line p_state p_ending p_x p_y : Int32} {p_time : Int64} {p_pulses p_last p_feedRate p_motion p_relative : Int32} {Q : Int32 → Prop} : MI l y_P_left b_P_left 1 rm_P_left D cls (tys K) X [.ref (a 0)] ((o_P a p_way p_done p_left p_nextLineStart p_line p_state p_ending p_x p_y p_time p_pulses p_last p_feedRate p_motion p_relative) :: tl) (fun _ : Unit => (o_P a p_way p_done p_left p_nextLineStart p_line p_state p_ending p_x p_y p_time p_pulses p_last p_feedRate p_motion p_relative) :: tl) (wp_P_left p_left Q) (fun r _ => Q r) := by
  refine my_of_I (by decide +kernel) (Nat.le_of_ble_eq_true rfl) (fun p e s m args below meth c A QQ H locs ls hx hb hts hown hml hK hX hA hP hD hS hl hw hret => ?_)
  replace hl : lv_has ls 1 [(0, .ref (a 0))] := hl
  unfold wp_P_left at hw
  refine lv_aload_n hx hb d_P_left_0 rfl (lv_at hl 0 rfl) ?_
  refine g_P_left hx hb hts hown hK hP 0 rfl rfl d_P_left_1 ?_
  exact hret H locs ls 4 (p_left) (()) d_P_left_4 hP hD hS hw
