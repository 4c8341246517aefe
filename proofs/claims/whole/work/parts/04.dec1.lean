theorem d_Display_init_0 : decode b_Display_init 0 = .ok (.aload_n 0, 1) := by decide +kernel
theorem d_Display_init_1 : decode b_Display_init 1 = .ok (.invokespecial 3, 3) := by decide +kernel
theorem d_Display_init_4 : decode b_Display_init 4 = .ok (.aload_n 0, 1) := by decide +kernel
theorem d_Display_init_5 : decode b_Display_init 5 = .ok (.bipush 100, 2) := by decide +kernel
theorem d_Display_init_7 : decode b_Display_init 7 = .ok (.newarray .int, 2) := by decide +kernel
theorem d_Display_init_9 : decode b_Display_init 9 = .ok (.putfield 11, 3) := by decide +kernel
theorem d_Display_init_12 : decode b_Display_init 12 = .ok (.return_, 1) := by decide +kernel
theorem d_Display_add_0 : decode b_Display_add 0 = .ok (.aload_n 0, 1) := by decide +kernel
theorem d_Display_add_1 : decode b_Display_add 1 = .ok (.getfield 15, 3) := by decide +kernel
theorem d_Display_add_4 : decode b_Display_add 4 = .ok (.ifCond .lt 12, 3) := by decide +kernel
theorem d_Display_add_7 : decode b_Display_add 7 = .ok (.aload_n 0, 1) := by decide +kernel
theorem d_Display_add_8 : decode b_Display_add 8 = .ok (.getfield 15, 3) := by decide +kernel
theorem d_Display_add_11 : decode b_Display_add 11 = .ok (.bipush 100, 2) := by decide +kernel
theorem d_Display_add_13 : decode b_Display_add 13 = .ok (.if_icmp .lt 8, 3) := by decide +kernel
theorem d_Display_add_16 : decode b_Display_add 16 = .ok (.aload_n 0, 1) := by decide +kernel
theorem d_Display_add_17 : decode b_Display_add 17 = .ok (.iconst 0, 1) := by decide +kernel
theorem d_Display_add_18 : decode b_Display_add 18 = .ok (.putfield 15, 3) := by decide +kernel
theorem d_Display_add_21 : decode b_Display_add 21 = .ok (.aload_n 0, 1) := by decide +kernel
theorem d_Display_add_22 : decode b_Display_add 22 = .ok (.getfield 11, 3) := by decide +kernel
theorem d_Display_add_25 : decode b_Display_add 25 = .ok (.aload_n 0, 1) := by decide +kernel
theorem d_Display_add_26 : decode b_Display_add 26 = .ok (.getfield 15, 3) := by decide +kernel
theorem d_Display_add_29 : decode b_Display_add 29 = .ok (.iload_n 1, 1) := by decide +kernel
theorem d_Display_add_30 : decode b_Display_add 30 = .ok (.iastore, 1) := by decide +kernel
theorem d_Display_add_31 : decode b_Display_add 31 = .ok (.aload_n 0, 1) := by decide +kernel
theorem d_Display_add_32 : decode b_Display_add 32 = .ok (.dup, 1) := by decide +kernel
theorem d_Display_add_33 : decode b_Display_add 33 = .ok (.getfield 15, 3) := by decide +kernel
theorem d_Display_add_36 : decode b_Display_add 36 = .ok (.iconst 1, 1) := by decide +kernel
theorem d_Display_add_37 : decode b_Display_add 37 = .ok (.iadd, 1) := by decide +kernel
theorem d_Display_add_38 : decode b_Display_add 38 = .ok (.putfield 15, 3) := by decide +kernel
theorem d_Display_add_41 : decode b_Display_add 41 = .ok (.aload_n 0, 1) := by decide +kernel
theorem d_Display_add_42 : decode b_Display_add 42 = .ok (.dup, 1) := by decide +kernel
theorem d_Display_add_43 : decode b_Display_add 43 = .ok (.getfield 19, 3) := by decide +kernel
theorem d_Display_add_46 : decode b_Display_add 46 = .ok (.iconst 1, 1) := by decide +kernel
theorem d_Display_add_47 : decode b_Display_add 47 = .ok (.iadd, 1) := by decide +kernel
theorem d_Display_add_48 : decode b_Display_add 48 = .ok (.putfield 19, 3) := by decide +kernel
theorem d_Display_add_51 : decode b_Display_add 51 = .ok (.return_, 1) := by decide +kernel
theorem d_Display_codeBefore_0 : decode b_Display_codeBefore 0 = .ok (.iload_n 1, 1) := by decide +kernel
theorem d_Display_codeBefore_1 : decode b_Display_codeBefore 1 = .ok (.ifCond .lt 17, 3) := by decide +kernel
theorem d_Display_codeBefore_4 : decode b_Display_codeBefore 4 = .ok (.iload_n 1, 1) := by decide +kernel
theorem d_Display_codeBefore_5 : decode b_Display_codeBefore 5 = .ok (.bipush 100, 2) := by decide +kernel
theorem d_Display_codeBefore_7 : decode b_Display_codeBefore 7 = .ok (.if_icmp .ge 11, 3) := by decide +kernel
theorem d_Display_codeBefore_10 : decode b_Display_codeBefore 10 = .ok (.iload_n 1, 1) := by decide +kernel
theorem d_Display_codeBefore_11 : decode b_Display_codeBefore 11 = .ok (.aload_n 0, 1) := by decide +kernel
theorem d_Display_codeBefore_12 : decode b_Display_codeBefore 12 = .ok (.getfield 19, 3) := by decide +kernel
theorem d_Display_codeBefore_15 : decode b_Display_codeBefore 15 = .ok (.if_icmp .lt 5, 3) := by decide +kernel
theorem d_Display_codeBefore_18 : decode b_Display_codeBefore 18 = .ok (.iconst (-1), 1) := by decide +kernel
theorem d_Display_codeBefore_19 : decode b_Display_codeBefore 19 = .ok (.ireturn, 1) := by decide +kernel
theorem d_Display_codeBefore_20 : decode b_Display_codeBefore 20 = .ok (.aload_n 0, 1) := by decide +kernel
theorem d_Display_codeBefore_21 : decode b_Display_codeBefore 21 = .ok (.getfield 15, 3) := by decide +kernel
theorem d_Display_codeBefore_24 : decode b_Display_codeBefore 24 = .ok (.iconst 1, 1) := by decide +kernel
theorem d_Display_codeBefore_25 : decode b_Display_codeBefore 25 = .ok (.isub, 1) := by decide +kernel
theorem d_Display_codeBefore_26 : decode b_Display_codeBefore 26 = .ok (.iload_n 1, 1) := by decide +kernel
theorem d_Display_codeBefore_27 : decode b_Display_codeBefore 27 = .ok (.isub, 1) := by decide +kernel
theorem d_Display_codeBefore_28 : decode b_Display_codeBefore 28 = .ok (.istore_n 2, 1) := by decide +kernel
theorem d_Display_codeBefore_29 : decode b_Display_codeBefore 29 = .ok (.iload_n 2, 1) := by decide +kernel
theorem d_Display_codeBefore_30 : decode b_Display_codeBefore 30 = .ok (.ifCond .ge 10, 3) := by decide +kernel
theorem d_Display_codeBefore_33 : decode b_Display_codeBefore 33 = .ok (.iload_n 2, 1) := by decide +kernel
theorem d_Display_codeBefore_34 : decode b_Display_codeBefore 34 = .ok (.bipush 100, 2) := by decide +kernel
theorem d_Display_codeBefore_36 : decode b_Display_codeBefore 36 = .ok (.iadd, 1) := by decide +kernel
theorem d_Display_codeBefore_37 : decode b_Display_codeBefore 37 = .ok (.goto 4, 3) := by decide +kernel
theorem d_Display_codeBefore_40 : decode b_Display_codeBefore 40 = .ok (.iload_n 2, 1) := by decide +kernel
theorem d_Display_codeBefore_41 : decode b_Display_codeBefore 41 = .ok (.istore_n 3, 1) := by decide +kernel
theorem d_Display_codeBefore_42 : decode b_Display_codeBefore 42 = .ok (.iload_n 3, 1) := by decide +kernel
theorem d_Display_codeBefore_43 : decode b_Display_codeBefore 43 = .ok (.ifCond .lt 18, 3) := by decide +kernel
theorem d_Display_codeBefore_46 : decode b_Display_codeBefore 46 = .ok (.iload_n 3, 1) := by decide +kernel
theorem d_Display_codeBefore_47 : decode b_Display_codeBefore 47 = .ok (.bipush 100, 2) := by decide +kernel
theorem d_Display_codeBefore_49 : decode b_Display_codeBefore 49 = .ok (.if_icmp .ge 12, 3) := by decide +kernel
theorem d_Display_codeBefore_52 : decode b_Display_codeBefore 52 = .ok (.aload_n 0, 1) := by decide +kernel
theorem d_Display_codeBefore_53 : decode b_Display_codeBefore 53 = .ok (.getfield 11, 3) := by decide +kernel
theorem d_Display_codeBefore_56 : decode b_Display_codeBefore 56 = .ok (.iload_n 3, 1) := by decide +kernel
theorem d_Display_codeBefore_57 : decode b_Display_codeBefore 57 = .ok (.iaload, 1) := by decide +kernel
theorem d_Display_codeBefore_58 : decode b_Display_codeBefore 58 = .ok (.goto 4, 3) := by decide +kernel
theorem d_Display_codeBefore_61 : decode b_Display_codeBefore 61 = .ok (.iconst (-1), 1) := by decide +kernel
theorem d_Display_codeBefore_62 : decode b_Display_codeBefore 62 = .ok (.ireturn, 1) := by decide +kernel
theorem d_Job_init_0 : decode b_Job_init 0 = .ok (.aload_n 0, 1) := by decide +kernel
theorem d_Job_init_1 : decode b_Job_init 1 = .ok (.invokespecial 3, 3) := by decide +kernel
theorem d_Job_init_4 : decode b_Job_init 4 = .ok (.aload_n 0, 1) := by decide +kernel
theorem d_Job_init_5 : decode b_Job_init 5 = .ok (.iload_n 1, 1) := by decide +kernel
theorem d_Job_init_6 : decode b_Job_init 6 = .ok (.putfield 9, 3) := by decide +kernel
theorem d_Job_init_9 : decode b_Job_init 9 = .ok (.aload_n 0, 1) := by decide +kernel
theorem d_Job_init_10 : decode b_Job_init 10 = .ok (.new 15, 3) := by decide +kernel
theorem d_Job_init_13 : decode b_Job_init 13 = .ok (.dup, 1) := by decide +kernel
theorem d_Job_init_14 : decode b_Job_init 14 = .ok (.iconst 4, 1) := by decide +kernel
theorem d_Job_init_15 : decode b_Job_init 15 = .ok (.invokespecial 17, 3) := by decide +kernel
theorem d_Job_init_18 : decode b_Job_init 18 = .ok (.putfield 20, 3) := by decide +kernel
theorem d_Job_init_21 : decode b_Job_init 21 = .ok (.aload_n 0, 1) := by decide +kernel
theorem d_Job_init_22 : decode b_Job_init 22 = .ok (.iconst (-1), 1) := by decide +kernel
theorem d_Job_init_23 : decode b_Job_init 23 = .ok (.putfield 24, 3) := by decide +kernel
theorem d_Job_init_26 : decode b_Job_init 26 = .ok (.return_, 1) := by decide +kernel
theorem d_Job_exists_0 : decode b_Job_exists 0 = .ok (.aload_n 0, 1) := by decide +kernel
theorem d_Job_exists_1 : decode b_Job_exists 1 = .ok (.getfield 27, 3) := by decide +kernel
theorem d_Job_exists_4 : decode b_Job_exists 4 = .ok (.ifnull 7, 3) := by decide +kernel
theorem d_Job_exists_7 : decode b_Job_exists 7 = .ok (.iconst 1, 1) := by decide +kernel
theorem d_Job_exists_8 : decode b_Job_exists 8 = .ok (.goto 4, 3) := by decide +kernel
theorem d_Job_exists_11 : decode b_Job_exists 11 = .ok (.iconst 0, 1) := by decide +kernel
theorem d_Job_exists_12 : decode b_Job_exists 12 = .ok (.ireturn, 1) := by decide +kernel
theorem d_Job_begin_0 : decode b_Job_begin 0 = .ok (.aload_n 0, 1) := by decide +kernel
theorem d_Job_begin_1 : decode b_Job_begin 1 = .ok (.aload_n 1, 1) := by decide +kernel
theorem d_Job_begin_2 : decode b_Job_begin 2 = .ok (.putfield 27, 3) := by decide +kernel
theorem d_Job_begin_5 : decode b_Job_begin 5 = .ok (.aload_n 0, 1) := by decide +kernel
theorem d_Job_begin_6 : decode b_Job_begin 6 = .ok (.aload_n 2, 1) := by decide +kernel
theorem d_Job_begin_7 : decode b_Job_begin 7 = .ok (.putfield 31, 3) := by decide +kernel
theorem d_Job_begin_10 : decode b_Job_begin 10 = .ok (.aload_n 0, 1) := by decide +kernel
theorem d_Job_begin_11 : decode b_Job_begin 11 = .ok (.getfield 20, 3) := by decide +kernel
theorem d_Job_begin_14 : decode b_Job_begin 14 = .ok (.invokevirtual 34, 3) := by decide +kernel
theorem d_Job_begin_17 : decode b_Job_begin 17 = .ok (.aload_n 0, 1) := by decide +kernel
theorem d_Job_begin_18 : decode b_Job_begin 18 = .ok (.iconst 0, 1) := by decide +kernel
theorem d_Job_begin_19 : decode b_Job_begin 19 = .ok (.putfield 37, 3) := by decide +kernel
theorem d_Job_begin_22 : decode b_Job_begin 22 = .ok (.aload_n 0, 1) := by decide +kernel
theorem d_Job_begin_23 : decode b_Job_begin 23 = .ok (.iconst 1, 1) := by decide +kernel
theorem d_Job_begin_24 : decode b_Job_begin 24 = .ok (.putfield 24, 3) := by decide +kernel
theorem d_Job_begin_27 : decode b_Job_begin 27 = .ok (.return_, 1) := by decide +kernel
theorem d_Job_vanish_0 : decode b_Job_vanish 0 = .ok (.aload_n 0, 1) := by decide +kernel
theorem d_Job_vanish_1 : decode b_Job_vanish 1 = .ok (.getfield 27, 3) := by decide +kernel
theorem d_Job_vanish_4 : decode b_Job_vanish 4 = .ok (.ifnull 10, 3) := by decide +kernel
theorem d_Job_vanish_7 : decode b_Job_vanish 7 = .ok (.aload_n 0, 1) := by decide +kernel
theorem d_Job_vanish_8 : decode b_Job_vanish 8 = .ok (.getfield 27, 3) := by decide +kernel
theorem d_Job_vanish_11 : decode b_Job_vanish 11 = .ok (.invokevirtual 41, 3) := by decide +kernel
theorem d_Job_vanish_14 : decode b_Job_vanish 14 = .ok (.aload_n 0, 1) := by decide +kernel
theorem d_Job_vanish_15 : decode b_Job_vanish 15 = .ok (.getfield 31, 3) := by decide +kernel
theorem d_Job_vanish_18 : decode b_Job_vanish 18 = .ok (.ifnull 10, 3) := by decide +kernel
theorem d_Job_vanish_21 : decode b_Job_vanish 21 = .ok (.aload_n 0, 1) := by decide +kernel
theorem d_Job_vanish_22 : decode b_Job_vanish 22 = .ok (.getfield 31, 3) := by decide +kernel
theorem d_Job_vanish_25 : decode b_Job_vanish 25 = .ok (.invokevirtual 41, 3) := by decide +kernel
theorem d_Job_vanish_28 : decode b_Job_vanish 28 = .ok (.aload_n 0, 1) := by decide +kernel
theorem d_Job_vanish_29 : decode b_Job_vanish 29 = .ok (.aconst_null, 1) := by decide +kernel
theorem d_Job_vanish_30 : decode b_Job_vanish 30 = .ok (.putfield 27, 3) := by decide +kernel
theorem d_Job_vanish_33 : decode b_Job_vanish 33 = .ok (.aload_n 0, 1) := by decide +kernel
theorem d_Job_vanish_34 : decode b_Job_vanish 34 = .ok (.aconst_null, 1) := by decide +kernel
theorem d_Job_vanish_35 : decode b_Job_vanish 35 = .ok (.putfield 31, 3) := by decide +kernel
theorem d_Job_vanish_38 : decode b_Job_vanish 38 = .ok (.aload_n 0, 1) := by decide +kernel
theorem d_Job_vanish_39 : decode b_Job_vanish 39 = .ok (.iconst (-1), 1) := by decide +kernel
theorem d_Job_vanish_40 : decode b_Job_vanish 40 = .ok (.putfield 24, 3) := by decide +kernel
theorem d_Job_vanish_43 : decode b_Job_vanish 43 = .ok (.return_, 1) := by decide +kernel
theorem d_Job_state_0 : decode b_Job_state 0 = .ok (.aload_n 0, 1) := by decide +kernel
theorem d_Job_state_1 : decode b_Job_state 1 = .ok (.getfield 27, 3) := by decide +kernel
theorem d_Job_state_4 : decode b_Job_state 4 = .ok (.ifnonnull 5, 3) := by decide +kernel
theorem d_Job_state_7 : decode b_Job_state 7 = .ok (.iconst (-1), 1) := by decide +kernel
theorem d_Job_state_8 : decode b_Job_state 8 = .ok (.ireturn, 1) := by decide +kernel
theorem d_Job_state_9 : decode b_Job_state 9 = .ok (.aload_n 0, 1) := by decide +kernel
theorem d_Job_state_10 : decode b_Job_state 10 = .ok (.getfield 31, 3) := by decide +kernel
theorem d_Job_state_13 : decode b_Job_state 13 = .ok (.ifnonnull 13, 3) := by decide +kernel
theorem d_Job_state_16 : decode b_Job_state 16 = .ok (.aload_n 0, 1) := by decide +kernel
theorem d_Job_state_17 : decode b_Job_state 17 = .ok (.getfield 27, 3) := by decide +kernel
theorem d_Job_state_20 : decode b_Job_state 20 = .ok (.getfield 46, 3) := by decide +kernel
theorem d_Job_state_23 : decode b_Job_state 23 = .ok (.goto 20, 3) := by decide +kernel
theorem d_Job_state_26 : decode b_Job_state 26 = .ok (.aload_n 0, 1) := by decide +kernel
theorem d_Job_state_27 : decode b_Job_state 27 = .ok (.getfield 27, 3) := by decide +kernel
theorem d_Job_state_30 : decode b_Job_state 30 = .ok (.getfield 46, 3) := by decide +kernel
theorem d_Job_state_33 : decode b_Job_state 33 = .ok (.aload_n 0, 1) := by decide +kernel
theorem d_Job_state_34 : decode b_Job_state 34 = .ok (.getfield 31, 3) := by decide +kernel
theorem d_Job_state_37 : decode b_Job_state 37 = .ok (.getfield 46, 3) := by decide +kernel
theorem d_Job_state_40 : decode b_Job_state 40 = .ok (.invokestatic 49, 3) := by decide +kernel
theorem d_Job_state_43 : decode b_Job_state 43 = .ok (.ireturn, 1) := by decide +kernel
theorem d_Job_readsFromPipe_0 : decode b_Job_readsFromPipe 0 = .ok (.aload_n 0, 1) := by decide +kernel
theorem d_Job_readsFromPipe_1 : decode b_Job_readsFromPipe 1 = .ok (.getfield 31, 3) := by decide +kernel
theorem d_Job_readsFromPipe_4 : decode b_Job_readsFromPipe 4 = .ok (.ifnull 15, 3) := by decide +kernel
theorem d_Job_readsFromPipe_7 : decode b_Job_readsFromPipe 7 = .ok (.aload_n 0, 1) := by decide +kernel
theorem d_Job_readsFromPipe_8 : decode b_Job_readsFromPipe 8 = .ok (.getfield 31, 3) := by decide +kernel
theorem d_Job_readsFromPipe_11 : decode b_Job_readsFromPipe 11 = .ok (.aload_n 1, 1) := by decide +kernel
theorem d_Job_readsFromPipe_12 : decode b_Job_readsFromPipe 12 = .ok (.if_acmp .ne 7, 3) := by decide +kernel
theorem d_Job_readsFromPipe_15 : decode b_Job_readsFromPipe 15 = .ok (.iconst 1, 1) := by decide +kernel
theorem d_Job_readsFromPipe_16 : decode b_Job_readsFromPipe 16 = .ok (.goto 4, 3) := by decide +kernel
theorem d_Job_readsFromPipe_19 : decode b_Job_readsFromPipe 19 = .ok (.iconst 0, 1) := by decide +kernel
theorem d_Job_readsFromPipe_20 : decode b_Job_readsFromPipe 20 = .ok (.ireturn, 1) := by decide +kernel
theorem d_Job_writesToPipe_0 : decode b_Job_writesToPipe 0 = .ok (.aload_n 0, 1) := by decide +kernel
theorem d_Job_writesToPipe_1 : decode b_Job_writesToPipe 1 = .ok (.getfield 31, 3) := by decide +kernel
theorem d_Job_writesToPipe_4 : decode b_Job_writesToPipe 4 = .ok (.ifnull 15, 3) := by decide +kernel
theorem d_Job_writesToPipe_7 : decode b_Job_writesToPipe 7 = .ok (.aload_n 0, 1) := by decide +kernel
theorem d_Job_writesToPipe_8 : decode b_Job_writesToPipe 8 = .ok (.getfield 27, 3) := by decide +kernel
theorem d_Job_writesToPipe_11 : decode b_Job_writesToPipe 11 = .ok (.aload_n 1, 1) := by decide +kernel
theorem d_Job_writesToPipe_12 : decode b_Job_writesToPipe 12 = .ok (.if_acmp .ne 7, 3) := by decide +kernel
theorem d_Job_writesToPipe_15 : decode b_Job_writesToPipe 15 = .ok (.iconst 1, 1) := by decide +kernel
theorem d_Job_writesToPipe_16 : decode b_Job_writesToPipe 16 = .ok (.goto 4, 3) := by decide +kernel
theorem d_Job_writesToPipe_19 : decode b_Job_writesToPipe 19 = .ok (.iconst 0, 1) := by decide +kernel
theorem d_Job_writesToPipe_20 : decode b_Job_writesToPipe 20 = .ok (.ireturn, 1) := by decide +kernel
theorem d_Job_firstHasEnded_0 : decode b_Job_firstHasEnded 0 = .ok (.aload_n 0, 1) := by decide +kernel
theorem d_Job_firstHasEnded_1 : decode b_Job_firstHasEnded 1 = .ok (.getfield 27, 3) := by decide +kernel
theorem d_Job_firstHasEnded_4 : decode b_Job_firstHasEnded 4 = .ok (.ifnull 18, 3) := by decide +kernel
theorem d_Job_firstHasEnded_7 : decode b_Job_firstHasEnded 7 = .ok (.aload_n 0, 1) := by decide +kernel
theorem d_Job_firstHasEnded_8 : decode b_Job_firstHasEnded 8 = .ok (.getfield 27, 3) := by decide +kernel
theorem d_Job_firstHasEnded_11 : decode b_Job_firstHasEnded 11 = .ok (.getfield 46, 3) := by decide +kernel
theorem d_Job_firstHasEnded_14 : decode b_Job_firstHasEnded 14 = .ok (.iconst 3, 1) := by decide +kernel
theorem d_Job_firstHasEnded_15 : decode b_Job_firstHasEnded 15 = .ok (.if_icmp .ne 7, 3) := by decide +kernel
theorem d_Job_firstHasEnded_18 : decode b_Job_firstHasEnded 18 = .ok (.iconst 1, 1) := by decide +kernel
theorem d_Job_firstHasEnded_19 : decode b_Job_firstHasEnded 19 = .ok (.goto 4, 3) := by decide +kernel
theorem d_Job_firstHasEnded_22 : decode b_Job_firstHasEnded 22 = .ok (.iconst 0, 1) := by decide +kernel
theorem d_Job_firstHasEnded_23 : decode b_Job_firstHasEnded 23 = .ok (.ireturn, 1) := by decide +kernel
theorem d_Job_secondHasEnded_0 : decode b_Job_secondHasEnded 0 = .ok (.aload_n 0, 1) := by decide +kernel
theorem d_Job_secondHasEnded_1 : decode b_Job_secondHasEnded 1 = .ok (.getfield 31, 3) := by decide +kernel
theorem d_Job_secondHasEnded_4 : decode b_Job_secondHasEnded 4 = .ok (.ifnull 18, 3) := by decide +kernel
theorem d_Job_secondHasEnded_7 : decode b_Job_secondHasEnded 7 = .ok (.aload_n 0, 1) := by decide +kernel
theorem d_Job_secondHasEnded_8 : decode b_Job_secondHasEnded 8 = .ok (.getfield 31, 3) := by decide +kernel
theorem d_Job_secondHasEnded_11 : decode b_Job_secondHasEnded 11 = .ok (.getfield 46, 3) := by decide +kernel
theorem d_Job_secondHasEnded_14 : decode b_Job_secondHasEnded 14 = .ok (.iconst 3, 1) := by decide +kernel
theorem d_Job_secondHasEnded_15 : decode b_Job_secondHasEnded 15 = .ok (.if_icmp .ne 7, 3) := by decide +kernel
theorem d_Job_secondHasEnded_18 : decode b_Job_secondHasEnded 18 = .ok (.iconst 1, 1) := by decide +kernel
theorem d_Job_secondHasEnded_19 : decode b_Job_secondHasEnded 19 = .ok (.goto 4, 3) := by decide +kernel
theorem d_Job_secondHasEnded_22 : decode b_Job_secondHasEnded 22 = .ok (.iconst 0, 1) := by decide +kernel
theorem d_Job_secondHasEnded_23 : decode b_Job_secondHasEnded 23 = .ok (.ireturn, 1) := by decide +kernel
theorem d_Job_receive_0 : decode b_Job_receive 0 = .ok (.aload_n 0, 1) := by decide +kernel
theorem d_Job_receive_1 : decode b_Job_receive 1 = .ok (.getfield 27, 3) := by decide +kernel
theorem d_Job_receive_4 : decode b_Job_receive 4 = .ok (.ifnull 11, 3) := by decide +kernel
theorem d_Job_receive_7 : decode b_Job_receive 7 = .ok (.aload_n 0, 1) := by decide +kernel
theorem d_Job_receive_8 : decode b_Job_receive 8 = .ok (.getfield 27, 3) := by decide +kernel
theorem d_Job_receive_11 : decode b_Job_receive 11 = .ok (.iload_n 1, 1) := by decide +kernel
theorem d_Job_receive_12 : decode b_Job_receive 12 = .ok (.invokevirtual 55, 3) := by decide +kernel
theorem d_Job_receive_15 : decode b_Job_receive 15 = .ok (.aload_n 0, 1) := by decide +kernel
theorem d_Job_receive_16 : decode b_Job_receive 16 = .ok (.getfield 31, 3) := by decide +kernel
theorem d_Job_receive_19 : decode b_Job_receive 19 = .ok (.ifnull 11, 3) := by decide +kernel
theorem d_Job_receive_22 : decode b_Job_receive 22 = .ok (.aload_n 0, 1) := by decide +kernel
theorem d_Job_receive_23 : decode b_Job_receive 23 = .ok (.getfield 31, 3) := by decide +kernel
theorem d_Job_receive_26 : decode b_Job_receive 26 = .ok (.iload_n 1, 1) := by decide +kernel
theorem d_Job_receive_27 : decode b_Job_receive 27 = .ok (.invokevirtual 55, 3) := by decide +kernel
theorem d_Job_receive_30 : decode b_Job_receive 30 = .ok (.return_, 1) := by decide +kernel
theorem d_Job_receiveHangUp_0 : decode b_Job_receiveHangUp 0 = .ok (.aload_n 0, 1) := by decide +kernel
theorem d_Job_receiveHangUp_1 : decode b_Job_receiveHangUp 1 = .ok (.iconst 0, 1) := by decide +kernel
theorem d_Job_receiveHangUp_2 : decode b_Job_receiveHangUp 2 = .ok (.invokevirtual 58, 3) := by decide +kernel
theorem d_Job_receiveHangUp_5 : decode b_Job_receiveHangUp 5 = .ok (.aload_n 0, 1) := by decide +kernel
theorem d_Job_receiveHangUp_6 : decode b_Job_receiveHangUp 6 = .ok (.iconst 5, 1) := by decide +kernel
theorem d_Job_receiveHangUp_7 : decode b_Job_receiveHangUp 7 = .ok (.invokevirtual 58, 3) := by decide +kernel
theorem d_Job_receiveHangUp_10 : decode b_Job_receiveHangUp 10 = .ok (.return_, 1) := by decide +kernel
theorem d_JobProcess_init_0 : decode b_JobProcess_init 0 = .ok (.aload_n 0, 1) := by decide +kernel
theorem d_JobProcess_init_1 : decode b_JobProcess_init 1 = .ok (.invokespecial 3, 3) := by decide +kernel
theorem d_JobProcess_init_4 : decode b_JobProcess_init 4 = .ok (.return_, 1) := by decide +kernel
theorem d_JobProcess_begin_0 : decode b_JobProcess_begin 0 = .ok (.aload_n 0, 1) := by decide +kernel
theorem d_JobProcess_begin_1 : decode b_JobProcess_begin 1 = .ok (.aload_n 1, 1) := by decide +kernel
theorem d_JobProcess_begin_2 : decode b_JobProcess_begin 2 = .ok (.putfield 9, 3) := by decide +kernel
theorem d_JobProcess_begin_5 : decode b_JobProcess_begin 5 = .ok (.aload_n 0, 1) := by decide +kernel
theorem d_JobProcess_begin_6 : decode b_JobProcess_begin 6 = .ok (.iconst 1, 1) := by decide +kernel
theorem d_JobProcess_begin_7 : decode b_JobProcess_begin 7 = .ok (.putfield 15, 3) := by decide +kernel
theorem d_JobProcess_begin_10 : decode b_JobProcess_begin 10 = .ok (.aload_n 0, 1) := by decide +kernel
theorem d_JobProcess_begin_11 : decode b_JobProcess_begin 11 = .ok (.iload_n 2, 1) := by decide +kernel
theorem d_JobProcess_begin_12 : decode b_JobProcess_begin 12 = .ok (.putfield 19, 3) := by decide +kernel
theorem d_JobProcess_begin_15 : decode b_JobProcess_begin 15 = .ok (.aload_n 0, 1) := by decide +kernel
theorem d_JobProcess_begin_16 : decode b_JobProcess_begin 16 = .ok (.iconst 0, 1) := by decide +kernel
theorem d_JobProcess_begin_17 : decode b_JobProcess_begin 17 = .ok (.putfield 22, 3) := by decide +kernel
theorem d_JobProcess_begin_20 : decode b_JobProcess_begin 20 = .ok (.aload_n 0, 1) := by decide +kernel
theorem d_JobProcess_begin_21 : decode b_JobProcess_begin 21 = .ok (.iconst 0, 1) := by decide +kernel
theorem d_JobProcess_begin_22 : decode b_JobProcess_begin 22 = .ok (.putfield 25, 3) := by decide +kernel
theorem d_JobProcess_begin_25 : decode b_JobProcess_begin 25 = .ok (.aload_n 0, 1) := by decide +kernel
theorem d_JobProcess_begin_26 : decode b_JobProcess_begin 26 = .ok (.iconst 0, 1) := by decide +kernel
theorem d_JobProcess_begin_27 : decode b_JobProcess_begin 27 = .ok (.putfield 28, 3) := by decide +kernel
theorem d_JobProcess_begin_30 : decode b_JobProcess_begin 30 = .ok (.aload_n 0, 1) := by decide +kernel
theorem d_JobProcess_begin_31 : decode b_JobProcess_begin 31 = .ok (.iconst 0, 1) := by decide +kernel
theorem d_JobProcess_begin_32 : decode b_JobProcess_begin 32 = .ok (.putfield 31, 3) := by decide +kernel
theorem d_JobProcess_begin_35 : decode b_JobProcess_begin 35 = .ok (.aload_n 0, 1) := by decide +kernel
theorem d_JobProcess_begin_36 : decode b_JobProcess_begin 36 = .ok (.iconst 0, 1) := by decide +kernel
theorem d_JobProcess_begin_37 : decode b_JobProcess_begin 37 = .ok (.putfield 34, 3) := by decide +kernel
theorem d_JobProcess_begin_40 : decode b_JobProcess_begin 40 = .ok (.aload_n 0, 1) := by decide +kernel
theorem d_JobProcess_begin_41 : decode b_JobProcess_begin 41 = .ok (.iconst 0, 1) := by decide +kernel
theorem d_JobProcess_begin_42 : decode b_JobProcess_begin 42 = .ok (.putfield 37, 3) := by decide +kernel
theorem d_JobProcess_begin_45 : decode b_JobProcess_begin 45 = .ok (.aload_n 0, 1) := by decide +kernel
theorem d_JobProcess_begin_46 : decode b_JobProcess_begin 46 = .ok (.iconst 0, 1) := by decide +kernel
theorem d_JobProcess_begin_47 : decode b_JobProcess_begin 47 = .ok (.putfield 40, 3) := by decide +kernel
theorem d_JobProcess_begin_50 : decode b_JobProcess_begin 50 = .ok (.return_, 1) := by decide +kernel
theorem d_JobProcess_vanish_0 : decode b_JobProcess_vanish 0 = .ok (.aload_n 0, 1) := by decide +kernel
theorem d_JobProcess_vanish_1 : decode b_JobProcess_vanish 1 = .ok (.aconst_null, 1) := by decide +kernel
theorem d_JobProcess_vanish_2 : decode b_JobProcess_vanish 2 = .ok (.putfield 9, 3) := by decide +kernel
theorem d_JobProcess_vanish_5 : decode b_JobProcess_vanish 5 = .ok (.aload_n 0, 1) := by decide +kernel
theorem d_JobProcess_vanish_6 : decode b_JobProcess_vanish 6 = .ok (.iconst 0, 1) := by decide +kernel
theorem d_JobProcess_vanish_7 : decode b_JobProcess_vanish 7 = .ok (.putfield 15, 3) := by decide +kernel
theorem d_JobProcess_vanish_10 : decode b_JobProcess_vanish 10 = .ok (.return_, 1) := by decide +kernel
theorem d_JobProcess_look_0 : decode b_JobProcess_look 0 = .ok (.aload_n 0, 1) := by decide +kernel
theorem d_JobProcess_look_1 : decode b_JobProcess_look 1 = .ok (.getfield 9, 3) := by decide +kernel
theorem d_JobProcess_look_4 : decode b_JobProcess_look 4 = .ok (.ifnonnull 5, 3) := by decide +kernel
theorem d_JobProcess_look_7 : decode b_JobProcess_look 7 = .ok (.iconst (-1), 1) := by decide +kernel
theorem d_JobProcess_look_8 : decode b_JobProcess_look 8 = .ok (.ireturn, 1) := by decide +kernel
theorem d_JobProcess_look_9 : decode b_JobProcess_look 9 = .ok (.iload_n 1, 1) := by decide +kernel
theorem d_JobProcess_look_10 : decode b_JobProcess_look 10 = .ok (.tableswitch 98 0 8 #[50, 55, 63, 68, 73, 78, 83, 88, 93], 50) := by decide +kernel
theorem d_JobProcess_look_60 : decode b_JobProcess_look 60 = .ok (.aload_n 0, 1) := by decide +kernel
theorem d_JobProcess_look_61 : decode b_JobProcess_look 61 = .ok (.getfield 15, 3) := by decide +kernel
theorem d_JobProcess_look_64 : decode b_JobProcess_look 64 = .ok (.ireturn, 1) := by decide +kernel
theorem d_JobProcess_look_65 : decode b_JobProcess_look 65 = .ok (.aload_n 0, 1) := by decide +kernel
theorem d_JobProcess_look_66 : decode b_JobProcess_look 66 = .ok (.getfield 9, 3) := by decide +kernel
theorem d_JobProcess_look_69 : decode b_JobProcess_look 69 = .ok (.getfield 43, 3) := by decide +kernel
theorem d_JobProcess_look_72 : decode b_JobProcess_look 72 = .ok (.ireturn, 1) := by decide +kernel
theorem d_JobProcess_look_73 : decode b_JobProcess_look 73 = .ok (.aload_n 0, 1) := by decide +kernel
theorem d_JobProcess_look_74 : decode b_JobProcess_look 74 = .ok (.getfield 22, 3) := by decide +kernel
theorem d_JobProcess_look_77 : decode b_JobProcess_look 77 = .ok (.ireturn, 1) := by decide +kernel
theorem d_JobProcess_look_78 : decode b_JobProcess_look 78 = .ok (.aload_n 0, 1) := by decide +kernel
theorem d_JobProcess_look_79 : decode b_JobProcess_look 79 = .ok (.getfield 25, 3) := by decide +kernel
theorem d_JobProcess_look_82 : decode b_JobProcess_look 82 = .ok (.ireturn, 1) := by decide +kernel
theorem d_JobProcess_look_83 : decode b_JobProcess_look 83 = .ok (.aload_n 0, 1) := by decide +kernel
theorem d_JobProcess_look_84 : decode b_JobProcess_look 84 = .ok (.getfield 31, 3) := by decide +kernel
theorem d_JobProcess_look_87 : decode b_JobProcess_look 87 = .ok (.ireturn, 1) := by decide +kernel
theorem d_JobProcess_look_88 : decode b_JobProcess_look 88 = .ok (.aload_n 0, 1) := by decide +kernel
theorem d_JobProcess_look_89 : decode b_JobProcess_look 89 = .ok (.getfield 34, 3) := by decide +kernel
theorem d_JobProcess_look_92 : decode b_JobProcess_look 92 = .ok (.ireturn, 1) := by decide +kernel
theorem d_JobProcess_look_93 : decode b_JobProcess_look 93 = .ok (.aload_n 0, 1) := by decide +kernel
theorem d_JobProcess_look_94 : decode b_JobProcess_look 94 = .ok (.getfield 37, 3) := by decide +kernel
theorem d_JobProcess_look_97 : decode b_JobProcess_look 97 = .ok (.ireturn, 1) := by decide +kernel
theorem d_JobProcess_look_98 : decode b_JobProcess_look 98 = .ok (.aload_n 0, 1) := by decide +kernel
theorem d_JobProcess_look_99 : decode b_JobProcess_look 99 = .ok (.getfield 40, 3) := by decide +kernel
theorem d_JobProcess_look_102 : decode b_JobProcess_look 102 = .ok (.ireturn, 1) := by decide +kernel
theorem d_JobProcess_look_103 : decode b_JobProcess_look 103 = .ok (.aload_n 0, 1) := by decide +kernel
theorem d_JobProcess_look_104 : decode b_JobProcess_look 104 = .ok (.getfield 28, 3) := by decide +kernel
theorem d_JobProcess_look_107 : decode b_JobProcess_look 107 = .ok (.ireturn, 1) := by decide +kernel
theorem d_JobProcess_look_108 : decode b_JobProcess_look 108 = .ok (.iconst (-1), 1) := by decide +kernel
theorem d_JobProcess_look_109 : decode b_JobProcess_look 109 = .ok (.ireturn, 1) := by decide +kernel
theorem d_JobProcess_shuns_0 : decode b_JobProcess_shuns 0 = .ok (.aload_n 0, 1) := by decide +kernel
theorem d_JobProcess_shuns_1 : decode b_JobProcess_shuns 1 = .ok (.getfield 34, 3) := by decide +kernel
theorem d_JobProcess_shuns_4 : decode b_JobProcess_shuns 4 = .ok (.aload_n 0, 1) := by decide +kernel
theorem d_JobProcess_shuns_5 : decode b_JobProcess_shuns 5 = .ok (.getfield 37, 3) := by decide +kernel
theorem d_JobProcess_shuns_8 : decode b_JobProcess_shuns 8 = .ok (.ior, 1) := by decide +kernel
theorem d_JobProcess_shuns_9 : decode b_JobProcess_shuns 9 = .ok (.iconst 1, 1) := by decide +kernel
theorem d_JobProcess_shuns_10 : decode b_JobProcess_shuns 10 = .ok (.iload_n 1, 1) := by decide +kernel
theorem d_JobProcess_shuns_11 : decode b_JobProcess_shuns 11 = .ok (.ishl, 1) := by decide +kernel
theorem d_JobProcess_shuns_12 : decode b_JobProcess_shuns 12 = .ok (.iand, 1) := by decide +kernel
theorem d_JobProcess_shuns_13 : decode b_JobProcess_shuns 13 = .ok (.ifCond .eq 7, 3) := by decide +kernel
theorem d_JobProcess_shuns_16 : decode b_JobProcess_shuns 16 = .ok (.iconst 1, 1) := by decide +kernel
theorem d_JobProcess_shuns_17 : decode b_JobProcess_shuns 17 = .ok (.goto 4, 3) := by decide +kernel
theorem d_JobProcess_shuns_20 : decode b_JobProcess_shuns 20 = .ok (.iconst 0, 1) := by decide +kernel
theorem d_JobProcess_shuns_21 : decode b_JobProcess_shuns 21 = .ok (.ireturn, 1) := by decide +kernel
theorem d_JobProcess_receive_0 : decode b_JobProcess_receive 0 = .ok (.aload_n 0, 1) := by decide +kernel
theorem d_JobProcess_receive_1 : decode b_JobProcess_receive 1 = .ok (.getfield 15, 3) := by decide +kernel
theorem d_JobProcess_receive_4 : decode b_JobProcess_receive 4 = .ok (.iconst 1, 1) := by decide +kernel
theorem d_JobProcess_receive_5 : decode b_JobProcess_receive 5 = .ok (.if_icmp .eq 12, 3) := by decide +kernel
theorem d_JobProcess_receive_8 : decode b_JobProcess_receive 8 = .ok (.aload_n 0, 1) := by decide +kernel
theorem d_JobProcess_receive_9 : decode b_JobProcess_receive 9 = .ok (.getfield 15, 3) := by decide +kernel
theorem d_JobProcess_receive_12 : decode b_JobProcess_receive 12 = .ok (.iconst 2, 1) := by decide +kernel
theorem d_JobProcess_receive_13 : decode b_JobProcess_receive 13 = .ok (.if_icmp .eq 4, 3) := by decide +kernel
theorem d_JobProcess_receive_16 : decode b_JobProcess_receive 16 = .ok (.return_, 1) := by decide +kernel
theorem d_JobProcess_receive_17 : decode b_JobProcess_receive 17 = .ok (.iconst 1, 1) := by decide +kernel
theorem d_JobProcess_receive_18 : decode b_JobProcess_receive 18 = .ok (.iload_n 1, 1) := by decide +kernel
theorem d_JobProcess_receive_19 : decode b_JobProcess_receive 19 = .ok (.ishl, 1) := by decide +kernel
theorem d_JobProcess_receive_20 : decode b_JobProcess_receive 20 = .ok (.istore_n 2, 1) := by decide +kernel
theorem d_JobProcess_receive_21 : decode b_JobProcess_receive 21 = .ok (.iload_n 1, 1) := by decide +kernel
theorem d_JobProcess_receive_22 : decode b_JobProcess_receive 22 = .ok (.iconst 5, 1) := by decide +kernel
theorem d_JobProcess_receive_23 : decode b_JobProcess_receive 23 = .ok (.if_icmp .ne 35, 3) := by decide +kernel
theorem d_JobProcess_receive_26 : decode b_JobProcess_receive 26 = .ok (.aload_n 0, 1) := by decide +kernel
theorem d_JobProcess_receive_27 : decode b_JobProcess_receive 27 = .ok (.dup, 1) := by decide +kernel
theorem d_JobProcess_receive_28 : decode b_JobProcess_receive 28 = .ok (.getfield 31, 3) := by decide +kernel
theorem d_JobProcess_receive_31 : decode b_JobProcess_receive 31 = .ok (.sipush (-961), 3) := by decide +kernel
theorem d_JobProcess_receive_34 : decode b_JobProcess_receive 34 = .ok (.iand, 1) := by decide +kernel
theorem d_JobProcess_receive_35 : decode b_JobProcess_receive 35 = .ok (.putfield 31, 3) := by decide +kernel
theorem d_JobProcess_receive_38 : decode b_JobProcess_receive 38 = .ok (.aload_n 0, 1) := by decide +kernel
theorem d_JobProcess_receive_39 : decode b_JobProcess_receive 39 = .ok (.getfield 15, 3) := by decide +kernel
theorem d_JobProcess_receive_42 : decode b_JobProcess_receive 42 = .ok (.iconst 2, 1) := by decide +kernel
theorem d_JobProcess_receive_43 : decode b_JobProcess_receive 43 = .ok (.if_icmp .ne 79, 3) := by decide +kernel
theorem d_JobProcess_receive_46 : decode b_JobProcess_receive 46 = .ok (.aload_n 0, 1) := by decide +kernel
theorem d_JobProcess_receive_47 : decode b_JobProcess_receive 47 = .ok (.iconst 1, 1) := by decide +kernel
theorem d_JobProcess_receive_48 : decode b_JobProcess_receive 48 = .ok (.putfield 15, 3) := by decide +kernel
theorem d_JobProcess_receive_51 : decode b_JobProcess_receive 51 = .ok (.aload_n 0, 1) := by decide +kernel
theorem d_JobProcess_receive_52 : decode b_JobProcess_receive 52 = .ok (.invokevirtual 48, 3) := by decide +kernel
theorem d_JobProcess_receive_55 : decode b_JobProcess_receive 55 = .ok (.goto 67, 3) := by decide +kernel
theorem d_JobProcess_receive_58 : decode b_JobProcess_receive 58 = .ok (.iload_n 1, 1) := by decide +kernel
theorem d_JobProcess_receive_59 : decode b_JobProcess_receive 59 = .ok (.iconst 3, 1) := by decide +kernel
theorem d_JobProcess_receive_60 : decode b_JobProcess_receive 60 = .ok (.if_icmp .eq 9, 3) := by decide +kernel
theorem d_JobProcess_receive_63 : decode b_JobProcess_receive 63 = .ok (.iload_n 1, 1) := by decide +kernel
theorem d_JobProcess_receive_64 : decode b_JobProcess_receive 64 = .ok (.bipush 6, 2) := by decide +kernel
theorem d_JobProcess_receive_66 : decode b_JobProcess_receive 66 = .ok (.if_icmp .ne 11, 3) := by decide +kernel
theorem d_JobProcess_receive_69 : decode b_JobProcess_receive 69 = .ok (.aload_n 0, 1) := by decide +kernel
theorem d_JobProcess_receive_70 : decode b_JobProcess_receive 70 = .ok (.iload_n 1, 1) := by decide +kernel
theorem d_JobProcess_receive_71 : decode b_JobProcess_receive 71 = .ok (.invokevirtual 51, 3) := by decide +kernel
theorem d_JobProcess_receive_74 : decode b_JobProcess_receive 74 = .ok (.goto 48, 3) := by decide +kernel
theorem d_JobProcess_receive_77 : decode b_JobProcess_receive 77 = .ok (.aload_n 0, 1) := by decide +kernel
theorem d_JobProcess_receive_78 : decode b_JobProcess_receive 78 = .ok (.getfield 37, 3) := by decide +kernel
theorem d_JobProcess_receive_81 : decode b_JobProcess_receive 81 = .ok (.iload_n 2, 1) := by decide +kernel
theorem d_JobProcess_receive_82 : decode b_JobProcess_receive 82 = .ok (.iand, 1) := by decide +kernel
theorem d_JobProcess_receive_83 : decode b_JobProcess_receive 83 = .ok (.ifCond .eq 4, 3) := by decide +kernel
theorem d_JobProcess_receive_86 : decode b_JobProcess_receive 86 = .ok (.return_, 1) := by decide +kernel
theorem d_JobProcess_receive_87 : decode b_JobProcess_receive 87 = .ok (.aload_n 0, 1) := by decide +kernel
theorem d_JobProcess_receive_88 : decode b_JobProcess_receive 88 = .ok (.getfield 34, 3) := by decide +kernel
theorem d_JobProcess_receive_91 : decode b_JobProcess_receive 91 = .ok (.iload_n 2, 1) := by decide +kernel
theorem d_JobProcess_receive_92 : decode b_JobProcess_receive 92 = .ok (.iand, 1) := by decide +kernel
theorem d_JobProcess_receive_93 : decode b_JobProcess_receive 93 = .ok (.ifCond .ne 11, 3) := by decide +kernel
theorem d_JobProcess_receive_96 : decode b_JobProcess_receive 96 = .ok (.aload_n 0, 1) := by decide +kernel
theorem d_JobProcess_receive_97 : decode b_JobProcess_receive 97 = .ok (.getfield 15, 3) := by decide +kernel
theorem d_JobProcess_receive_100 : decode b_JobProcess_receive 100 = .ok (.iconst 2, 1) := by decide +kernel
theorem d_JobProcess_receive_101 : decode b_JobProcess_receive 101 = .ok (.if_icmp .ne 16, 3) := by decide +kernel
theorem d_JobProcess_receive_104 : decode b_JobProcess_receive 104 = .ok (.aload_n 0, 1) := by decide +kernel
theorem d_JobProcess_receive_105 : decode b_JobProcess_receive 105 = .ok (.dup, 1) := by decide +kernel
theorem d_JobProcess_receive_106 : decode b_JobProcess_receive 106 = .ok (.getfield 31, 3) := by decide +kernel
theorem d_JobProcess_receive_109 : decode b_JobProcess_receive 109 = .ok (.iload_n 2, 1) := by decide +kernel
theorem d_JobProcess_receive_110 : decode b_JobProcess_receive 110 = .ok (.ior, 1) := by decide +kernel
theorem d_JobProcess_receive_111 : decode b_JobProcess_receive 111 = .ok (.putfield 31, 3) := by decide +kernel
theorem d_JobProcess_receive_114 : decode b_JobProcess_receive 114 = .ok (.goto 8, 3) := by decide +kernel
theorem d_JobProcess_receive_117 : decode b_JobProcess_receive 117 = .ok (.aload_n 0, 1) := by decide +kernel
theorem d_JobProcess_receive_118 : decode b_JobProcess_receive 118 = .ok (.iload_n 1, 1) := by decide +kernel
theorem d_JobProcess_receive_119 : decode b_JobProcess_receive 119 = .ok (.invokevirtual 51, 3) := by decide +kernel
theorem d_JobProcess_receive_122 : decode b_JobProcess_receive 122 = .ok (.return_, 1) := by decide +kernel
theorem d_JobProcess_actOnPending_0 : decode b_JobProcess_actOnPending 0 = .ok (.iconst 0, 1) := by decide +kernel
theorem d_JobProcess_actOnPending_1 : decode b_JobProcess_actOnPending 1 = .ok (.istore_n 1, 1) := by decide +kernel
theorem d_JobProcess_actOnPending_2 : decode b_JobProcess_actOnPending 2 = .ok (.iload_n 1, 1) := by decide +kernel
theorem d_JobProcess_actOnPending_3 : decode b_JobProcess_actOnPending 3 = .ok (.bipush 9, 2) := by decide +kernel
theorem d_JobProcess_actOnPending_5 : decode b_JobProcess_actOnPending 5 = .ok (.if_icmp .gt 40, 3) := by decide +kernel
theorem d_JobProcess_actOnPending_8 : decode b_JobProcess_actOnPending 8 = .ok (.aload_n 0, 1) := by decide +kernel
theorem d_JobProcess_actOnPending_9 : decode b_JobProcess_actOnPending 9 = .ok (.getfield 15, 3) := by decide +kernel
theorem d_JobProcess_actOnPending_12 : decode b_JobProcess_actOnPending 12 = .ok (.iconst 1, 1) := by decide +kernel
theorem d_JobProcess_actOnPending_13 : decode b_JobProcess_actOnPending 13 = .ok (.if_icmp .ne 32, 3) := by decide +kernel
theorem d_JobProcess_actOnPending_16 : decode b_JobProcess_actOnPending 16 = .ok (.aload_n 0, 1) := by decide +kernel
theorem d_JobProcess_actOnPending_17 : decode b_JobProcess_actOnPending 17 = .ok (.getfield 31, 3) := by decide +kernel
theorem d_JobProcess_actOnPending_20 : decode b_JobProcess_actOnPending 20 = .ok (.aload_n 0, 1) := by decide +kernel
theorem d_JobProcess_actOnPending_21 : decode b_JobProcess_actOnPending 21 = .ok (.getfield 34, 3) := by decide +kernel
theorem d_JobProcess_actOnPending_24 : decode b_JobProcess_actOnPending 24 = .ok (.iconst (-1), 1) := by decide +kernel
theorem d_JobProcess_actOnPending_25 : decode b_JobProcess_actOnPending 25 = .ok (.ixor, 1) := by decide +kernel
theorem d_JobProcess_actOnPending_26 : decode b_JobProcess_actOnPending 26 = .ok (.iand, 1) := by decide +kernel
theorem d_JobProcess_actOnPending_27 : decode b_JobProcess_actOnPending 27 = .ok (.iconst 1, 1) := by decide +kernel
theorem d_JobProcess_actOnPending_28 : decode b_JobProcess_actOnPending 28 = .ok (.iload_n 1, 1) := by decide +kernel
theorem d_JobProcess_actOnPending_29 : decode b_JobProcess_actOnPending 29 = .ok (.ishl, 1) := by decide +kernel
theorem d_JobProcess_actOnPending_30 : decode b_JobProcess_actOnPending 30 = .ok (.iand, 1) := by decide +kernel
theorem d_JobProcess_actOnPending_31 : decode b_JobProcess_actOnPending 31 = .ok (.ifCond .eq 8, 3) := by decide +kernel
theorem d_JobProcess_actOnPending_34 : decode b_JobProcess_actOnPending 34 = .ok (.aload_n 0, 1) := by decide +kernel
theorem d_JobProcess_actOnPending_35 : decode b_JobProcess_actOnPending 35 = .ok (.iload_n 1, 1) := by decide +kernel
theorem d_JobProcess_actOnPending_36 : decode b_JobProcess_actOnPending 36 = .ok (.invokevirtual 51, 3) := by decide +kernel
theorem d_JobProcess_actOnPending_39 : decode b_JobProcess_actOnPending 39 = .ok (.iinc 1 1, 3) := by decide +kernel
theorem d_JobProcess_actOnPending_42 : decode b_JobProcess_actOnPending 42 = .ok (.goto (-40), 3) := by decide +kernel
theorem d_JobProcess_actOnPending_45 : decode b_JobProcess_actOnPending 45 = .ok (.return_, 1) := by decide +kernel
theorem d_JobProcess_act_0 : decode b_JobProcess_act 0 = .ok (.aload_n 0, 1) := by decide +kernel
theorem d_JobProcess_act_1 : decode b_JobProcess_act 1 = .ok (.dup, 1) := by decide +kernel
theorem d_JobProcess_act_2 : decode b_JobProcess_act 2 = .ok (.getfield 31, 3) := by decide +kernel
theorem d_JobProcess_act_5 : decode b_JobProcess_act 5 = .ok (.iconst 1, 1) := by decide +kernel
theorem d_JobProcess_act_6 : decode b_JobProcess_act 6 = .ok (.iload_n 1, 1) := by decide +kernel
theorem d_JobProcess_act_7 : decode b_JobProcess_act 7 = .ok (.ishl, 1) := by decide +kernel
theorem d_JobProcess_act_8 : decode b_JobProcess_act 8 = .ok (.iconst (-1), 1) := by decide +kernel
theorem d_JobProcess_act_9 : decode b_JobProcess_act 9 = .ok (.ixor, 1) := by decide +kernel
theorem d_JobProcess_act_10 : decode b_JobProcess_act 10 = .ok (.iand, 1) := by decide +kernel
theorem d_JobProcess_act_11 : decode b_JobProcess_act 11 = .ok (.putfield 31, 3) := by decide +kernel
theorem d_JobProcess_act_14 : decode b_JobProcess_act 14 = .ok (.iload_n 1, 1) := by decide +kernel
theorem d_JobProcess_act_15 : decode b_JobProcess_act 15 = .ok (.iconst 5, 1) := by decide +kernel
theorem d_JobProcess_act_16 : decode b_JobProcess_act 16 = .ok (.if_icmp .ge 20, 3) := by decide +kernel
theorem d_JobProcess_act_19 : decode b_JobProcess_act 19 = .ok (.aload_n 0, 1) := by decide +kernel
theorem d_JobProcess_act_20 : decode b_JobProcess_act 20 = .ok (.iconst 3, 1) := by decide +kernel
theorem d_JobProcess_act_21 : decode b_JobProcess_act 21 = .ok (.putfield 15, 3) := by decide +kernel
theorem d_JobProcess_act_24 : decode b_JobProcess_act 24 = .ok (.aload_n 0, 1) := by decide +kernel
theorem d_JobProcess_act_25 : decode b_JobProcess_act 25 = .ok (.sipush 128, 3) := by decide +kernel
theorem d_JobProcess_act_28 : decode b_JobProcess_act 28 = .ok (.iload_n 1, 1) := by decide +kernel
theorem d_JobProcess_act_29 : decode b_JobProcess_act 29 = .ok (.iadd, 1) := by decide +kernel
theorem d_JobProcess_act_30 : decode b_JobProcess_act 30 = .ok (.putfield 28, 3) := by decide +kernel
theorem d_JobProcess_act_33 : decode b_JobProcess_act 33 = .ok (.goto 8, 3) := by decide +kernel
theorem d_JobProcess_act_36 : decode b_JobProcess_act 36 = .ok (.aload_n 0, 1) := by decide +kernel
theorem d_JobProcess_act_37 : decode b_JobProcess_act 37 = .ok (.iconst 2, 1) := by decide +kernel
theorem d_JobProcess_act_38 : decode b_JobProcess_act 38 = .ok (.putfield 15, 3) := by decide +kernel
theorem d_JobProcess_act_41 : decode b_JobProcess_act 41 = .ok (.return_, 1) := by decide +kernel
theorem d_JobProcess_take_0 : decode b_JobProcess_take 0 = .ok (.aload_n 0, 1) := by decide +kernel
theorem d_JobProcess_take_1 : decode b_JobProcess_take 1 = .ok (.iload_n 1, 1) := by decide +kernel
theorem d_JobProcess_take_2 : decode b_JobProcess_take 2 = .ok (.putfield 25, 3) := by decide +kernel
theorem d_JobProcess_take_5 : decode b_JobProcess_take 5 = .ok (.aload_n 0, 1) := by decide +kernel
theorem d_JobProcess_take_6 : decode b_JobProcess_take 6 = .ok (.dup, 1) := by decide +kernel
theorem d_JobProcess_take_7 : decode b_JobProcess_take 7 = .ok (.getfield 22, 3) := by decide +kernel
theorem d_JobProcess_take_10 : decode b_JobProcess_take 10 = .ok (.iconst 1, 1) := by decide +kernel
theorem d_JobProcess_take_11 : decode b_JobProcess_take 11 = .ok (.iadd, 1) := by decide +kernel
theorem d_JobProcess_take_12 : decode b_JobProcess_take 12 = .ok (.putfield 22, 3) := by decide +kernel
theorem d_JobProcess_take_15 : decode b_JobProcess_take 15 = .ok (.return_, 1) := by decide +kernel
theorem d_JobProcess_fail_0 : decode b_JobProcess_fail 0 = .ok (.aload_n 0, 1) := by decide +kernel
theorem d_JobProcess_fail_1 : decode b_JobProcess_fail 1 = .ok (.bipush (-2), 2) := by decide +kernel
theorem d_JobProcess_fail_3 : decode b_JobProcess_fail 3 = .ok (.putfield 25, 3) := by decide +kernel
theorem d_JobProcess_fail_6 : decode b_JobProcess_fail 6 = .ok (.aload_n 0, 1) := by decide +kernel
theorem d_JobProcess_fail_7 : decode b_JobProcess_fail 7 = .ok (.dup, 1) := by decide +kernel
theorem d_JobProcess_fail_8 : decode b_JobProcess_fail 8 = .ok (.getfield 22, 3) := by decide +kernel
theorem d_JobProcess_fail_11 : decode b_JobProcess_fail 11 = .ok (.iconst 1, 1) := by decide +kernel
theorem d_JobProcess_fail_12 : decode b_JobProcess_fail 12 = .ok (.iadd, 1) := by decide +kernel
theorem d_JobProcess_fail_13 : decode b_JobProcess_fail 13 = .ok (.putfield 22, 3) := by decide +kernel
theorem d_JobProcess_fail_16 : decode b_JobProcess_fail 16 = .ok (.return_, 1) := by decide +kernel
theorem d_JobProcess_runOwnOp_0 : decode b_JobProcess_runOwnOp 0 = .ok (.aload_n 0, 1) := by decide +kernel
theorem d_JobProcess_runOwnOp_1 : decode b_JobProcess_runOwnOp 1 = .ok (.getfield 22, 3) := by decide +kernel
theorem d_JobProcess_runOwnOp_4 : decode b_JobProcess_runOwnOp 4 = .ok (.istore_n 3, 1) := by decide +kernel
theorem d_JobProcess_runOwnOp_5 : decode b_JobProcess_runOwnOp 5 = .ok (.aload_n 0, 1) := by decide +kernel
theorem d_JobProcess_runOwnOp_6 : decode b_JobProcess_runOwnOp 6 = .ok (.iload_n 3, 1) := by decide +kernel
theorem d_JobProcess_runOwnOp_7 : decode b_JobProcess_runOwnOp 7 = .ok (.iconst 1, 1) := by decide +kernel
theorem d_JobProcess_runOwnOp_8 : decode b_JobProcess_runOwnOp 8 = .ok (.iadd, 1) := by decide +kernel
theorem d_JobProcess_runOwnOp_9 : decode b_JobProcess_runOwnOp 9 = .ok (.putfield 22, 3) := by decide +kernel
theorem d_JobProcess_runOwnOp_12 : decode b_JobProcess_runOwnOp 12 = .ok (.iload_n 1, 1) := by decide +kernel
theorem d_JobProcess_runOwnOp_13 : decode b_JobProcess_runOwnOp 13 = .ok (.tableswitch 178 4 11 #[47, 58, 83, 99, 126, 137, 157, 165], 47) := by decide +kernel
theorem d_JobProcess_runOwnOp_60 : decode b_JobProcess_runOwnOp 60 = .ok (.aload_n 0, 1) := by decide +kernel
theorem d_JobProcess_runOwnOp_61 : decode b_JobProcess_runOwnOp 61 = .ok (.iload_n 2, 1) := by decide +kernel
theorem d_JobProcess_runOwnOp_62 : decode b_JobProcess_runOwnOp 62 = .ok (.bipush 15, 2) := by decide +kernel
theorem d_JobProcess_runOwnOp_64 : decode b_JobProcess_runOwnOp 64 = .ok (.iand, 1) := by decide +kernel
theorem d_JobProcess_runOwnOp_65 : decode b_JobProcess_runOwnOp 65 = .ok (.putfield 22, 3) := by decide +kernel
theorem d_JobProcess_runOwnOp_68 : decode b_JobProcess_runOwnOp 68 = .ok (.goto 142, 3) := by decide +kernel
theorem d_JobProcess_runOwnOp_71 : decode b_JobProcess_runOwnOp 71 = .ok (.aload_n 0, 1) := by decide +kernel
theorem d_JobProcess_runOwnOp_72 : decode b_JobProcess_runOwnOp 72 = .ok (.aload_n 0, 1) := by decide +kernel
theorem d_JobProcess_runOwnOp_73 : decode b_JobProcess_runOwnOp 73 = .ok (.getfield 25, 3) := by decide +kernel
theorem d_JobProcess_runOwnOp_76 : decode b_JobProcess_runOwnOp 76 = .ok (.ifCond .ge 10, 3) := by decide +kernel
theorem d_JobProcess_runOwnOp_79 : decode b_JobProcess_runOwnOp 79 = .ok (.iload_n 2, 1) := by decide +kernel
theorem d_JobProcess_runOwnOp_80 : decode b_JobProcess_runOwnOp 80 = .ok (.bipush 15, 2) := by decide +kernel
theorem d_JobProcess_runOwnOp_82 : decode b_JobProcess_runOwnOp 82 = .ok (.iand, 1) := by decide +kernel
theorem d_JobProcess_runOwnOp_83 : decode b_JobProcess_runOwnOp 83 = .ok (.goto 7, 3) := by decide +kernel
theorem d_JobProcess_runOwnOp_86 : decode b_JobProcess_runOwnOp 86 = .ok (.aload_n 0, 1) := by decide +kernel
theorem d_JobProcess_runOwnOp_87 : decode b_JobProcess_runOwnOp 87 = .ok (.getfield 22, 3) := by decide +kernel
theorem d_JobProcess_runOwnOp_90 : decode b_JobProcess_runOwnOp 90 = .ok (.putfield 22, 3) := by decide +kernel
theorem d_JobProcess_runOwnOp_93 : decode b_JobProcess_runOwnOp 93 = .ok (.goto 117, 3) := by decide +kernel
theorem d_JobProcess_runOwnOp_96 : decode b_JobProcess_runOwnOp 96 = .ok (.aload_n 0, 1) := by decide +kernel
theorem d_JobProcess_runOwnOp_97 : decode b_JobProcess_runOwnOp 97 = .ok (.iload_n 2, 1) := by decide +kernel
theorem d_JobProcess_runOwnOp_98 : decode b_JobProcess_runOwnOp 98 = .ok (.sipush 919, 3) := by decide +kernel
theorem d_JobProcess_runOwnOp_101 : decode b_JobProcess_runOwnOp 101 = .ok (.iand, 1) := by decide +kernel
theorem d_JobProcess_runOwnOp_102 : decode b_JobProcess_runOwnOp 102 = .ok (.putfield 34, 3) := by decide +kernel
theorem d_JobProcess_runOwnOp_105 : decode b_JobProcess_runOwnOp 105 = .ok (.aload_n 0, 1) := by decide +kernel
theorem d_JobProcess_runOwnOp_106 : decode b_JobProcess_runOwnOp 106 = .ok (.invokevirtual 48, 3) := by decide +kernel
theorem d_JobProcess_runOwnOp_109 : decode b_JobProcess_runOwnOp 109 = .ok (.goto 101, 3) := by decide +kernel
theorem d_JobProcess_runOwnOp_112 : decode b_JobProcess_runOwnOp 112 = .ok (.aload_n 0, 1) := by decide +kernel
theorem d_JobProcess_runOwnOp_113 : decode b_JobProcess_runOwnOp 113 = .ok (.iload_n 2, 1) := by decide +kernel
theorem d_JobProcess_runOwnOp_114 : decode b_JobProcess_runOwnOp 114 = .ok (.sipush 919, 3) := by decide +kernel
theorem d_JobProcess_runOwnOp_117 : decode b_JobProcess_runOwnOp 117 = .ok (.iand, 1) := by decide +kernel
theorem d_JobProcess_runOwnOp_118 : decode b_JobProcess_runOwnOp 118 = .ok (.putfield 37, 3) := by decide +kernel
theorem d_JobProcess_runOwnOp_121 : decode b_JobProcess_runOwnOp 121 = .ok (.aload_n 0, 1) := by decide +kernel
theorem d_JobProcess_runOwnOp_122 : decode b_JobProcess_runOwnOp 122 = .ok (.dup, 1) := by decide +kernel
theorem d_JobProcess_runOwnOp_123 : decode b_JobProcess_runOwnOp 123 = .ok (.getfield 31, 3) := by decide +kernel
theorem d_JobProcess_runOwnOp_126 : decode b_JobProcess_runOwnOp 126 = .ok (.aload_n 0, 1) := by decide +kernel
theorem d_JobProcess_runOwnOp_127 : decode b_JobProcess_runOwnOp 127 = .ok (.getfield 37, 3) := by decide +kernel
theorem d_JobProcess_runOwnOp_130 : decode b_JobProcess_runOwnOp 130 = .ok (.iconst (-1), 1) := by decide +kernel
theorem d_JobProcess_runOwnOp_131 : decode b_JobProcess_runOwnOp 131 = .ok (.ixor, 1) := by decide +kernel
theorem d_JobProcess_runOwnOp_132 : decode b_JobProcess_runOwnOp 132 = .ok (.iand, 1) := by decide +kernel
theorem d_JobProcess_runOwnOp_133 : decode b_JobProcess_runOwnOp 133 = .ok (.putfield 31, 3) := by decide +kernel
theorem d_JobProcess_runOwnOp_136 : decode b_JobProcess_runOwnOp 136 = .ok (.goto 74, 3) := by decide +kernel
theorem d_JobProcess_runOwnOp_139 : decode b_JobProcess_runOwnOp 139 = .ok (.aload_n 0, 1) := by decide +kernel
theorem d_JobProcess_runOwnOp_140 : decode b_JobProcess_runOwnOp 140 = .ok (.iload_n 2, 1) := by decide +kernel
theorem d_JobProcess_runOwnOp_141 : decode b_JobProcess_runOwnOp 141 = .ok (.bipush 7, 2) := by decide +kernel
theorem d_JobProcess_runOwnOp_143 : decode b_JobProcess_runOwnOp 143 = .ok (.iand, 1) := by decide +kernel
theorem d_JobProcess_runOwnOp_144 : decode b_JobProcess_runOwnOp 144 = .ok (.putfield 40, 3) := by decide +kernel
theorem d_JobProcess_runOwnOp_147 : decode b_JobProcess_runOwnOp 147 = .ok (.goto 63, 3) := by decide +kernel
theorem d_JobProcess_runOwnOp_150 : decode b_JobProcess_runOwnOp 150 = .ok (.iload_n 2, 1) := by decide +kernel
theorem d_JobProcess_runOwnOp_151 : decode b_JobProcess_runOwnOp 151 = .ok (.bipush 15, 2) := by decide +kernel
theorem d_JobProcess_runOwnOp_153 : decode b_JobProcess_runOwnOp 153 = .ok (.iand, 1) := by decide +kernel
theorem d_JobProcess_runOwnOp_154 : decode b_JobProcess_runOwnOp 154 = .ok (.bipush 9, 2) := by decide +kernel
theorem d_JobProcess_runOwnOp_156 : decode b_JobProcess_runOwnOp 156 = .ok (.if_icmp .gt 54, 3) := by decide +kernel
theorem d_JobProcess_runOwnOp_159 : decode b_JobProcess_runOwnOp 159 = .ok (.aload_n 0, 1) := by decide +kernel
theorem d_JobProcess_runOwnOp_160 : decode b_JobProcess_runOwnOp 160 = .ok (.iload_n 2, 1) := by decide +kernel
theorem d_JobProcess_runOwnOp_161 : decode b_JobProcess_runOwnOp 161 = .ok (.bipush 15, 2) := by decide +kernel
theorem d_JobProcess_runOwnOp_163 : decode b_JobProcess_runOwnOp 163 = .ok (.iand, 1) := by decide +kernel
theorem d_JobProcess_runOwnOp_164 : decode b_JobProcess_runOwnOp 164 = .ok (.invokevirtual 55, 3) := by decide +kernel
theorem d_JobProcess_runOwnOp_167 : decode b_JobProcess_runOwnOp 167 = .ok (.goto 43, 3) := by decide +kernel
theorem d_JobProcess_runOwnOp_170 : decode b_JobProcess_runOwnOp 170 = .ok (.aload_n 0, 1) := by decide +kernel
theorem d_JobProcess_runOwnOp_171 : decode b_JobProcess_runOwnOp 171 = .ok (.iload_n 2, 1) := by decide +kernel
theorem d_JobProcess_runOwnOp_172 : decode b_JobProcess_runOwnOp 172 = .ok (.putfield 25, 3) := by decide +kernel
theorem d_JobProcess_runOwnOp_175 : decode b_JobProcess_runOwnOp 175 = .ok (.goto 35, 3) := by decide +kernel
theorem d_JobProcess_runOwnOp_178 : decode b_JobProcess_runOwnOp 178 = .ok (.aload_n 0, 1) := by decide +kernel
theorem d_JobProcess_runOwnOp_179 : decode b_JobProcess_runOwnOp 179 = .ok (.dup, 1) := by decide +kernel
theorem d_JobProcess_runOwnOp_180 : decode b_JobProcess_runOwnOp 180 = .ok (.getfield 25, 3) := by decide +kernel
theorem d_JobProcess_runOwnOp_183 : decode b_JobProcess_runOwnOp 183 = .ok (.iload_n 2, 1) := by decide +kernel
theorem d_JobProcess_runOwnOp_184 : decode b_JobProcess_runOwnOp 184 = .ok (.iadd, 1) := by decide +kernel
theorem d_JobProcess_runOwnOp_185 : decode b_JobProcess_runOwnOp 185 = .ok (.putfield 25, 3) := by decide +kernel
theorem d_JobProcess_runOwnOp_188 : decode b_JobProcess_runOwnOp 188 = .ok (.goto 22, 3) := by decide +kernel
theorem d_JobProcess_runOwnOp_191 : decode b_JobProcess_runOwnOp 191 = .ok (.aload_n 0, 1) := by decide +kernel
theorem d_JobProcess_runOwnOp_192 : decode b_JobProcess_runOwnOp 192 = .ok (.iconst 3, 1) := by decide +kernel
theorem d_JobProcess_runOwnOp_193 : decode b_JobProcess_runOwnOp 193 = .ok (.putfield 15, 3) := by decide +kernel
theorem d_JobProcess_runOwnOp_196 : decode b_JobProcess_runOwnOp 196 = .ok (.aload_n 0, 1) := by decide +kernel
theorem d_JobProcess_runOwnOp_197 : decode b_JobProcess_runOwnOp 197 = .ok (.iload_n 2, 1) := by decide +kernel
theorem d_JobProcess_runOwnOp_198 : decode b_JobProcess_runOwnOp 198 = .ok (.sipush 255, 3) := by decide +kernel
theorem d_JobProcess_runOwnOp_201 : decode b_JobProcess_runOwnOp 201 = .ok (.iand, 1) := by decide +kernel
theorem d_JobProcess_runOwnOp_202 : decode b_JobProcess_runOwnOp 202 = .ok (.putfield 28, 3) := by decide +kernel
theorem d_JobProcess_runOwnOp_205 : decode b_JobProcess_runOwnOp 205 = .ok (.aload_n 0, 1) := by decide +kernel
theorem d_JobProcess_runOwnOp_206 : decode b_JobProcess_runOwnOp 206 = .ok (.iload_n 3, 1) := by decide +kernel
theorem d_JobProcess_runOwnOp_207 : decode b_JobProcess_runOwnOp 207 = .ok (.putfield 22, 3) := by decide +kernel
theorem d_JobProcess_runOwnOp_210 : decode b_JobProcess_runOwnOp 210 = .ok (.return_, 1) := by decide +kernel
theorem d_NumberRow_init_0 : decode b_NumberRow_init 0 = .ok (.aload_n 0, 1) := by decide +kernel
theorem d_NumberRow_init_1 : decode b_NumberRow_init 1 = .ok (.invokespecial 3, 3) := by decide +kernel
theorem d_NumberRow_init_4 : decode b_NumberRow_init 4 = .ok (.aload_n 0, 1) := by decide +kernel
theorem d_NumberRow_init_5 : decode b_NumberRow_init 5 = .ok (.iload_n 1, 1) := by decide +kernel
theorem d_NumberRow_init_6 : decode b_NumberRow_init 6 = .ok (.iconst 0, 1) := by decide +kernel
theorem d_NumberRow_init_7 : decode b_NumberRow_init 7 = .ok (.invokestatic 9, 3) := by decide +kernel
theorem d_NumberRow_init_10 : decode b_NumberRow_init 10 = .ok (.newarray .int, 2) := by decide +kernel
theorem d_NumberRow_init_12 : decode b_NumberRow_init 12 = .ok (.putfield 15, 3) := by decide +kernel
theorem d_NumberRow_init_15 : decode b_NumberRow_init 15 = .ok (.return_, 1) := by decide +kernel
theorem d_NumberRow_hasRoomFor_0 : decode b_NumberRow_hasRoomFor 0 = .ok (.aload_n 0, 1) := by decide +kernel
theorem d_NumberRow_hasRoomFor_1 : decode b_NumberRow_hasRoomFor 1 = .ok (.getfield 21, 3) := by decide +kernel
theorem d_NumberRow_hasRoomFor_4 : decode b_NumberRow_hasRoomFor 4 = .ok (.iload_n 1, 1) := by decide +kernel
theorem d_NumberRow_hasRoomFor_5 : decode b_NumberRow_hasRoomFor 5 = .ok (.iadd, 1) := by decide +kernel
theorem d_NumberRow_hasRoomFor_6 : decode b_NumberRow_hasRoomFor 6 = .ok (.aload_n 0, 1) := by decide +kernel
theorem d_NumberRow_hasRoomFor_7 : decode b_NumberRow_hasRoomFor 7 = .ok (.getfield 15, 3) := by decide +kernel
theorem d_NumberRow_hasRoomFor_10 : decode b_NumberRow_hasRoomFor 10 = .ok (.arraylength, 1) := by decide +kernel
theorem d_NumberRow_hasRoomFor_11 : decode b_NumberRow_hasRoomFor 11 = .ok (.if_icmp .gt 7, 3) := by decide +kernel
theorem d_NumberRow_hasRoomFor_14 : decode b_NumberRow_hasRoomFor 14 = .ok (.iconst 1, 1) := by decide +kernel
theorem d_NumberRow_hasRoomFor_15 : decode b_NumberRow_hasRoomFor 15 = .ok (.goto 4, 3) := by decide +kernel
theorem d_NumberRow_hasRoomFor_18 : decode b_NumberRow_hasRoomFor 18 = .ok (.iconst 0, 1) := by decide +kernel
theorem d_NumberRow_hasRoomFor_19 : decode b_NumberRow_hasRoomFor 19 = .ok (.ireturn, 1) := by decide +kernel
theorem d_NumberRow_putLast_0 : decode b_NumberRow_putLast 0 = .ok (.aload_n 0, 1) := by decide +kernel
theorem d_NumberRow_putLast_1 : decode b_NumberRow_putLast 1 = .ok (.aload_n 0, 1) := by decide +kernel
theorem d_NumberRow_putLast_2 : decode b_NumberRow_putLast 2 = .ok (.getfield 21, 3) := by decide +kernel
theorem d_NumberRow_putLast_5 : decode b_NumberRow_putLast 5 = .ok (.invokevirtual 25, 3) := by decide +kernel
theorem d_NumberRow_putLast_8 : decode b_NumberRow_putLast 8 = .ok (.istore_n 2, 1) := by decide +kernel
theorem d_NumberRow_putLast_9 : decode b_NumberRow_putLast 9 = .ok (.aload_n 0, 1) := by decide +kernel
theorem d_NumberRow_putLast_10 : decode b_NumberRow_putLast 10 = .ok (.getfield 21, 3) := by decide +kernel
theorem d_NumberRow_putLast_13 : decode b_NumberRow_putLast 13 = .ok (.aload_n 0, 1) := by decide +kernel
theorem d_NumberRow_putLast_14 : decode b_NumberRow_putLast 14 = .ok (.getfield 15, 3) := by decide +kernel
theorem d_NumberRow_putLast_17 : decode b_NumberRow_putLast 17 = .ok (.arraylength, 1) := by decide +kernel
theorem d_NumberRow_putLast_18 : decode b_NumberRow_putLast 18 = .ok (.if_icmp .ge 28, 3) := by decide +kernel
theorem d_NumberRow_putLast_21 : decode b_NumberRow_putLast 21 = .ok (.aload_n 0, 1) := by decide +kernel
theorem d_NumberRow_putLast_22 : decode b_NumberRow_putLast 22 = .ok (.iload_n 2, 1) := by decide +kernel
theorem d_NumberRow_putLast_23 : decode b_NumberRow_putLast 23 = .ok (.invokevirtual 29, 3) := by decide +kernel
theorem d_NumberRow_putLast_26 : decode b_NumberRow_putLast 26 = .ok (.ifCond .eq 20, 3) := by decide +kernel
theorem d_NumberRow_putLast_29 : decode b_NumberRow_putLast 29 = .ok (.aload_n 0, 1) := by decide +kernel
theorem d_NumberRow_putLast_30 : decode b_NumberRow_putLast 30 = .ok (.getfield 15, 3) := by decide +kernel
theorem d_NumberRow_putLast_33 : decode b_NumberRow_putLast 33 = .ok (.iload_n 2, 1) := by decide +kernel
theorem d_NumberRow_putLast_34 : decode b_NumberRow_putLast 34 = .ok (.iload_n 1, 1) := by decide +kernel
theorem d_NumberRow_putLast_35 : decode b_NumberRow_putLast 35 = .ok (.iastore, 1) := by decide +kernel
theorem d_NumberRow_putLast_36 : decode b_NumberRow_putLast 36 = .ok (.aload_n 0, 1) := by decide +kernel
theorem d_NumberRow_putLast_37 : decode b_NumberRow_putLast 37 = .ok (.dup, 1) := by decide +kernel
theorem d_NumberRow_putLast_38 : decode b_NumberRow_putLast 38 = .ok (.getfield 21, 3) := by decide +kernel
theorem d_NumberRow_putLast_41 : decode b_NumberRow_putLast 41 = .ok (.iconst 1, 1) := by decide +kernel
theorem d_NumberRow_putLast_42 : decode b_NumberRow_putLast 42 = .ok (.iadd, 1) := by decide +kernel
theorem d_NumberRow_putLast_43 : decode b_NumberRow_putLast 43 = .ok (.putfield 21, 3) := by decide +kernel
theorem d_NumberRow_putLast_46 : decode b_NumberRow_putLast 46 = .ok (.return_, 1) := by decide +kernel
theorem d_NumberRow_takeOldest_0 : decode b_NumberRow_takeOldest 0 = .ok (.aload_n 0, 1) := by decide +kernel
theorem d_NumberRow_takeOldest_1 : decode b_NumberRow_takeOldest 1 = .ok (.getfield 21, 3) := by decide +kernel
theorem d_NumberRow_takeOldest_4 : decode b_NumberRow_takeOldest 4 = .ok (.ifCond .ne 5, 3) := by decide +kernel
theorem d_NumberRow_takeOldest_7 : decode b_NumberRow_takeOldest 7 = .ok (.iconst (-1), 1) := by decide +kernel
theorem d_NumberRow_takeOldest_8 : decode b_NumberRow_takeOldest 8 = .ok (.ireturn, 1) := by decide +kernel
theorem d_NumberRow_takeOldest_9 : decode b_NumberRow_takeOldest 9 = .ok (.aload_n 0, 1) := by decide +kernel
theorem d_NumberRow_takeOldest_10 : decode b_NumberRow_takeOldest 10 = .ok (.aload_n 0, 1) := by decide +kernel
theorem d_NumberRow_takeOldest_11 : decode b_NumberRow_takeOldest 11 = .ok (.getfield 33, 3) := by decide +kernel
theorem d_NumberRow_takeOldest_14 : decode b_NumberRow_takeOldest 14 = .ok (.invokevirtual 36, 3) := by decide +kernel
theorem d_NumberRow_takeOldest_17 : decode b_NumberRow_takeOldest 17 = .ok (.istore_n 1, 1) := by decide +kernel
theorem d_NumberRow_takeOldest_18 : decode b_NumberRow_takeOldest 18 = .ok (.aload_n 0, 1) := by decide +kernel
theorem d_NumberRow_takeOldest_19 : decode b_NumberRow_takeOldest 19 = .ok (.aload_n 0, 1) := by decide +kernel
theorem d_NumberRow_takeOldest_20 : decode b_NumberRow_takeOldest 20 = .ok (.iconst 1, 1) := by decide +kernel
theorem d_NumberRow_takeOldest_21 : decode b_NumberRow_takeOldest 21 = .ok (.invokevirtual 25, 3) := by decide +kernel
theorem d_NumberRow_takeOldest_24 : decode b_NumberRow_takeOldest 24 = .ok (.putfield 33, 3) := by decide +kernel
theorem d_NumberRow_takeOldest_27 : decode b_NumberRow_takeOldest 27 = .ok (.aload_n 0, 1) := by decide +kernel
theorem d_NumberRow_takeOldest_28 : decode b_NumberRow_takeOldest 28 = .ok (.dup, 1) := by decide +kernel
theorem d_NumberRow_takeOldest_29 : decode b_NumberRow_takeOldest 29 = .ok (.getfield 21, 3) := by decide +kernel
theorem d_NumberRow_takeOldest_32 : decode b_NumberRow_takeOldest 32 = .ok (.iconst 1, 1) := by decide +kernel
theorem d_NumberRow_takeOldest_33 : decode b_NumberRow_takeOldest 33 = .ok (.isub, 1) := by decide +kernel
theorem d_NumberRow_takeOldest_34 : decode b_NumberRow_takeOldest 34 = .ok (.putfield 21, 3) := by decide +kernel
theorem d_NumberRow_takeOldest_37 : decode b_NumberRow_takeOldest 37 = .ok (.iload_n 1, 1) := by decide +kernel
theorem d_NumberRow_takeOldest_38 : decode b_NumberRow_takeOldest 38 = .ok (.ireturn, 1) := by decide +kernel
theorem d_NumberRow_takeLatest_0 : decode b_NumberRow_takeLatest 0 = .ok (.aload_n 0, 1) := by decide +kernel
theorem d_NumberRow_takeLatest_1 : decode b_NumberRow_takeLatest 1 = .ok (.getfield 21, 3) := by decide +kernel
theorem d_NumberRow_takeLatest_4 : decode b_NumberRow_takeLatest 4 = .ok (.ifCond .ne 5, 3) := by decide +kernel
theorem d_NumberRow_takeLatest_7 : decode b_NumberRow_takeLatest 7 = .ok (.iconst (-1), 1) := by decide +kernel
theorem d_NumberRow_takeLatest_8 : decode b_NumberRow_takeLatest 8 = .ok (.ireturn, 1) := by decide +kernel
theorem d_NumberRow_takeLatest_9 : decode b_NumberRow_takeLatest 9 = .ok (.aload_n 0, 1) := by decide +kernel
theorem d_NumberRow_takeLatest_10 : decode b_NumberRow_takeLatest 10 = .ok (.dup, 1) := by decide +kernel
theorem d_NumberRow_takeLatest_11 : decode b_NumberRow_takeLatest 11 = .ok (.getfield 21, 3) := by decide +kernel
theorem d_NumberRow_takeLatest_14 : decode b_NumberRow_takeLatest 14 = .ok (.iconst 1, 1) := by decide +kernel
theorem d_NumberRow_takeLatest_15 : decode b_NumberRow_takeLatest 15 = .ok (.isub, 1) := by decide +kernel
theorem d_NumberRow_takeLatest_16 : decode b_NumberRow_takeLatest 16 = .ok (.putfield 21, 3) := by decide +kernel
theorem d_NumberRow_takeLatest_19 : decode b_NumberRow_takeLatest 19 = .ok (.aload_n 0, 1) := by decide +kernel
theorem d_NumberRow_takeLatest_20 : decode b_NumberRow_takeLatest 20 = .ok (.aload_n 0, 1) := by decide +kernel
theorem d_NumberRow_takeLatest_21 : decode b_NumberRow_takeLatest 21 = .ok (.aload_n 0, 1) := by decide +kernel
theorem d_NumberRow_takeLatest_22 : decode b_NumberRow_takeLatest 22 = .ok (.getfield 21, 3) := by decide +kernel
theorem d_NumberRow_takeLatest_25 : decode b_NumberRow_takeLatest 25 = .ok (.invokevirtual 25, 3) := by decide +kernel
theorem d_NumberRow_takeLatest_28 : decode b_NumberRow_takeLatest 28 = .ok (.invokevirtual 36, 3) := by decide +kernel
theorem d_NumberRow_takeLatest_31 : decode b_NumberRow_takeLatest 31 = .ok (.ireturn, 1) := by decide +kernel
theorem d_NumberRow_clear_0 : decode b_NumberRow_clear 0 = .ok (.aload_n 0, 1) := by decide +kernel
theorem d_NumberRow_clear_1 : decode b_NumberRow_clear 1 = .ok (.iconst 0, 1) := by decide +kernel
theorem d_NumberRow_clear_2 : decode b_NumberRow_clear 2 = .ok (.putfield 21, 3) := by decide +kernel
theorem d_NumberRow_clear_5 : decode b_NumberRow_clear 5 = .ok (.return_, 1) := by decide +kernel
theorem d_NumberRow_numberAt_0 : decode b_NumberRow_numberAt 0 = .ok (.aload_n 0, 1) := by decide +kernel
theorem d_NumberRow_numberAt_1 : decode b_NumberRow_numberAt 1 = .ok (.iload_n 1, 1) := by decide +kernel
theorem d_NumberRow_numberAt_2 : decode b_NumberRow_numberAt 2 = .ok (.invokevirtual 29, 3) := by decide +kernel
theorem d_NumberRow_numberAt_5 : decode b_NumberRow_numberAt 5 = .ok (.ifCond .eq 12, 3) := by decide +kernel
theorem d_NumberRow_numberAt_8 : decode b_NumberRow_numberAt 8 = .ok (.aload_n 0, 1) := by decide +kernel
theorem d_NumberRow_numberAt_9 : decode b_NumberRow_numberAt 9 = .ok (.getfield 15, 3) := by decide +kernel
theorem d_NumberRow_numberAt_12 : decode b_NumberRow_numberAt 12 = .ok (.iload_n 1, 1) := by decide +kernel
theorem d_NumberRow_numberAt_13 : decode b_NumberRow_numberAt 13 = .ok (.iaload, 1) := by decide +kernel
theorem d_NumberRow_numberAt_14 : decode b_NumberRow_numberAt 14 = .ok (.goto 4, 3) := by decide +kernel
theorem d_NumberRow_numberAt_17 : decode b_NumberRow_numberAt 17 = .ok (.iconst (-1), 1) := by decide +kernel
theorem d_NumberRow_numberAt_18 : decode b_NumberRow_numberAt 18 = .ok (.ireturn, 1) := by decide +kernel
theorem d_NumberRow_isPlace_0 : decode b_NumberRow_isPlace 0 = .ok (.iload_n 1, 1) := by decide +kernel
theorem d_NumberRow_isPlace_1 : decode b_NumberRow_isPlace 1 = .ok (.ifCond .lt 16, 3) := by decide +kernel
theorem d_NumberRow_isPlace_4 : decode b_NumberRow_isPlace 4 = .ok (.iload_n 1, 1) := by decide +kernel
theorem d_NumberRow_isPlace_5 : decode b_NumberRow_isPlace 5 = .ok (.aload_n 0, 1) := by decide +kernel
theorem d_NumberRow_isPlace_6 : decode b_NumberRow_isPlace 6 = .ok (.getfield 15, 3) := by decide +kernel
theorem d_NumberRow_isPlace_9 : decode b_NumberRow_isPlace 9 = .ok (.arraylength, 1) := by decide +kernel
theorem d_NumberRow_isPlace_10 : decode b_NumberRow_isPlace 10 = .ok (.if_icmp .ge 7, 3) := by decide +kernel
theorem d_NumberRow_isPlace_13 : decode b_NumberRow_isPlace 13 = .ok (.iconst 1, 1) := by decide +kernel
theorem d_NumberRow_isPlace_14 : decode b_NumberRow_isPlace 14 = .ok (.goto 4, 3) := by decide +kernel
theorem d_NumberRow_isPlace_17 : decode b_NumberRow_isPlace 17 = .ok (.iconst 0, 1) := by decide +kernel
theorem d_NumberRow_isPlace_18 : decode b_NumberRow_isPlace 18 = .ok (.ireturn, 1) := by decide +kernel
theorem d_NumberRow_placeOf_0 : decode b_NumberRow_placeOf 0 = .ok (.aload_n 0, 1) := by decide +kernel
theorem d_NumberRow_placeOf_1 : decode b_NumberRow_placeOf 1 = .ok (.getfield 33, 3) := by decide +kernel
theorem d_NumberRow_placeOf_4 : decode b_NumberRow_placeOf 4 = .ok (.iload_n 1, 1) := by decide +kernel
theorem d_NumberRow_placeOf_5 : decode b_NumberRow_placeOf 5 = .ok (.iadd, 1) := by decide +kernel
theorem d_NumberRow_placeOf_6 : decode b_NumberRow_placeOf 6 = .ok (.istore_n 2, 1) := by decide +kernel
theorem d_NumberRow_placeOf_7 : decode b_NumberRow_placeOf 7 = .ok (.iload_n 2, 1) := by decide +kernel
theorem d_NumberRow_placeOf_8 : decode b_NumberRow_placeOf 8 = .ok (.aload_n 0, 1) := by decide +kernel
theorem d_NumberRow_placeOf_9 : decode b_NumberRow_placeOf 9 = .ok (.getfield 15, 3) := by decide +kernel
theorem d_NumberRow_placeOf_12 : decode b_NumberRow_placeOf 12 = .ok (.arraylength, 1) := by decide +kernel
theorem d_NumberRow_placeOf_13 : decode b_NumberRow_placeOf 13 = .ok (.if_icmp .lt 13, 3) := by decide +kernel
theorem d_NumberRow_placeOf_16 : decode b_NumberRow_placeOf 16 = .ok (.iload_n 2, 1) := by decide +kernel
theorem d_NumberRow_placeOf_17 : decode b_NumberRow_placeOf 17 = .ok (.aload_n 0, 1) := by decide +kernel
theorem d_NumberRow_placeOf_18 : decode b_NumberRow_placeOf 18 = .ok (.getfield 15, 3) := by decide +kernel
theorem d_NumberRow_placeOf_21 : decode b_NumberRow_placeOf 21 = .ok (.arraylength, 1) := by decide +kernel
theorem d_NumberRow_placeOf_22 : decode b_NumberRow_placeOf 22 = .ok (.isub, 1) := by decide +kernel
theorem d_NumberRow_placeOf_23 : decode b_NumberRow_placeOf 23 = .ok (.goto 4, 3) := by decide +kernel
theorem d_NumberRow_placeOf_26 : decode b_NumberRow_placeOf 26 = .ok (.iload_n 2, 1) := by decide +kernel
theorem d_NumberRow_placeOf_27 : decode b_NumberRow_placeOf 27 = .ok (.ireturn, 1) := by decide +kernel
theorem d_Programs_init_0 : decode b_Programs_init 0 = .ok (.aload_n 0, 1) := by decide +kernel
theorem d_Programs_init_1 : decode b_Programs_init 1 = .ok (.invokespecial 3, 3) := by decide +kernel
theorem d_Programs_init_4 : decode b_Programs_init 4 = .ok (.aload_n 0, 1) := by decide +kernel
theorem d_Programs_init_5 : decode b_Programs_init 5 = .ok (.bipush 64, 2) := by decide +kernel
theorem d_Programs_init_7 : decode b_Programs_init 7 = .ok (.newarray .int, 2) := by decide +kernel
theorem d_Programs_init_9 : decode b_Programs_init 9 = .ok (.putfield 11, 3) := by decide +kernel
theorem d_Programs_init_12 : decode b_Programs_init 12 = .ok (.aload_n 0, 1) := by decide +kernel
theorem d_Programs_init_13 : decode b_Programs_init 13 = .ok (.bipush 64, 2) := by decide +kernel
theorem d_Programs_init_15 : decode b_Programs_init 15 = .ok (.newarray .int, 2) := by decide +kernel
theorem d_Programs_init_17 : decode b_Programs_init 17 = .ok (.putfield 15, 3) := by decide +kernel
theorem d_Programs_init_20 : decode b_Programs_init 20 = .ok (.return_, 1) := by decide +kernel
theorem d_Programs_hasProgram_0 : decode b_Programs_hasProgram 0 = .ok (.iload_n 0, 1) := by decide +kernel
theorem d_Programs_hasProgram_1 : decode b_Programs_hasProgram 1 = .ok (.ifCond .lt 12, 3) := by decide +kernel
theorem d_Programs_hasProgram_4 : decode b_Programs_hasProgram 4 = .ok (.iload_n 0, 1) := by decide +kernel
theorem d_Programs_hasProgram_5 : decode b_Programs_hasProgram 5 = .ok (.iconst 4, 1) := by decide +kernel
theorem d_Programs_hasProgram_6 : decode b_Programs_hasProgram 6 = .ok (.if_icmp .ge 7, 3) := by decide +kernel
theorem d_Programs_hasProgram_9 : decode b_Programs_hasProgram 9 = .ok (.iconst 1, 1) := by decide +kernel
theorem d_Programs_hasProgram_10 : decode b_Programs_hasProgram 10 = .ok (.goto 4, 3) := by decide +kernel
theorem d_Programs_hasProgram_13 : decode b_Programs_hasProgram 13 = .ok (.iconst 0, 1) := by decide +kernel
theorem d_Programs_hasProgram_14 : decode b_Programs_hasProgram 14 = .ok (.ireturn, 1) := by decide +kernel
theorem d_Programs_hasLine_0 : decode b_Programs_hasLine 0 = .ok (.iload_n 0, 1) := by decide +kernel
theorem d_Programs_hasLine_1 : decode b_Programs_hasLine 1 = .ok (.ifCond .lt 13, 3) := by decide +kernel
theorem d_Programs_hasLine_4 : decode b_Programs_hasLine 4 = .ok (.iload_n 0, 1) := by decide +kernel
theorem d_Programs_hasLine_5 : decode b_Programs_hasLine 5 = .ok (.bipush 16, 2) := by decide +kernel
theorem d_Programs_hasLine_7 : decode b_Programs_hasLine 7 = .ok (.if_icmp .ge 7, 3) := by decide +kernel
theorem d_Programs_hasLine_10 : decode b_Programs_hasLine 10 = .ok (.iconst 1, 1) := by decide +kernel
theorem d_Programs_hasLine_11 : decode b_Programs_hasLine 11 = .ok (.goto 4, 3) := by decide +kernel
theorem d_Programs_hasLine_14 : decode b_Programs_hasLine 14 = .ok (.iconst 0, 1) := by decide +kernel
theorem d_Programs_hasLine_15 : decode b_Programs_hasLine 15 = .ok (.ireturn, 1) := by decide +kernel
theorem d_Programs_setLine_0 : decode b_Programs_setLine 0 = .ok (.iload_n 1, 1) := by decide +kernel
theorem d_Programs_setLine_1 : decode b_Programs_setLine 1 = .ok (.invokestatic 18, 3) := by decide +kernel
theorem d_Programs_setLine_4 : decode b_Programs_setLine 4 = .ok (.ifCond .eq 35, 3) := by decide +kernel
theorem d_Programs_setLine_7 : decode b_Programs_setLine 7 = .ok (.iload_n 2, 1) := by decide +kernel
theorem d_Programs_setLine_8 : decode b_Programs_setLine 8 = .ok (.invokestatic 22, 3) := by decide +kernel
theorem d_Programs_setLine_11 : decode b_Programs_setLine 11 = .ok (.ifCond .eq 28, 3) := by decide +kernel
theorem d_Programs_setLine_14 : decode b_Programs_setLine 14 = .ok (.aload_n 0, 1) := by decide +kernel
theorem d_Programs_setLine_15 : decode b_Programs_setLine 15 = .ok (.getfield 11, 3) := by decide +kernel
theorem d_Programs_setLine_18 : decode b_Programs_setLine 18 = .ok (.iload_n 1, 1) := by decide +kernel
theorem d_Programs_setLine_19 : decode b_Programs_setLine 19 = .ok (.bipush 16, 2) := by decide +kernel
theorem d_Programs_setLine_21 : decode b_Programs_setLine 21 = .ok (.imul, 1) := by decide +kernel
theorem d_Programs_setLine_22 : decode b_Programs_setLine 22 = .ok (.iload_n 2, 1) := by decide +kernel
theorem d_Programs_setLine_23 : decode b_Programs_setLine 23 = .ok (.iadd, 1) := by decide +kernel
theorem d_Programs_setLine_24 : decode b_Programs_setLine 24 = .ok (.iload_n 3, 1) := by decide +kernel
theorem d_Programs_setLine_25 : decode b_Programs_setLine 25 = .ok (.iastore, 1) := by decide +kernel
theorem d_Programs_setLine_26 : decode b_Programs_setLine 26 = .ok (.aload_n 0, 1) := by decide +kernel
theorem d_Programs_setLine_27 : decode b_Programs_setLine 27 = .ok (.getfield 15, 3) := by decide +kernel
theorem d_Programs_setLine_30 : decode b_Programs_setLine 30 = .ok (.iload_n 1, 1) := by decide +kernel
theorem d_Programs_setLine_31 : decode b_Programs_setLine 31 = .ok (.bipush 16, 2) := by decide +kernel
theorem d_Programs_setLine_33 : decode b_Programs_setLine 33 = .ok (.imul, 1) := by decide +kernel
theorem d_Programs_setLine_34 : decode b_Programs_setLine 34 = .ok (.iload_n 2, 1) := by decide +kernel
theorem d_Programs_setLine_35 : decode b_Programs_setLine 35 = .ok (.iadd, 1) := by decide +kernel
theorem d_Programs_setLine_36 : decode b_Programs_setLine 36 = .ok (.iload 4, 2) := by decide +kernel
theorem d_Programs_setLine_38 : decode b_Programs_setLine 38 = .ok (.iastore, 1) := by decide +kernel
theorem d_Programs_setLine_39 : decode b_Programs_setLine 39 = .ok (.return_, 1) := by decide +kernel
theorem d_Programs_opAt_0 : decode b_Programs_opAt 0 = .ok (.iload_n 1, 1) := by decide +kernel
theorem d_Programs_opAt_1 : decode b_Programs_opAt 1 = .ok (.invokestatic 18, 3) := by decide +kernel
theorem d_Programs_opAt_4 : decode b_Programs_opAt 4 = .ok (.ifCond .eq 10, 3) := by decide +kernel
theorem d_Programs_opAt_7 : decode b_Programs_opAt 7 = .ok (.iload_n 2, 1) := by decide +kernel
theorem d_Programs_opAt_8 : decode b_Programs_opAt 8 = .ok (.invokestatic 22, 3) := by decide +kernel
theorem d_Programs_opAt_11 : decode b_Programs_opAt 11 = .ok (.ifCond .ne 5, 3) := by decide +kernel
theorem d_Programs_opAt_14 : decode b_Programs_opAt 14 = .ok (.iconst 0, 1) := by decide +kernel
theorem d_Programs_opAt_15 : decode b_Programs_opAt 15 = .ok (.ireturn, 1) := by decide +kernel
theorem d_Programs_opAt_16 : decode b_Programs_opAt 16 = .ok (.aload_n 0, 1) := by decide +kernel
theorem d_Programs_opAt_17 : decode b_Programs_opAt 17 = .ok (.getfield 11, 3) := by decide +kernel
theorem d_Programs_opAt_20 : decode b_Programs_opAt 20 = .ok (.iload_n 1, 1) := by decide +kernel
theorem d_Programs_opAt_21 : decode b_Programs_opAt 21 = .ok (.bipush 16, 2) := by decide +kernel
theorem d_Programs_opAt_23 : decode b_Programs_opAt 23 = .ok (.imul, 1) := by decide +kernel
theorem d_Programs_opAt_24 : decode b_Programs_opAt 24 = .ok (.iload_n 2, 1) := by decide +kernel
theorem d_Programs_opAt_25 : decode b_Programs_opAt 25 = .ok (.iadd, 1) := by decide +kernel
theorem d_Programs_opAt_26 : decode b_Programs_opAt 26 = .ok (.iaload, 1) := by decide +kernel
theorem d_Programs_opAt_27 : decode b_Programs_opAt 27 = .ok (.istore_n 3, 1) := by decide +kernel
theorem d_Programs_opAt_28 : decode b_Programs_opAt 28 = .ok (.iload_n 3, 1) := by decide +kernel
theorem d_Programs_opAt_29 : decode b_Programs_opAt 29 = .ok (.ifCond .lt 9, 3) := by decide +kernel
theorem d_Programs_opAt_32 : decode b_Programs_opAt 32 = .ok (.iload_n 3, 1) := by decide +kernel
theorem d_Programs_opAt_33 : decode b_Programs_opAt 33 = .ok (.bipush 11, 2) := by decide +kernel
theorem d_Programs_opAt_35 : decode b_Programs_opAt 35 = .ok (.if_icmp .le 7, 3) := by decide +kernel
theorem d_Programs_opAt_38 : decode b_Programs_opAt 38 = .ok (.iconst 0, 1) := by decide +kernel
theorem d_Programs_opAt_39 : decode b_Programs_opAt 39 = .ok (.goto 4, 3) := by decide +kernel
theorem d_Programs_opAt_42 : decode b_Programs_opAt 42 = .ok (.iload_n 3, 1) := by decide +kernel
theorem d_Programs_opAt_43 : decode b_Programs_opAt 43 = .ok (.ireturn, 1) := by decide +kernel
theorem d_Programs_numberAt_0 : decode b_Programs_numberAt 0 = .ok (.iload_n 1, 1) := by decide +kernel
theorem d_Programs_numberAt_1 : decode b_Programs_numberAt 1 = .ok (.invokestatic 18, 3) := by decide +kernel
theorem d_Programs_numberAt_4 : decode b_Programs_numberAt 4 = .ok (.ifCond .eq 24, 3) := by decide +kernel
theorem d_Programs_numberAt_7 : decode b_Programs_numberAt 7 = .ok (.iload_n 2, 1) := by decide +kernel
theorem d_Programs_numberAt_8 : decode b_Programs_numberAt 8 = .ok (.invokestatic 22, 3) := by decide +kernel
theorem d_Programs_numberAt_11 : decode b_Programs_numberAt 11 = .ok (.ifCond .eq 17, 3) := by decide +kernel
theorem d_Programs_numberAt_14 : decode b_Programs_numberAt 14 = .ok (.aload_n 0, 1) := by decide +kernel
theorem d_Programs_numberAt_15 : decode b_Programs_numberAt 15 = .ok (.getfield 15, 3) := by decide +kernel
theorem d_Programs_numberAt_18 : decode b_Programs_numberAt 18 = .ok (.iload_n 1, 1) := by decide +kernel
theorem d_Programs_numberAt_19 : decode b_Programs_numberAt 19 = .ok (.bipush 16, 2) := by decide +kernel
theorem d_Programs_numberAt_21 : decode b_Programs_numberAt 21 = .ok (.imul, 1) := by decide +kernel
theorem d_Programs_numberAt_22 : decode b_Programs_numberAt 22 = .ok (.iload_n 2, 1) := by decide +kernel
theorem d_Programs_numberAt_23 : decode b_Programs_numberAt 23 = .ok (.iadd, 1) := by decide +kernel
theorem d_Programs_numberAt_24 : decode b_Programs_numberAt 24 = .ok (.iaload, 1) := by decide +kernel
theorem d_Programs_numberAt_25 : decode b_Programs_numberAt 25 = .ok (.goto 4, 3) := by decide +kernel
theorem d_Programs_numberAt_28 : decode b_Programs_numberAt 28 = .ok (.iconst 0, 1) := by decide +kernel
theorem d_Programs_numberAt_29 : decode b_Programs_numberAt 29 = .ok (.ireturn, 1) := by decide +kernel
theorem d_Terminal_init_0 : decode b_Terminal_init 0 = .ok (.aload_n 0, 1) := by decide +kernel
theorem d_Terminal_init_1 : decode b_Terminal_init 1 = .ok (.invokespecial 3, 3) := by decide +kernel
theorem d_Terminal_init_4 : decode b_Terminal_init 4 = .ok (.aload_n 0, 1) := by decide +kernel
theorem d_Terminal_init_5 : decode b_Terminal_init 5 = .ok (.new 9, 3) := by decide +kernel
theorem d_Terminal_init_8 : decode b_Terminal_init 8 = .ok (.dup, 1) := by decide +kernel
theorem d_Terminal_init_9 : decode b_Terminal_init 9 = .ok (.bipush 20, 2) := by decide +kernel
theorem d_Terminal_init_11 : decode b_Terminal_init 11 = .ok (.invokespecial 13, 3) := by decide +kernel
theorem d_Terminal_init_14 : decode b_Terminal_init 14 = .ok (.putfield 16, 3) := by decide +kernel
theorem d_Terminal_init_17 : decode b_Terminal_init 17 = .ok (.aload_n 0, 1) := by decide +kernel
theorem d_Terminal_init_18 : decode b_Terminal_init 18 = .ok (.new 9, 3) := by decide +kernel
theorem d_Terminal_init_21 : decode b_Terminal_init 21 = .ok (.dup, 1) := by decide +kernel
theorem d_Terminal_init_22 : decode b_Terminal_init 22 = .ok (.bipush 40, 2) := by decide +kernel
theorem d_Terminal_init_24 : decode b_Terminal_init 24 = .ok (.invokespecial 13, 3) := by decide +kernel
theorem d_Terminal_init_27 : decode b_Terminal_init 27 = .ok (.putfield 20, 3) := by decide +kernel
theorem d_Terminal_init_30 : decode b_Terminal_init 30 = .ok (.aload_n 0, 1) := by decide +kernel
theorem d_Terminal_init_31 : decode b_Terminal_init 31 = .ok (.new 23, 3) := by decide +kernel
theorem d_Terminal_init_34 : decode b_Terminal_init 34 = .ok (.dup, 1) := by decide +kernel
theorem d_Terminal_init_35 : decode b_Terminal_init 35 = .ok (.invokespecial 25, 3) := by decide +kernel
theorem d_Terminal_init_38 : decode b_Terminal_init 38 = .ok (.putfield 26, 3) := by decide +kernel
theorem d_Terminal_init_41 : decode b_Terminal_init 41 = .ok (.aload_n 0, 1) := by decide +kernel
theorem d_Terminal_init_42 : decode b_Terminal_init 42 = .ok (.bipush 47, 2) := by decide +kernel
theorem d_Terminal_init_44 : decode b_Terminal_init 44 = .ok (.putfield 30, 3) := by decide +kernel
theorem d_Terminal_init_47 : decode b_Terminal_init 47 = .ok (.aload_n 0, 1) := by decide +kernel
theorem d_Terminal_init_48 : decode b_Terminal_init 48 = .ok (.iconst 0, 1) := by decide +kernel
theorem d_Terminal_init_49 : decode b_Terminal_init 49 = .ok (.putfield 34, 3) := by decide +kernel
theorem d_Terminal_init_52 : decode b_Terminal_init 52 = .ok (.return_, 1) := by decide +kernel
theorem d_Terminal_has_0 : decode b_Terminal_has 0 = .ok (.aload_n 0, 1) := by decide +kernel
theorem d_Terminal_has_1 : decode b_Terminal_has 1 = .ok (.getfield 30, 3) := by decide +kernel
theorem d_Terminal_has_4 : decode b_Terminal_has 4 = .ok (.iload_n 1, 1) := by decide +kernel
theorem d_Terminal_has_5 : decode b_Terminal_has 5 = .ok (.iand, 1) := by decide +kernel
theorem d_Terminal_has_6 : decode b_Terminal_has 6 = .ok (.ifCond .eq 7, 3) := by decide +kernel
theorem d_Terminal_has_9 : decode b_Terminal_has 9 = .ok (.iconst 1, 1) := by decide +kernel
theorem d_Terminal_has_10 : decode b_Terminal_has 10 = .ok (.goto 4, 3) := by decide +kernel
theorem d_Terminal_has_13 : decode b_Terminal_has 13 = .ok (.iconst 0, 1) := by decide +kernel
theorem d_Terminal_has_14 : decode b_Terminal_has 14 = .ok (.ireturn, 1) := by decide +kernel
theorem d_Terminal_hangUp_0 : decode b_Terminal_hangUp 0 = .ok (.aload_n 0, 1) := by decide +kernel
theorem d_Terminal_hangUp_1 : decode b_Terminal_hangUp 1 = .ok (.iconst 1, 1) := by decide +kernel
theorem d_Terminal_hangUp_2 : decode b_Terminal_hangUp 2 = .ok (.putfield 34, 3) := by decide +kernel
theorem d_Terminal_hangUp_5 : decode b_Terminal_hangUp 5 = .ok (.aload_n 0, 1) := by decide +kernel
theorem d_Terminal_hangUp_6 : decode b_Terminal_hangUp 6 = .ok (.getfield 16, 3) := by decide +kernel
theorem d_Terminal_hangUp_9 : decode b_Terminal_hangUp 9 = .ok (.invokevirtual 38, 3) := by decide +kernel
theorem d_Terminal_hangUp_12 : decode b_Terminal_hangUp 12 = .ok (.aload_n 0, 1) := by decide +kernel
theorem d_Terminal_hangUp_13 : decode b_Terminal_hangUp 13 = .ok (.getfield 20, 3) := by decide +kernel
theorem d_Terminal_hangUp_16 : decode b_Terminal_hangUp 16 = .ok (.invokevirtual 38, 3) := by decide +kernel
theorem d_Terminal_hangUp_19 : decode b_Terminal_hangUp 19 = .ok (.return_, 1) := by decide +kernel
theorem d_Terminal_translate_0 : decode b_Terminal_translate 0 = .ok (.iload_n 1, 1) := by decide +kernel
theorem d_Terminal_translate_1 : decode b_Terminal_translate 1 = .ok (.bipush 13, 2) := by decide +kernel
theorem d_Terminal_translate_3 : decode b_Terminal_translate 3 = .ok (.if_icmp .ne 17, 3) := by decide +kernel
theorem d_Terminal_translate_6 : decode b_Terminal_translate 6 = .ok (.aload_n 0, 1) := by decide +kernel
theorem d_Terminal_translate_7 : decode b_Terminal_translate 7 = .ok (.bipush 8, 2) := by decide +kernel
theorem d_Terminal_translate_9 : decode b_Terminal_translate 9 = .ok (.invokevirtual 41, 3) := by decide +kernel
theorem d_Terminal_translate_12 : decode b_Terminal_translate 12 = .ok (.ifCond .eq 8, 3) := by decide +kernel
theorem d_Terminal_translate_15 : decode b_Terminal_translate 15 = .ok (.bipush 10, 2) := by decide +kernel
theorem d_Terminal_translate_17 : decode b_Terminal_translate 17 = .ok (.goto 4, 3) := by decide +kernel
theorem d_Terminal_translate_20 : decode b_Terminal_translate 20 = .ok (.iload_n 1, 1) := by decide +kernel
theorem d_Terminal_translate_21 : decode b_Terminal_translate 21 = .ok (.ireturn, 1) := by decide +kernel
theorem d_Terminal_signalFor_0 : decode b_Terminal_signalFor 0 = .ok (.aload_n 0, 1) := by decide +kernel
theorem d_Terminal_signalFor_1 : decode b_Terminal_signalFor 1 = .ok (.iconst 4, 1) := by decide +kernel
theorem d_Terminal_signalFor_2 : decode b_Terminal_signalFor 2 = .ok (.invokevirtual 41, 3) := by decide +kernel
theorem d_Terminal_signalFor_5 : decode b_Terminal_signalFor 5 = .ok (.ifCond .ne 5, 3) := by decide +kernel
theorem d_Terminal_signalFor_8 : decode b_Terminal_signalFor 8 = .ok (.iconst (-1), 1) := by decide +kernel
theorem d_Terminal_signalFor_9 : decode b_Terminal_signalFor 9 = .ok (.ireturn, 1) := by decide +kernel
theorem d_Terminal_signalFor_10 : decode b_Terminal_signalFor 10 = .ok (.iload_n 1, 1) := by decide +kernel
theorem d_Terminal_signalFor_11 : decode b_Terminal_signalFor 11 = .ok (.lookupswitch 40 #[(3, 33), (26, 37), (28, 35)], 33) := by decide +kernel
theorem d_Terminal_signalFor_44 : decode b_Terminal_signalFor 44 = .ok (.iconst 1, 1) := by decide +kernel
theorem d_Terminal_signalFor_45 : decode b_Terminal_signalFor 45 = .ok (.ireturn, 1) := by decide +kernel
theorem d_Terminal_signalFor_46 : decode b_Terminal_signalFor 46 = .ok (.iconst 2, 1) := by decide +kernel
theorem d_Terminal_signalFor_47 : decode b_Terminal_signalFor 47 = .ok (.ireturn, 1) := by decide +kernel
theorem d_Terminal_signalFor_48 : decode b_Terminal_signalFor 48 = .ok (.bipush 7, 2) := by decide +kernel
theorem d_Terminal_signalFor_50 : decode b_Terminal_signalFor 50 = .ok (.ireturn, 1) := by decide +kernel
theorem d_Terminal_signalFor_51 : decode b_Terminal_signalFor 51 = .ok (.iconst (-1), 1) := by decide +kernel
theorem d_Terminal_signalFor_52 : decode b_Terminal_signalFor 52 = .ok (.ireturn, 1) := by decide +kernel
theorem d_Terminal_dropEdit_0 : decode b_Terminal_dropEdit 0 = .ok (.aload_n 0, 1) := by decide +kernel
theorem d_Terminal_dropEdit_1 : decode b_Terminal_dropEdit 1 = .ok (.iload_n 1, 1) := by decide +kernel
theorem d_Terminal_dropEdit_2 : decode b_Terminal_dropEdit 2 = .ok (.invokevirtual 45, 3) := by decide +kernel
theorem d_Terminal_dropEdit_5 : decode b_Terminal_dropEdit 5 = .ok (.aload_n 0, 1) := by decide +kernel
theorem d_Terminal_dropEdit_6 : decode b_Terminal_dropEdit 6 = .ok (.getfield 16, 3) := by decide +kernel
theorem d_Terminal_dropEdit_9 : decode b_Terminal_dropEdit 9 = .ok (.invokevirtual 38, 3) := by decide +kernel
theorem d_Terminal_dropEdit_12 : decode b_Terminal_dropEdit 12 = .ok (.return_, 1) := by decide +kernel
theorem d_Terminal_type_0 : decode b_Terminal_type 0 = .ok (.aload_n 0, 1) := by decide +kernel
theorem d_Terminal_type_1 : decode b_Terminal_type 1 = .ok (.iconst 1, 1) := by decide +kernel
theorem d_Terminal_type_2 : decode b_Terminal_type 2 = .ok (.invokevirtual 41, 3) := by decide +kernel
theorem d_Terminal_type_5 : decode b_Terminal_type 5 = .ok (.ifCond .ne 9, 3) := by decide +kernel
theorem d_Terminal_type_8 : decode b_Terminal_type 8 = .ok (.aload_n 0, 1) := by decide +kernel
theorem d_Terminal_type_9 : decode b_Terminal_type 9 = .ok (.iload_n 1, 1) := by decide +kernel
theorem d_Terminal_type_10 : decode b_Terminal_type 10 = .ok (.invokevirtual 48, 3) := by decide +kernel
theorem d_Terminal_type_13 : decode b_Terminal_type 13 = .ok (.ireturn, 1) := by decide +kernel
theorem d_Terminal_type_14 : decode b_Terminal_type 14 = .ok (.iload_n 1, 1) := by decide +kernel
theorem d_Terminal_type_15 : decode b_Terminal_type 15 = .ok (.lookupswitch 66 #[(4, 56), (10, 61), (21, 48), (127, 41)], 41) := by decide +kernel
theorem d_Terminal_type_56 : decode b_Terminal_type 56 = .ok (.aload_n 0, 1) := by decide +kernel
theorem d_Terminal_type_57 : decode b_Terminal_type 57 = .ok (.iconst 1, 1) := by decide +kernel
theorem d_Terminal_type_58 : decode b_Terminal_type 58 = .ok (.invokevirtual 51, 3) := by decide +kernel
theorem d_Terminal_type_61 : decode b_Terminal_type 61 = .ok (.iconst 1, 1) := by decide +kernel
theorem d_Terminal_type_62 : decode b_Terminal_type 62 = .ok (.ireturn, 1) := by decide +kernel
theorem d_Terminal_type_63 : decode b_Terminal_type 63 = .ok (.aload_n 0, 1) := by decide +kernel
theorem d_Terminal_type_64 : decode b_Terminal_type 64 = .ok (.bipush 20, 2) := by decide +kernel
theorem d_Terminal_type_66 : decode b_Terminal_type 66 = .ok (.invokevirtual 51, 3) := by decide +kernel
theorem d_Terminal_type_69 : decode b_Terminal_type 69 = .ok (.iconst 1, 1) := by decide +kernel
theorem d_Terminal_type_70 : decode b_Terminal_type 70 = .ok (.ireturn, 1) := by decide +kernel
theorem d_Terminal_type_71 : decode b_Terminal_type 71 = .ok (.aload_n 0, 1) := by decide +kernel
theorem d_Terminal_type_72 : decode b_Terminal_type 72 = .ok (.invokevirtual 54, 3) := by decide +kernel
theorem d_Terminal_type_75 : decode b_Terminal_type 75 = .ok (.ireturn, 1) := by decide +kernel
theorem d_Terminal_type_76 : decode b_Terminal_type 76 = .ok (.aload_n 0, 1) := by decide +kernel
theorem d_Terminal_type_77 : decode b_Terminal_type 77 = .ok (.invokevirtual 58, 3) := by decide +kernel
theorem d_Terminal_type_80 : decode b_Terminal_type 80 = .ok (.ireturn, 1) := by decide +kernel
theorem d_Terminal_type_81 : decode b_Terminal_type 81 = .ok (.aload_n 0, 1) := by decide +kernel
theorem d_Terminal_type_82 : decode b_Terminal_type 82 = .ok (.iload_n 1, 1) := by decide +kernel
theorem d_Terminal_type_83 : decode b_Terminal_type 83 = .ok (.invokevirtual 61, 3) := by decide +kernel
theorem d_Terminal_type_86 : decode b_Terminal_type 86 = .ok (.ireturn, 1) := by decide +kernel
theorem d_Terminal_typeUnedited_0 : decode b_Terminal_typeUnedited 0 = .ok (.aload_n 0, 1) := by decide +kernel
theorem d_Terminal_typeUnedited_1 : decode b_Terminal_typeUnedited 1 = .ok (.getfield 20, 3) := by decide +kernel
theorem d_Terminal_typeUnedited_4 : decode b_Terminal_typeUnedited 4 = .ok (.iconst 1, 1) := by decide +kernel
theorem d_Terminal_typeUnedited_5 : decode b_Terminal_typeUnedited 5 = .ok (.invokevirtual 64, 3) := by decide +kernel
theorem d_Terminal_typeUnedited_8 : decode b_Terminal_typeUnedited 8 = .ok (.ifCond .ne 5, 3) := by decide +kernel
theorem d_Terminal_typeUnedited_11 : decode b_Terminal_typeUnedited 11 = .ok (.iconst 0, 1) := by decide +kernel
theorem d_Terminal_typeUnedited_12 : decode b_Terminal_typeUnedited 12 = .ok (.ireturn, 1) := by decide +kernel
theorem d_Terminal_typeUnedited_13 : decode b_Terminal_typeUnedited 13 = .ok (.aload_n 0, 1) := by decide +kernel
theorem d_Terminal_typeUnedited_14 : decode b_Terminal_typeUnedited 14 = .ok (.getfield 20, 3) := by decide +kernel
theorem d_Terminal_typeUnedited_17 : decode b_Terminal_typeUnedited 17 = .ok (.iload_n 1, 1) := by decide +kernel
theorem d_Terminal_typeUnedited_18 : decode b_Terminal_typeUnedited 18 = .ok (.invokevirtual 67, 3) := by decide +kernel
theorem d_Terminal_typeUnedited_21 : decode b_Terminal_typeUnedited 21 = .ok (.aload_n 0, 1) := by decide +kernel
theorem d_Terminal_typeUnedited_22 : decode b_Terminal_typeUnedited 22 = .ok (.iload_n 1, 1) := by decide +kernel
theorem d_Terminal_typeUnedited_23 : decode b_Terminal_typeUnedited 23 = .ok (.invokevirtual 45, 3) := by decide +kernel
theorem d_Terminal_typeUnedited_26 : decode b_Terminal_typeUnedited 26 = .ok (.iconst 1, 1) := by decide +kernel
theorem d_Terminal_typeUnedited_27 : decode b_Terminal_typeUnedited 27 = .ok (.ireturn, 1) := by decide +kernel
theorem d_Terminal_addToEdit_0 : decode b_Terminal_addToEdit 0 = .ok (.aload_n 0, 1) := by decide +kernel
theorem d_Terminal_addToEdit_1 : decode b_Terminal_addToEdit 1 = .ok (.getfield 16, 3) := by decide +kernel
theorem d_Terminal_addToEdit_4 : decode b_Terminal_addToEdit 4 = .ok (.iconst 1, 1) := by decide +kernel
theorem d_Terminal_addToEdit_5 : decode b_Terminal_addToEdit 5 = .ok (.invokevirtual 64, 3) := by decide +kernel
theorem d_Terminal_addToEdit_8 : decode b_Terminal_addToEdit 8 = .ok (.ifCond .ne 5, 3) := by decide +kernel
theorem d_Terminal_addToEdit_11 : decode b_Terminal_addToEdit 11 = .ok (.iconst 0, 1) := by decide +kernel
theorem d_Terminal_addToEdit_12 : decode b_Terminal_addToEdit 12 = .ok (.ireturn, 1) := by decide +kernel
theorem d_Terminal_addToEdit_13 : decode b_Terminal_addToEdit 13 = .ok (.aload_n 0, 1) := by decide +kernel
theorem d_Terminal_addToEdit_14 : decode b_Terminal_addToEdit 14 = .ok (.getfield 16, 3) := by decide +kernel
theorem d_Terminal_addToEdit_17 : decode b_Terminal_addToEdit 17 = .ok (.iload_n 1, 1) := by decide +kernel
theorem d_Terminal_addToEdit_18 : decode b_Terminal_addToEdit 18 = .ok (.invokevirtual 67, 3) := by decide +kernel
theorem d_Terminal_addToEdit_21 : decode b_Terminal_addToEdit 21 = .ok (.aload_n 0, 1) := by decide +kernel
theorem d_Terminal_addToEdit_22 : decode b_Terminal_addToEdit 22 = .ok (.iload_n 1, 1) := by decide +kernel
theorem d_Terminal_addToEdit_23 : decode b_Terminal_addToEdit 23 = .ok (.invokevirtual 45, 3) := by decide +kernel
theorem d_Terminal_addToEdit_26 : decode b_Terminal_addToEdit 26 = .ok (.iconst 1, 1) := by decide +kernel
theorem d_Terminal_addToEdit_27 : decode b_Terminal_addToEdit 27 = .ok (.ireturn, 1) := by decide +kernel
theorem d_Terminal_endInput_0 : decode b_Terminal_endInput 0 = .ok (.aload_n 0, 1) := by decide +kernel
theorem d_Terminal_endInput_1 : decode b_Terminal_endInput 1 = .ok (.getfield 16, 3) := by decide +kernel
theorem d_Terminal_endInput_4 : decode b_Terminal_endInput 4 = .ok (.getfield 70, 3) := by decide +kernel
theorem d_Terminal_endInput_7 : decode b_Terminal_endInput 7 = .ok (.ifCond .le 9, 3) := by decide +kernel
theorem d_Terminal_endInput_10 : decode b_Terminal_endInput 10 = .ok (.aload_n 0, 1) := by decide +kernel
theorem d_Terminal_endInput_11 : decode b_Terminal_endInput 11 = .ok (.iconst 0, 1) := by decide +kernel
theorem d_Terminal_endInput_12 : decode b_Terminal_endInput 12 = .ok (.invokevirtual 73, 3) := by decide +kernel
theorem d_Terminal_endInput_15 : decode b_Terminal_endInput 15 = .ok (.ireturn, 1) := by decide +kernel
theorem d_Terminal_endInput_16 : decode b_Terminal_endInput 16 = .ok (.aload_n 0, 1) := by decide +kernel
theorem d_Terminal_endInput_17 : decode b_Terminal_endInput 17 = .ok (.getfield 20, 3) := by decide +kernel
theorem d_Terminal_endInput_20 : decode b_Terminal_endInput 20 = .ok (.iconst 1, 1) := by decide +kernel
theorem d_Terminal_endInput_21 : decode b_Terminal_endInput 21 = .ok (.invokevirtual 64, 3) := by decide +kernel
theorem d_Terminal_endInput_24 : decode b_Terminal_endInput 24 = .ok (.ifCond .ne 5, 3) := by decide +kernel
theorem d_Terminal_endInput_27 : decode b_Terminal_endInput 27 = .ok (.iconst 0, 1) := by decide +kernel
theorem d_Terminal_endInput_28 : decode b_Terminal_endInput 28 = .ok (.ireturn, 1) := by decide +kernel
theorem d_Terminal_endInput_29 : decode b_Terminal_endInput 29 = .ok (.aload_n 0, 1) := by decide +kernel
theorem d_Terminal_endInput_30 : decode b_Terminal_endInput 30 = .ok (.getfield 20, 3) := by decide +kernel
theorem d_Terminal_endInput_33 : decode b_Terminal_endInput 33 = .ok (.iconst (-1), 1) := by decide +kernel
theorem d_Terminal_endInput_34 : decode b_Terminal_endInput 34 = .ok (.invokevirtual 67, 3) := by decide +kernel
theorem d_Terminal_endInput_37 : decode b_Terminal_endInput 37 = .ok (.iconst 1, 1) := by decide +kernel
theorem d_Terminal_endInput_38 : decode b_Terminal_endInput 38 = .ok (.ireturn, 1) := by decide +kernel
theorem d_Terminal_endLine_0 : decode b_Terminal_endLine 0 = .ok (.aload_n 0, 1) := by decide +kernel
theorem d_Terminal_endLine_1 : decode b_Terminal_endLine 1 = .ok (.iconst 1, 1) := by decide +kernel
theorem d_Terminal_endLine_2 : decode b_Terminal_endLine 2 = .ok (.invokevirtual 73, 3) := by decide +kernel
theorem d_Terminal_endLine_5 : decode b_Terminal_endLine 5 = .ok (.ifCond .ne 5, 3) := by decide +kernel
theorem d_Terminal_endLine_8 : decode b_Terminal_endLine 8 = .ok (.iconst 0, 1) := by decide +kernel
theorem d_Terminal_endLine_9 : decode b_Terminal_endLine 9 = .ok (.ireturn, 1) := by decide +kernel
theorem d_Terminal_endLine_10 : decode b_Terminal_endLine 10 = .ok (.aload_n 0, 1) := by decide +kernel
theorem d_Terminal_endLine_11 : decode b_Terminal_endLine 11 = .ok (.getfield 20, 3) := by decide +kernel
theorem d_Terminal_endLine_14 : decode b_Terminal_endLine 14 = .ok (.bipush 10, 2) := by decide +kernel
theorem d_Terminal_endLine_16 : decode b_Terminal_endLine 16 = .ok (.invokevirtual 67, 3) := by decide +kernel
theorem d_Terminal_endLine_19 : decode b_Terminal_endLine 19 = .ok (.aload_n 0, 1) := by decide +kernel
theorem d_Terminal_endLine_20 : decode b_Terminal_endLine 20 = .ok (.bipush 10, 2) := by decide +kernel
theorem d_Terminal_endLine_22 : decode b_Terminal_endLine 22 = .ok (.invokevirtual 45, 3) := by decide +kernel
theorem d_Terminal_endLine_25 : decode b_Terminal_endLine 25 = .ok (.iconst 1, 1) := by decide +kernel
theorem d_Terminal_endLine_26 : decode b_Terminal_endLine 26 = .ok (.ireturn, 1) := by decide +kernel
theorem d_Terminal_queueEdit_0 : decode b_Terminal_queueEdit 0 = .ok (.aload_n 0, 1) := by decide +kernel
theorem d_Terminal_queueEdit_1 : decode b_Terminal_queueEdit 1 = .ok (.getfield 20, 3) := by decide +kernel
theorem d_Terminal_queueEdit_4 : decode b_Terminal_queueEdit 4 = .ok (.aload_n 0, 1) := by decide +kernel
theorem d_Terminal_queueEdit_5 : decode b_Terminal_queueEdit 5 = .ok (.getfield 16, 3) := by decide +kernel
theorem d_Terminal_queueEdit_8 : decode b_Terminal_queueEdit 8 = .ok (.getfield 70, 3) := by decide +kernel
theorem d_Terminal_queueEdit_11 : decode b_Terminal_queueEdit 11 = .ok (.iload_n 1, 1) := by decide +kernel
theorem d_Terminal_queueEdit_12 : decode b_Terminal_queueEdit 12 = .ok (.iadd, 1) := by decide +kernel
theorem d_Terminal_queueEdit_13 : decode b_Terminal_queueEdit 13 = .ok (.invokevirtual 64, 3) := by decide +kernel
theorem d_Terminal_queueEdit_16 : decode b_Terminal_queueEdit 16 = .ok (.ifCond .ne 5, 3) := by decide +kernel
theorem d_Terminal_queueEdit_19 : decode b_Terminal_queueEdit 19 = .ok (.iconst 0, 1) := by decide +kernel
theorem d_Terminal_queueEdit_20 : decode b_Terminal_queueEdit 20 = .ok (.ireturn, 1) := by decide +kernel
theorem d_Terminal_queueEdit_21 : decode b_Terminal_queueEdit 21 = .ok (.iconst 0, 1) := by decide +kernel
theorem d_Terminal_queueEdit_22 : decode b_Terminal_queueEdit 22 = .ok (.istore_n 2, 1) := by decide +kernel
theorem d_Terminal_queueEdit_23 : decode b_Terminal_queueEdit 23 = .ok (.iload_n 2, 1) := by decide +kernel
theorem d_Terminal_queueEdit_24 : decode b_Terminal_queueEdit 24 = .ok (.bipush 20, 2) := by decide +kernel
theorem d_Terminal_queueEdit_26 : decode b_Terminal_queueEdit 26 = .ok (.if_icmp .ge 33, 3) := by decide +kernel
theorem d_Terminal_queueEdit_29 : decode b_Terminal_queueEdit 29 = .ok (.aload_n 0, 1) := by decide +kernel
theorem d_Terminal_queueEdit_30 : decode b_Terminal_queueEdit 30 = .ok (.getfield 16, 3) := by decide +kernel
theorem d_Terminal_queueEdit_33 : decode b_Terminal_queueEdit 33 = .ok (.getfield 70, 3) := by decide +kernel
theorem d_Terminal_queueEdit_36 : decode b_Terminal_queueEdit 36 = .ok (.ifCond .le 23, 3) := by decide +kernel
theorem d_Terminal_queueEdit_39 : decode b_Terminal_queueEdit 39 = .ok (.aload_n 0, 1) := by decide +kernel
theorem d_Terminal_queueEdit_40 : decode b_Terminal_queueEdit 40 = .ok (.getfield 20, 3) := by decide +kernel
theorem d_Terminal_queueEdit_43 : decode b_Terminal_queueEdit 43 = .ok (.aload_n 0, 1) := by decide +kernel
theorem d_Terminal_queueEdit_44 : decode b_Terminal_queueEdit 44 = .ok (.getfield 16, 3) := by decide +kernel
theorem d_Terminal_queueEdit_47 : decode b_Terminal_queueEdit 47 = .ok (.invokevirtual 76, 3) := by decide +kernel
theorem d_Terminal_queueEdit_50 : decode b_Terminal_queueEdit 50 = .ok (.invokevirtual 67, 3) := by decide +kernel
theorem d_Terminal_queueEdit_53 : decode b_Terminal_queueEdit 53 = .ok (.iinc 2 1, 3) := by decide +kernel
theorem d_Terminal_queueEdit_56 : decode b_Terminal_queueEdit 56 = .ok (.goto (-33), 3) := by decide +kernel
theorem d_Terminal_queueEdit_59 : decode b_Terminal_queueEdit 59 = .ok (.iconst 1, 1) := by decide +kernel
theorem d_Terminal_queueEdit_60 : decode b_Terminal_queueEdit 60 = .ok (.ireturn, 1) := by decide +kernel
theorem d_Terminal_rubOut_0 : decode b_Terminal_rubOut 0 = .ok (.iconst 0, 1) := by decide +kernel
theorem d_Terminal_rubOut_1 : decode b_Terminal_rubOut 1 = .ok (.istore_n 2, 1) := by decide +kernel
theorem d_Terminal_rubOut_2 : decode b_Terminal_rubOut 2 = .ok (.iload_n 2, 1) := by decide +kernel
theorem d_Terminal_rubOut_3 : decode b_Terminal_rubOut 3 = .ok (.iload_n 1, 1) := by decide +kernel
theorem d_Terminal_rubOut_4 : decode b_Terminal_rubOut 4 = .ok (.if_icmp .ge 49, 3) := by decide +kernel
theorem d_Terminal_rubOut_7 : decode b_Terminal_rubOut 7 = .ok (.aload_n 0, 1) := by decide +kernel
theorem d_Terminal_rubOut_8 : decode b_Terminal_rubOut 8 = .ok (.getfield 16, 3) := by decide +kernel
theorem d_Terminal_rubOut_11 : decode b_Terminal_rubOut 11 = .ok (.getfield 70, 3) := by decide +kernel
theorem d_Terminal_rubOut_14 : decode b_Terminal_rubOut 14 = .ok (.ifCond .le 39, 3) := by decide +kernel
theorem d_Terminal_rubOut_17 : decode b_Terminal_rubOut 17 = .ok (.aload_n 0, 1) := by decide +kernel
theorem d_Terminal_rubOut_18 : decode b_Terminal_rubOut 18 = .ok (.getfield 16, 3) := by decide +kernel
theorem d_Terminal_rubOut_21 : decode b_Terminal_rubOut 21 = .ok (.invokevirtual 80, 3) := by decide +kernel
theorem d_Terminal_rubOut_24 : decode b_Terminal_rubOut 24 = .ok (.istore_n 3, 1) := by decide +kernel
theorem d_Terminal_rubOut_25 : decode b_Terminal_rubOut 25 = .ok (.aload_n 0, 1) := by decide +kernel
theorem d_Terminal_rubOut_26 : decode b_Terminal_rubOut 26 = .ok (.iconst 2, 1) := by decide +kernel
theorem d_Terminal_rubOut_27 : decode b_Terminal_rubOut 27 = .ok (.invokevirtual 41, 3) := by decide +kernel
theorem d_Terminal_rubOut_30 : decode b_Terminal_rubOut 30 = .ok (.ifCond .eq 17, 3) := by decide +kernel
theorem d_Terminal_rubOut_33 : decode b_Terminal_rubOut 33 = .ok (.aload_n 0, 1) := by decide +kernel
theorem d_Terminal_rubOut_34 : decode b_Terminal_rubOut 34 = .ok (.invokevirtual 83, 3) := by decide +kernel
theorem d_Terminal_rubOut_37 : decode b_Terminal_rubOut 37 = .ok (.iload_n 3, 1) := by decide +kernel
theorem d_Terminal_rubOut_38 : decode b_Terminal_rubOut 38 = .ok (.bipush 32, 2) := by decide +kernel
theorem d_Terminal_rubOut_40 : decode b_Terminal_rubOut 40 = .ok (.if_icmp .ge 7, 3) := by decide +kernel
theorem d_Terminal_rubOut_43 : decode b_Terminal_rubOut 43 = .ok (.aload_n 0, 1) := by decide +kernel
theorem d_Terminal_rubOut_44 : decode b_Terminal_rubOut 44 = .ok (.invokevirtual 83, 3) := by decide +kernel
theorem d_Terminal_rubOut_47 : decode b_Terminal_rubOut 47 = .ok (.iinc 2 1, 3) := by decide +kernel
theorem d_Terminal_rubOut_50 : decode b_Terminal_rubOut 50 = .ok (.goto (-48), 3) := by decide +kernel
theorem d_Terminal_rubOut_53 : decode b_Terminal_rubOut 53 = .ok (.return_, 1) := by decide +kernel
theorem d_Terminal_showRubbing_0 : decode b_Terminal_showRubbing 0 = .ok (.aload_n 0, 1) := by decide +kernel
theorem d_Terminal_showRubbing_1 : decode b_Terminal_showRubbing 1 = .ok (.bipush 8, 2) := by decide +kernel
theorem d_Terminal_showRubbing_3 : decode b_Terminal_showRubbing 3 = .ok (.invokevirtual 86, 3) := by decide +kernel
theorem d_Terminal_showRubbing_6 : decode b_Terminal_showRubbing 6 = .ok (.aload_n 0, 1) := by decide +kernel
theorem d_Terminal_showRubbing_7 : decode b_Terminal_showRubbing 7 = .ok (.bipush 32, 2) := by decide +kernel
theorem d_Terminal_showRubbing_9 : decode b_Terminal_showRubbing 9 = .ok (.invokevirtual 86, 3) := by decide +kernel
theorem d_Terminal_showRubbing_12 : decode b_Terminal_showRubbing 12 = .ok (.aload_n 0, 1) := by decide +kernel
theorem d_Terminal_showRubbing_13 : decode b_Terminal_showRubbing 13 = .ok (.bipush 8, 2) := by decide +kernel
theorem d_Terminal_showRubbing_15 : decode b_Terminal_showRubbing 15 = .ok (.invokevirtual 86, 3) := by decide +kernel
theorem d_Terminal_showRubbing_18 : decode b_Terminal_showRubbing 18 = .ok (.return_, 1) := by decide +kernel
theorem d_Terminal_echo_0 : decode b_Terminal_echo 0 = .ok (.aload_n 0, 1) := by decide +kernel
theorem d_Terminal_echo_1 : decode b_Terminal_echo 1 = .ok (.iconst 2, 1) := by decide +kernel
theorem d_Terminal_echo_2 : decode b_Terminal_echo 2 = .ok (.invokevirtual 41, 3) := by decide +kernel
theorem d_Terminal_echo_5 : decode b_Terminal_echo 5 = .ok (.ifCond .ne 4, 3) := by decide +kernel
theorem d_Terminal_echo_8 : decode b_Terminal_echo 8 = .ok (.return_, 1) := by decide +kernel
theorem d_Terminal_echo_9 : decode b_Terminal_echo 9 = .ok (.iload_n 1, 1) := by decide +kernel
theorem d_Terminal_echo_10 : decode b_Terminal_echo 10 = .ok (.bipush 10, 2) := by decide +kernel
theorem d_Terminal_echo_12 : decode b_Terminal_echo 12 = .ok (.if_icmp .eq 15, 3) := by decide +kernel
theorem d_Terminal_echo_15 : decode b_Terminal_echo 15 = .ok (.iload_n 1, 1) := by decide +kernel
theorem d_Terminal_echo_16 : decode b_Terminal_echo 16 = .ok (.bipush 32, 2) := by decide +kernel
theorem d_Terminal_echo_18 : decode b_Terminal_echo 18 = .ok (.if_icmp .lt 15, 3) := by decide +kernel
theorem d_Terminal_echo_21 : decode b_Terminal_echo 21 = .ok (.iload_n 1, 1) := by decide +kernel
theorem d_Terminal_echo_22 : decode b_Terminal_echo 22 = .ok (.bipush 127, 2) := by decide +kernel
theorem d_Terminal_echo_24 : decode b_Terminal_echo 24 = .ok (.if_icmp .eq 9, 3) := by decide +kernel
theorem d_Terminal_echo_27 : decode b_Terminal_echo 27 = .ok (.aload_n 0, 1) := by decide +kernel
theorem d_Terminal_echo_28 : decode b_Terminal_echo 28 = .ok (.iload_n 1, 1) := by decide +kernel
theorem d_Terminal_echo_29 : decode b_Terminal_echo 29 = .ok (.invokevirtual 86, 3) := by decide +kernel
theorem d_Terminal_echo_32 : decode b_Terminal_echo 32 = .ok (.return_, 1) := by decide +kernel
theorem d_Terminal_echo_33 : decode b_Terminal_echo 33 = .ok (.aload_n 0, 1) := by decide +kernel
theorem d_Terminal_echo_34 : decode b_Terminal_echo 34 = .ok (.bipush 94, 2) := by decide +kernel
theorem d_Terminal_echo_36 : decode b_Terminal_echo 36 = .ok (.invokevirtual 86, 3) := by decide +kernel
theorem d_Terminal_echo_39 : decode b_Terminal_echo 39 = .ok (.aload_n 0, 1) := by decide +kernel
theorem d_Terminal_echo_40 : decode b_Terminal_echo 40 = .ok (.iload_n 1, 1) := by decide +kernel
theorem d_Terminal_echo_41 : decode b_Terminal_echo 41 = .ok (.bipush 127, 2) := by decide +kernel
theorem d_Terminal_echo_43 : decode b_Terminal_echo 43 = .ok (.if_icmp .ne 8, 3) := by decide +kernel
theorem d_Terminal_echo_46 : decode b_Terminal_echo 46 = .ok (.bipush 63, 2) := by decide +kernel
theorem d_Terminal_echo_48 : decode b_Terminal_echo 48 = .ok (.goto 7, 3) := by decide +kernel
theorem d_Terminal_echo_51 : decode b_Terminal_echo 51 = .ok (.bipush 64, 2) := by decide +kernel
theorem d_Terminal_echo_53 : decode b_Terminal_echo 53 = .ok (.iload_n 1, 1) := by decide +kernel
theorem d_Terminal_echo_54 : decode b_Terminal_echo 54 = .ok (.iadd, 1) := by decide +kernel
theorem d_Terminal_echo_55 : decode b_Terminal_echo 55 = .ok (.invokevirtual 86, 3) := by decide +kernel
theorem d_Terminal_echo_58 : decode b_Terminal_echo 58 = .ok (.return_, 1) := by decide +kernel
theorem d_Terminal_show_0 : decode b_Terminal_show 0 = .ok (.iload_n 1, 1) := by decide +kernel
theorem d_Terminal_show_1 : decode b_Terminal_show 1 = .ok (.bipush 10, 2) := by decide +kernel
theorem d_Terminal_show_3 : decode b_Terminal_show 3 = .ok (.if_icmp .ne 21, 3) := by decide +kernel
theorem d_Terminal_show_6 : decode b_Terminal_show 6 = .ok (.aload_n 0, 1) := by decide +kernel
theorem d_Terminal_show_7 : decode b_Terminal_show 7 = .ok (.bipush 32, 2) := by decide +kernel
theorem d_Terminal_show_9 : decode b_Terminal_show 9 = .ok (.invokevirtual 41, 3) := by decide +kernel
theorem d_Terminal_show_12 : decode b_Terminal_show 12 = .ok (.ifCond .eq 12, 3) := by decide +kernel
theorem d_Terminal_show_15 : decode b_Terminal_show 15 = .ok (.aload_n 0, 1) := by decide +kernel
theorem d_Terminal_show_16 : decode b_Terminal_show 16 = .ok (.getfield 26, 3) := by decide +kernel
theorem d_Terminal_show_19 : decode b_Terminal_show 19 = .ok (.bipush 13, 2) := by decide +kernel
theorem d_Terminal_show_21 : decode b_Terminal_show 21 = .ok (.invokevirtual 89, 3) := by decide +kernel
theorem d_Terminal_show_24 : decode b_Terminal_show 24 = .ok (.aload_n 0, 1) := by decide +kernel
theorem d_Terminal_show_25 : decode b_Terminal_show 25 = .ok (.getfield 26, 3) := by decide +kernel
theorem d_Terminal_show_28 : decode b_Terminal_show 28 = .ok (.iload_n 1, 1) := by decide +kernel
theorem d_Terminal_show_29 : decode b_Terminal_show 29 = .ok (.invokevirtual 89, 3) := by decide +kernel
theorem d_Terminal_show_32 : decode b_Terminal_show 32 = .ok (.return_, 1) := by decide +kernel
