theorem d_Mo_back_0 : decode b_Mo_back 0 = .ok (.aload_n 0, 1) := by decide +kernel
theorem d_Mo_back_1 : decode b_Mo_back 1 = .ok (.aload_n 0, 1) := by decide +kernel
theorem d_Mo_back_2 : decode b_Mo_back 2 = .ok (.iload_n 1, 1) := by decide +kernel
theorem d_Mo_back_3 : decode b_Mo_back 3 = .ok (.invokevirtual 147, 3) := by decide +kernel
theorem d_Mo_back_6 : decode b_Mo_back 6 = .ok (.ifCond .ne 7, 3) := by decide +kernel
theorem d_Mo_back_9 : decode b_Mo_back 9 = .ok (.iconst 1, 1) := by decide +kernel
theorem d_Mo_back_10 : decode b_Mo_back 10 = .ok (.goto 17, 3) := by decide +kernel
theorem d_Mo_back_13 : decode b_Mo_back 13 = .ok (.aload_n 0, 1) := by decide +kernel
theorem d_Mo_back_14 : decode b_Mo_back 14 = .ok (.iload_n 1, 1) := by decide +kernel
theorem d_Mo_back_15 : decode b_Mo_back 15 = .ok (.invokevirtual 87, 3) := by decide +kernel
theorem d_Mo_back_18 : decode b_Mo_back 18 = .ok (.iconst 3, 1) := by decide +kernel
theorem d_Mo_back_19 : decode b_Mo_back 19 = .ok (.if_icmp .ne 7, 3) := by decide +kernel
theorem d_Mo_back_22 : decode b_Mo_back 22 = .ok (.iconst 2, 1) := by decide +kernel
theorem d_Mo_back_23 : decode b_Mo_back 23 = .ok (.goto 4, 3) := by decide +kernel
theorem d_Mo_back_26 : decode b_Mo_back 26 = .ok (.iconst 0, 1) := by decide +kernel
theorem d_Mo_back_27 : decode b_Mo_back 27 = .ok (.putfield 84, 3) := by decide +kernel
theorem d_Mo_back_30 : decode b_Mo_back 30 = .ok (.aload_n 0, 1) := by decide +kernel
theorem d_Mo_back_31 : decode b_Mo_back 31 = .ok (.getfield 84, 3) := by decide +kernel
theorem d_Mo_back_34 : decode b_Mo_back 34 = .ok (.ifCond .le 5, 3) := by decide +kernel
theorem d_Mo_back_37 : decode b_Mo_back 37 = .ok (.iconst 0, 1) := by decide +kernel
theorem d_Mo_back_38 : decode b_Mo_back 38 = .ok (.ireturn, 1) := by decide +kernel
theorem d_Mo_back_39 : decode b_Mo_back 39 = .ok (.aload_n 0, 1) := by decide +kernel
theorem d_Mo_back_40 : decode b_Mo_back 40 = .ok (.aload_n 0, 1) := by decide +kernel
theorem d_Mo_back_41 : decode b_Mo_back 41 = .ok (.getfield 68, 3) := by decide +kernel
theorem d_Mo_back_44 : decode b_Mo_back 44 = .ok (.iload_n 1, 1) := by decide +kernel
theorem d_Mo_back_45 : decode b_Mo_back 45 = .ok (.if_icmp .ne 7, 3) := by decide +kernel
theorem d_Mo_back_48 : decode b_Mo_back 48 = .ok (.iconst (-1), 1) := by decide +kernel
theorem d_Mo_back_49 : decode b_Mo_back 49 = .ok (.goto 7, 3) := by decide +kernel
theorem d_Mo_back_52 : decode b_Mo_back 52 = .ok (.aload_n 0, 1) := by decide +kernel
theorem d_Mo_back_53 : decode b_Mo_back 53 = .ok (.getfield 68, 3) := by decide +kernel
theorem d_Mo_back_56 : decode b_Mo_back 56 = .ok (.putfield 68, 3) := by decide +kernel
theorem d_Mo_back_59 : decode b_Mo_back 59 = .ok (.aload_n 0, 1) := by decide +kernel
theorem d_Mo_back_60 : decode b_Mo_back 60 = .ok (.iload_n 1, 1) := by decide +kernel
theorem d_Mo_back_61 : decode b_Mo_back 61 = .ok (.invokevirtual 150, 3) := by decide +kernel
theorem d_Mo_back_64 : decode b_Mo_back 64 = .ok (.ireturn, 1) := by decide +kernel
theorem d_Mo_send_0 : decode b_Mo_send 0 = .ok (.aload_n 0, 1) := by decide +kernel
theorem d_Mo_send_1 : decode b_Mo_send 1 = .ok (.aload_n 0, 1) := by decide +kernel
theorem d_Mo_send_2 : decode b_Mo_send 2 = .ok (.iload_n 1, 1) := by decide +kernel
theorem d_Mo_send_3 : decode b_Mo_send 3 = .ok (.invokevirtual 147, 3) := by decide +kernel
theorem d_Mo_send_6 : decode b_Mo_send 6 = .ok (.ifCond .eq 13, 3) := by decide +kernel
theorem d_Mo_send_9 : decode b_Mo_send 9 = .ok (.iload_n 2, 1) := by decide +kernel
theorem d_Mo_send_10 : decode b_Mo_send 10 = .ok (.ifCond .lt 9, 3) := by decide +kernel
theorem d_Mo_send_13 : decode b_Mo_send 13 = .ok (.iload_n 2, 1) := by decide +kernel
theorem d_Mo_send_14 : decode b_Mo_send 14 = .ok (.bipush 9, 2) := by decide +kernel
theorem d_Mo_send_16 : decode b_Mo_send 16 = .ok (.if_icmp .le 7, 3) := by decide +kernel
theorem d_Mo_send_19 : decode b_Mo_send 19 = .ok (.iconst 1, 1) := by decide +kernel
theorem d_Mo_send_20 : decode b_Mo_send 20 = .ok (.goto 4, 3) := by decide +kernel
theorem d_Mo_send_23 : decode b_Mo_send 23 = .ok (.iconst 0, 1) := by decide +kernel
theorem d_Mo_send_24 : decode b_Mo_send 24 = .ok (.putfield 84, 3) := by decide +kernel
theorem d_Mo_send_27 : decode b_Mo_send 27 = .ok (.aload_n 0, 1) := by decide +kernel
theorem d_Mo_send_28 : decode b_Mo_send 28 = .ok (.getfield 84, 3) := by decide +kernel
theorem d_Mo_send_31 : decode b_Mo_send 31 = .ok (.ifCond .le 5, 3) := by decide +kernel
theorem d_Mo_send_34 : decode b_Mo_send 34 = .ok (.iconst 0, 1) := by decide +kernel
theorem d_Mo_send_35 : decode b_Mo_send 35 = .ok (.ireturn, 1) := by decide +kernel
theorem d_Mo_send_36 : decode b_Mo_send 36 = .ok (.aload_n 0, 1) := by decide +kernel
theorem d_Mo_send_37 : decode b_Mo_send 37 = .ok (.iload_n 1, 1) := by decide +kernel
theorem d_Mo_send_38 : decode b_Mo_send 38 = .ok (.iload_n 2, 1) := by decide +kernel
theorem d_Mo_send_39 : decode b_Mo_send 39 = .ok (.invokevirtual 125, 3) := by decide +kernel
theorem d_Mo_send_42 : decode b_Mo_send 42 = .ok (.aload_n 0, 1) := by decide +kernel
theorem d_Mo_send_43 : decode b_Mo_send 43 = .ok (.invokevirtual 134, 3) := by decide +kernel
theorem d_Mo_send_46 : decode b_Mo_send 46 = .ok (.aload_n 0, 1) := by decide +kernel
theorem d_Mo_send_47 : decode b_Mo_send 47 = .ok (.iload_n 1, 1) := by decide +kernel
theorem d_Mo_send_48 : decode b_Mo_send 48 = .ok (.invokevirtual 87, 3) := by decide +kernel
theorem d_Mo_send_51 : decode b_Mo_send 51 = .ok (.ireturn, 1) := by decide +kernel
theorem d_Mo_report_0 : decode b_Mo_report 0 = .ok (.aload_n 0, 1) := by decide +kernel
theorem d_Mo_report_1 : decode b_Mo_report 1 = .ok (.iconst 0, 1) := by decide +kernel
theorem d_Mo_report_2 : decode b_Mo_report 2 = .ok (.putfield 84, 3) := by decide +kernel
theorem d_Mo_report_5 : decode b_Mo_report 5 = .ok (.iconst 0, 1) := by decide +kernel
theorem d_Mo_report_6 : decode b_Mo_report 6 = .ok (.istore_n 1, 1) := by decide +kernel
theorem d_Mo_report_7 : decode b_Mo_report 7 = .ok (.iload_n 1, 1) := by decide +kernel
theorem d_Mo_report_8 : decode b_Mo_report 8 = .ok (.iconst 4, 1) := by decide +kernel
theorem d_Mo_report_9 : decode b_Mo_report 9 = .ok (.if_icmp .ge 27, 3) := by decide +kernel
theorem d_Mo_report_12 : decode b_Mo_report 12 = .ok (.aload_n 0, 1) := by decide +kernel
theorem d_Mo_report_13 : decode b_Mo_report 13 = .ok (.getfield 46, 3) := by decide +kernel
theorem d_Mo_report_16 : decode b_Mo_report 16 = .ok (.iload_n 1, 1) := by decide +kernel
theorem d_Mo_report_17 : decode b_Mo_report 17 = .ok (.baload, 1) := by decide +kernel
theorem d_Mo_report_18 : decode b_Mo_report 18 = .ok (.ifCond .eq 12, 3) := by decide +kernel
theorem d_Mo_report_21 : decode b_Mo_report 21 = .ok (.aload_n 0, 1) := by decide +kernel
theorem d_Mo_report_22 : decode b_Mo_report 22 = .ok (.getfield 59, 3) := by decide +kernel
theorem d_Mo_report_25 : decode b_Mo_report 25 = .ok (.iload_n 1, 1) := by decide +kernel
theorem d_Mo_report_26 : decode b_Mo_report 26 = .ok (.baload, 1) := by decide +kernel
theorem d_Mo_report_27 : decode b_Mo_report 27 = .ok (.ifCond .ne 9, 3) := by decide +kernel
theorem d_Mo_report_30 : decode b_Mo_report 30 = .ok (.iinc 1 1, 3) := by decide +kernel
theorem d_Mo_report_33 : decode b_Mo_report 33 = .ok (.goto (-26), 3) := by decide +kernel
theorem d_Mo_report_36 : decode b_Mo_report 36 = .ok (.iload_n 1, 1) := by decide +kernel
theorem d_Mo_report_37 : decode b_Mo_report 37 = .ok (.iconst 4, 1) := by decide +kernel
theorem d_Mo_report_38 : decode b_Mo_report 38 = .ok (.if_icmp .ne 5, 3) := by decide +kernel
theorem d_Mo_report_41 : decode b_Mo_report 41 = .ok (.iconst (-1), 1) := by decide +kernel
theorem d_Mo_report_42 : decode b_Mo_report 42 = .ok (.ireturn, 1) := by decide +kernel
theorem d_Mo_report_43 : decode b_Mo_report 43 = .ok (.aload_n 0, 1) := by decide +kernel
theorem d_Mo_report_44 : decode b_Mo_report 44 = .ok (.getfield 59, 3) := by decide +kernel
theorem d_Mo_report_47 : decode b_Mo_report 47 = .ok (.iload_n 1, 1) := by decide +kernel
theorem d_Mo_report_48 : decode b_Mo_report 48 = .ok (.iconst 0, 1) := by decide +kernel
theorem d_Mo_report_49 : decode b_Mo_report 49 = .ok (.bastore, 1) := by decide +kernel
theorem d_Mo_report_50 : decode b_Mo_report 50 = .ok (.aload_n 0, 1) := by decide +kernel
theorem d_Mo_report_51 : decode b_Mo_report 51 = .ok (.iload_n 1, 1) := by decide +kernel
theorem d_Mo_report_52 : decode b_Mo_report 52 = .ok (.invokevirtual 87, 3) := by decide +kernel
theorem d_Mo_report_55 : decode b_Mo_report 55 = .ok (.istore_n 2, 1) := by decide +kernel
theorem d_Mo_report_56 : decode b_Mo_report 56 = .ok (.iload_n 2, 1) := by decide +kernel
theorem d_Mo_report_57 : decode b_Mo_report 57 = .ok (.iconst 3, 1) := by decide +kernel
theorem d_Mo_report_58 : decode b_Mo_report 58 = .ok (.if_icmp .ne 43, 3) := by decide +kernel
theorem d_Mo_report_61 : decode b_Mo_report 61 = .ok (.aload_n 0, 1) := by decide +kernel
theorem d_Mo_report_62 : decode b_Mo_report 62 = .ok (.getfield 46, 3) := by decide +kernel
theorem d_Mo_report_65 : decode b_Mo_report 65 = .ok (.iload_n 1, 1) := by decide +kernel
theorem d_Mo_report_66 : decode b_Mo_report 66 = .ok (.iconst 0, 1) := by decide +kernel
theorem d_Mo_report_67 : decode b_Mo_report 67 = .ok (.bastore, 1) := by decide +kernel
theorem d_Mo_report_68 : decode b_Mo_report 68 = .ok (.aload_n 0, 1) := by decide +kernel
theorem d_Mo_report_69 : decode b_Mo_report 69 = .ok (.getfield 16, 3) := by decide +kernel
theorem d_Mo_report_72 : decode b_Mo_report 72 = .ok (.aload_n 0, 1) := by decide +kernel
theorem d_Mo_report_73 : decode b_Mo_report 73 = .ok (.getfield 50, 3) := by decide +kernel
theorem d_Mo_report_76 : decode b_Mo_report 76 = .ok (.iload_n 1, 1) := by decide +kernel
theorem d_Mo_report_77 : decode b_Mo_report 77 = .ok (.iaload, 1) := by decide +kernel
theorem d_Mo_report_78 : decode b_Mo_report 78 = .ok (.iconst 0, 1) := by decide +kernel
theorem d_Mo_report_79 : decode b_Mo_report 79 = .ok (.iastore, 1) := by decide +kernel
theorem d_Mo_report_80 : decode b_Mo_report 80 = .ok (.aload_n 0, 1) := by decide +kernel
theorem d_Mo_report_81 : decode b_Mo_report 81 = .ok (.getfield 53, 3) := by decide +kernel
theorem d_Mo_report_84 : decode b_Mo_report 84 = .ok (.iload_n 1, 1) := by decide +kernel
theorem d_Mo_report_85 : decode b_Mo_report 85 = .ok (.iaload, 1) := by decide +kernel
theorem d_Mo_report_86 : decode b_Mo_report 86 = .ok (.ifCond .lt 15, 3) := by decide +kernel
theorem d_Mo_report_89 : decode b_Mo_report 89 = .ok (.aload_n 0, 1) := by decide +kernel
theorem d_Mo_report_90 : decode b_Mo_report 90 = .ok (.getfield 16, 3) := by decide +kernel
theorem d_Mo_report_93 : decode b_Mo_report 93 = .ok (.aload_n 0, 1) := by decide +kernel
theorem d_Mo_report_94 : decode b_Mo_report 94 = .ok (.getfield 53, 3) := by decide +kernel
theorem d_Mo_report_97 : decode b_Mo_report 97 = .ok (.iload_n 1, 1) := by decide +kernel
theorem d_Mo_report_98 : decode b_Mo_report 98 = .ok (.iaload, 1) := by decide +kernel
theorem d_Mo_report_99 : decode b_Mo_report 99 = .ok (.iconst 0, 1) := by decide +kernel
theorem d_Mo_report_100 : decode b_Mo_report 100 = .ok (.iastore, 1) := by decide +kernel
theorem d_Mo_report_101 : decode b_Mo_report 101 = .ok (.iconst 4, 1) := by decide +kernel
theorem d_Mo_report_102 : decode b_Mo_report 102 = .ok (.iload_n 1, 1) := by decide +kernel
theorem d_Mo_report_103 : decode b_Mo_report 103 = .ok (.imul, 1) := by decide +kernel
theorem d_Mo_report_104 : decode b_Mo_report 104 = .ok (.iload_n 2, 1) := by decide +kernel
theorem d_Mo_report_105 : decode b_Mo_report 105 = .ok (.iadd, 1) := by decide +kernel
theorem d_Mo_report_106 : decode b_Mo_report 106 = .ok (.ireturn, 1) := by decide +kernel
theorem d_Mo_hang_0 : decode b_Mo_hang 0 = .ok (.aload_n 0, 1) := by decide +kernel
theorem d_Mo_hang_1 : decode b_Mo_hang 1 = .ok (.iconst 0, 1) := by decide +kernel
theorem d_Mo_hang_2 : decode b_Mo_hang 2 = .ok (.putfield 84, 3) := by decide +kernel
theorem d_Mo_hang_5 : decode b_Mo_hang 5 = .ok (.aload_n 0, 1) := by decide +kernel
theorem d_Mo_hang_6 : decode b_Mo_hang 6 = .ok (.getfield 153, 3) := by decide +kernel
theorem d_Mo_hang_9 : decode b_Mo_hang 9 = .ok (.ifCond .eq 5, 3) := by decide +kernel
theorem d_Mo_hang_12 : decode b_Mo_hang 12 = .ok (.iconst 0, 1) := by decide +kernel
theorem d_Mo_hang_13 : decode b_Mo_hang 13 = .ok (.ireturn, 1) := by decide +kernel
theorem d_Mo_hang_14 : decode b_Mo_hang 14 = .ok (.aload_n 0, 1) := by decide +kernel
theorem d_Mo_hang_15 : decode b_Mo_hang 15 = .ok (.iconst 1, 1) := by decide +kernel
theorem d_Mo_hang_16 : decode b_Mo_hang 16 = .ok (.putfield 153, 3) := by decide +kernel
theorem d_Mo_hang_19 : decode b_Mo_hang 19 = .ok (.aload_n 0, 1) := by decide +kernel
theorem d_Mo_hang_20 : decode b_Mo_hang 20 = .ok (.iconst 0, 1) := by decide +kernel
theorem d_Mo_hang_21 : decode b_Mo_hang 21 = .ok (.putfield 119, 3) := by decide +kernel
theorem d_Mo_hang_24 : decode b_Mo_hang 24 = .ok (.aload_n 0, 1) := by decide +kernel
theorem d_Mo_hang_25 : decode b_Mo_hang 25 = .ok (.iconst 0, 1) := by decide +kernel
theorem d_Mo_hang_26 : decode b_Mo_hang 26 = .ok (.putfield 122, 3) := by decide +kernel
theorem d_Mo_hang_29 : decode b_Mo_hang 29 = .ok (.aload_n 0, 1) := by decide +kernel
theorem d_Mo_hang_30 : decode b_Mo_hang 30 = .ok (.getfield 68, 3) := by decide +kernel
theorem d_Mo_hang_33 : decode b_Mo_hang 33 = .ok (.istore_n 1, 1) := by decide +kernel
theorem d_Mo_hang_34 : decode b_Mo_hang 34 = .ok (.iload_n 1, 1) := by decide +kernel
theorem d_Mo_hang_35 : decode b_Mo_hang 35 = .ok (.ifCond .lt 15, 3) := by decide +kernel
theorem d_Mo_hang_38 : decode b_Mo_hang 38 = .ok (.aload_n 0, 1) := by decide +kernel
theorem d_Mo_hang_39 : decode b_Mo_hang 39 = .ok (.iload_n 1, 1) := by decide +kernel
theorem d_Mo_hang_40 : decode b_Mo_hang 40 = .ok (.iconst 0, 1) := by decide +kernel
theorem d_Mo_hang_41 : decode b_Mo_hang 41 = .ok (.invokevirtual 125, 3) := by decide +kernel
theorem d_Mo_hang_44 : decode b_Mo_hang 44 = .ok (.aload_n 0, 1) := by decide +kernel
theorem d_Mo_hang_45 : decode b_Mo_hang 45 = .ok (.iload_n 1, 1) := by decide +kernel
theorem d_Mo_hang_46 : decode b_Mo_hang 46 = .ok (.iconst 5, 1) := by decide +kernel
theorem d_Mo_hang_47 : decode b_Mo_hang 47 = .ok (.invokevirtual 125, 3) := by decide +kernel
theorem d_Mo_hang_50 : decode b_Mo_hang 50 = .ok (.iconst 0, 1) := by decide +kernel
theorem d_Mo_hang_51 : decode b_Mo_hang 51 = .ok (.istore_n 2, 1) := by decide +kernel
theorem d_Mo_hang_52 : decode b_Mo_hang 52 = .ok (.iload_n 2, 1) := by decide +kernel
theorem d_Mo_hang_53 : decode b_Mo_hang 53 = .ok (.iconst 4, 1) := by decide +kernel
theorem d_Mo_hang_54 : decode b_Mo_hang 54 = .ok (.if_icmp .ge 44, 3) := by decide +kernel
theorem d_Mo_hang_57 : decode b_Mo_hang 57 = .ok (.aload_n 0, 1) := by decide +kernel
theorem d_Mo_hang_58 : decode b_Mo_hang 58 = .ok (.getfield 46, 3) := by decide +kernel
theorem d_Mo_hang_61 : decode b_Mo_hang 61 = .ok (.iload_n 2, 1) := by decide +kernel
theorem d_Mo_hang_62 : decode b_Mo_hang 62 = .ok (.baload, 1) := by decide +kernel
theorem d_Mo_hang_63 : decode b_Mo_hang 63 = .ok (.ifCond .eq 29, 3) := by decide +kernel
theorem d_Mo_hang_66 : decode b_Mo_hang 66 = .ok (.iload_n 2, 1) := by decide +kernel
theorem d_Mo_hang_67 : decode b_Mo_hang 67 = .ok (.iload_n 1, 1) := by decide +kernel
theorem d_Mo_hang_68 : decode b_Mo_hang 68 = .ok (.if_icmp .eq 24, 3) := by decide +kernel
theorem d_Mo_hang_71 : decode b_Mo_hang 71 = .ok (.aload_n 0, 1) := by decide +kernel
theorem d_Mo_hang_72 : decode b_Mo_hang 72 = .ok (.iload_n 2, 1) := by decide +kernel
theorem d_Mo_hang_73 : decode b_Mo_hang 73 = .ok (.invokevirtual 87, 3) := by decide +kernel
theorem d_Mo_hang_76 : decode b_Mo_hang 76 = .ok (.iconst 2, 1) := by decide +kernel
theorem d_Mo_hang_77 : decode b_Mo_hang 77 = .ok (.if_icmp .ne 15, 3) := by decide +kernel
theorem d_Mo_hang_80 : decode b_Mo_hang 80 = .ok (.aload_n 0, 1) := by decide +kernel
theorem d_Mo_hang_81 : decode b_Mo_hang 81 = .ok (.iload_n 2, 1) := by decide +kernel
theorem d_Mo_hang_82 : decode b_Mo_hang 82 = .ok (.iconst 0, 1) := by decide +kernel
theorem d_Mo_hang_83 : decode b_Mo_hang 83 = .ok (.invokevirtual 125, 3) := by decide +kernel
theorem d_Mo_hang_86 : decode b_Mo_hang 86 = .ok (.aload_n 0, 1) := by decide +kernel
theorem d_Mo_hang_87 : decode b_Mo_hang 87 = .ok (.iload_n 2, 1) := by decide +kernel
theorem d_Mo_hang_88 : decode b_Mo_hang 88 = .ok (.iconst 5, 1) := by decide +kernel
theorem d_Mo_hang_89 : decode b_Mo_hang 89 = .ok (.invokevirtual 125, 3) := by decide +kernel
theorem d_Mo_hang_92 : decode b_Mo_hang 92 = .ok (.iinc 2 1, 3) := by decide +kernel
theorem d_Mo_hang_95 : decode b_Mo_hang 95 = .ok (.goto (-43), 3) := by decide +kernel
theorem d_Mo_hang_98 : decode b_Mo_hang 98 = .ok (.aload_n 0, 1) := by decide +kernel
theorem d_Mo_hang_99 : decode b_Mo_hang 99 = .ok (.invokevirtual 134, 3) := by decide +kernel
theorem d_Mo_hang_102 : decode b_Mo_hang 102 = .ok (.iconst 1, 1) := by decide +kernel
theorem d_Mo_hang_103 : decode b_Mo_hang 103 = .ok (.ireturn, 1) := by decide +kernel
theorem d_Mo_opOf_0 : decode b_Mo_opOf 0 = .ok (.aload_n 0, 1) := by decide +kernel
theorem d_Mo_opOf_1 : decode b_Mo_opOf 1 = .ok (.getfield 25, 3) := by decide +kernel
theorem d_Mo_opOf_4 : decode b_Mo_opOf 4 = .ok (.iload_n 1, 1) := by decide +kernel
theorem d_Mo_opOf_5 : decode b_Mo_opOf 5 = .ok (.iaload, 1) := by decide +kernel
theorem d_Mo_opOf_6 : decode b_Mo_opOf 6 = .ok (.bipush 15, 2) := by decide +kernel
theorem d_Mo_opOf_8 : decode b_Mo_opOf 8 = .ok (.if_icmp .le 7, 3) := by decide +kernel
theorem d_Mo_opOf_11 : decode b_Mo_opOf 11 = .ok (.iconst 0, 1) := by decide +kernel
theorem d_Mo_opOf_12 : decode b_Mo_opOf 12 = .ok (.goto 24, 3) := by decide +kernel
theorem d_Mo_opOf_15 : decode b_Mo_opOf 15 = .ok (.aload_n 0, 1) := by decide +kernel
theorem d_Mo_opOf_16 : decode b_Mo_opOf 16 = .ok (.getfield 7, 3) := by decide +kernel
theorem d_Mo_opOf_19 : decode b_Mo_opOf 19 = .ok (.bipush 16, 2) := by decide +kernel
theorem d_Mo_opOf_21 : decode b_Mo_opOf 21 = .ok (.aload_n 0, 1) := by decide +kernel
theorem d_Mo_opOf_22 : decode b_Mo_opOf 22 = .ok (.getfield 22, 3) := by decide +kernel
theorem d_Mo_opOf_25 : decode b_Mo_opOf 25 = .ok (.iload_n 1, 1) := by decide +kernel
theorem d_Mo_opOf_26 : decode b_Mo_opOf 26 = .ok (.iaload, 1) := by decide +kernel
theorem d_Mo_opOf_27 : decode b_Mo_opOf 27 = .ok (.imul, 1) := by decide +kernel
theorem d_Mo_opOf_28 : decode b_Mo_opOf 28 = .ok (.aload_n 0, 1) := by decide +kernel
theorem d_Mo_opOf_29 : decode b_Mo_opOf 29 = .ok (.getfield 25, 3) := by decide +kernel
theorem d_Mo_opOf_32 : decode b_Mo_opOf 32 = .ok (.iload_n 1, 1) := by decide +kernel
theorem d_Mo_opOf_33 : decode b_Mo_opOf 33 = .ok (.iaload, 1) := by decide +kernel
theorem d_Mo_opOf_34 : decode b_Mo_opOf 34 = .ok (.iadd, 1) := by decide +kernel
theorem d_Mo_opOf_35 : decode b_Mo_opOf 35 = .ok (.iaload, 1) := by decide +kernel
theorem d_Mo_opOf_36 : decode b_Mo_opOf 36 = .ok (.istore_n 2, 1) := by decide +kernel
theorem d_Mo_opOf_37 : decode b_Mo_opOf 37 = .ok (.iload_n 2, 1) := by decide +kernel
theorem d_Mo_opOf_38 : decode b_Mo_opOf 38 = .ok (.ifCond .lt 9, 3) := by decide +kernel
theorem d_Mo_opOf_41 : decode b_Mo_opOf 41 = .ok (.iload_n 2, 1) := by decide +kernel
theorem d_Mo_opOf_42 : decode b_Mo_opOf 42 = .ok (.bipush 11, 2) := by decide +kernel
theorem d_Mo_opOf_44 : decode b_Mo_opOf 44 = .ok (.if_icmp .le 7, 3) := by decide +kernel
theorem d_Mo_opOf_47 : decode b_Mo_opOf 47 = .ok (.iconst 0, 1) := by decide +kernel
theorem d_Mo_opOf_48 : decode b_Mo_opOf 48 = .ok (.goto 4, 3) := by decide +kernel
theorem d_Mo_opOf_51 : decode b_Mo_opOf 51 = .ok (.iload_n 2, 1) := by decide +kernel
theorem d_Mo_opOf_52 : decode b_Mo_opOf 52 = .ok (.ireturn, 1) := by decide +kernel
theorem d_Mo_numberOf_0 : decode b_Mo_numberOf 0 = .ok (.aload_n 0, 1) := by decide +kernel
theorem d_Mo_numberOf_1 : decode b_Mo_numberOf 1 = .ok (.getfield 25, 3) := by decide +kernel
theorem d_Mo_numberOf_4 : decode b_Mo_numberOf 4 = .ok (.iload_n 1, 1) := by decide +kernel
theorem d_Mo_numberOf_5 : decode b_Mo_numberOf 5 = .ok (.iaload, 1) := by decide +kernel
theorem d_Mo_numberOf_6 : decode b_Mo_numberOf 6 = .ok (.bipush 15, 2) := by decide +kernel
theorem d_Mo_numberOf_8 : decode b_Mo_numberOf 8 = .ok (.if_icmp .le 7, 3) := by decide +kernel
theorem d_Mo_numberOf_11 : decode b_Mo_numberOf 11 = .ok (.iconst 0, 1) := by decide +kernel
theorem d_Mo_numberOf_12 : decode b_Mo_numberOf 12 = .ok (.goto 24, 3) := by decide +kernel
theorem d_Mo_numberOf_15 : decode b_Mo_numberOf 15 = .ok (.aload_n 0, 1) := by decide +kernel
theorem d_Mo_numberOf_16 : decode b_Mo_numberOf 16 = .ok (.getfield 13, 3) := by decide +kernel
theorem d_Mo_numberOf_19 : decode b_Mo_numberOf 19 = .ok (.bipush 16, 2) := by decide +kernel
theorem d_Mo_numberOf_21 : decode b_Mo_numberOf 21 = .ok (.aload_n 0, 1) := by decide +kernel
theorem d_Mo_numberOf_22 : decode b_Mo_numberOf 22 = .ok (.getfield 22, 3) := by decide +kernel
theorem d_Mo_numberOf_25 : decode b_Mo_numberOf 25 = .ok (.iload_n 1, 1) := by decide +kernel
theorem d_Mo_numberOf_26 : decode b_Mo_numberOf 26 = .ok (.iaload, 1) := by decide +kernel
theorem d_Mo_numberOf_27 : decode b_Mo_numberOf 27 = .ok (.imul, 1) := by decide +kernel
theorem d_Mo_numberOf_28 : decode b_Mo_numberOf 28 = .ok (.aload_n 0, 1) := by decide +kernel
theorem d_Mo_numberOf_29 : decode b_Mo_numberOf 29 = .ok (.getfield 25, 3) := by decide +kernel
theorem d_Mo_numberOf_32 : decode b_Mo_numberOf 32 = .ok (.iload_n 1, 1) := by decide +kernel
theorem d_Mo_numberOf_33 : decode b_Mo_numberOf 33 = .ok (.iaload, 1) := by decide +kernel
theorem d_Mo_numberOf_34 : decode b_Mo_numberOf 34 = .ok (.iadd, 1) := by decide +kernel
theorem d_Mo_numberOf_35 : decode b_Mo_numberOf 35 = .ok (.iaload, 1) := by decide +kernel
theorem d_Mo_numberOf_36 : decode b_Mo_numberOf 36 = .ok (.ireturn, 1) := by decide +kernel
theorem d_Mo_readsPipe_0 : decode b_Mo_readsPipe 0 = .ok (.aload_n 0, 1) := by decide +kernel
theorem d_Mo_readsPipe_1 : decode b_Mo_readsPipe 1 = .ok (.getfield 53, 3) := by decide +kernel
theorem d_Mo_readsPipe_4 : decode b_Mo_readsPipe 4 = .ok (.aload_n 0, 1) := by decide +kernel
theorem d_Mo_readsPipe_5 : decode b_Mo_readsPipe 5 = .ok (.getfield 19, 3) := by decide +kernel
theorem d_Mo_readsPipe_8 : decode b_Mo_readsPipe 8 = .ok (.iload_n 1, 1) := by decide +kernel
theorem d_Mo_readsPipe_9 : decode b_Mo_readsPipe 9 = .ok (.iaload, 1) := by decide +kernel
theorem d_Mo_readsPipe_10 : decode b_Mo_readsPipe 10 = .ok (.iaload, 1) := by decide +kernel
theorem d_Mo_readsPipe_11 : decode b_Mo_readsPipe 11 = .ok (.iload_n 1, 1) := by decide +kernel
theorem d_Mo_readsPipe_12 : decode b_Mo_readsPipe 12 = .ok (.if_icmp .ne 7, 3) := by decide +kernel
theorem d_Mo_readsPipe_15 : decode b_Mo_readsPipe 15 = .ok (.iconst 1, 1) := by decide +kernel
theorem d_Mo_readsPipe_16 : decode b_Mo_readsPipe 16 = .ok (.goto 4, 3) := by decide +kernel
theorem d_Mo_readsPipe_19 : decode b_Mo_readsPipe 19 = .ok (.iconst 0, 1) := by decide +kernel
theorem d_Mo_readsPipe_20 : decode b_Mo_readsPipe 20 = .ok (.ireturn, 1) := by decide +kernel
theorem d_Mo_writesPipe_0 : decode b_Mo_writesPipe 0 = .ok (.aload_n 0, 1) := by decide +kernel
theorem d_Mo_writesPipe_1 : decode b_Mo_writesPipe 1 = .ok (.getfield 53, 3) := by decide +kernel
theorem d_Mo_writesPipe_4 : decode b_Mo_writesPipe 4 = .ok (.aload_n 0, 1) := by decide +kernel
theorem d_Mo_writesPipe_5 : decode b_Mo_writesPipe 5 = .ok (.getfield 19, 3) := by decide +kernel
theorem d_Mo_writesPipe_8 : decode b_Mo_writesPipe 8 = .ok (.iload_n 1, 1) := by decide +kernel
theorem d_Mo_writesPipe_9 : decode b_Mo_writesPipe 9 = .ok (.iaload, 1) := by decide +kernel
theorem d_Mo_writesPipe_10 : decode b_Mo_writesPipe 10 = .ok (.iaload, 1) := by decide +kernel
theorem d_Mo_writesPipe_11 : decode b_Mo_writesPipe 11 = .ok (.ifCond .lt 22, 3) := by decide +kernel
theorem d_Mo_writesPipe_14 : decode b_Mo_writesPipe 14 = .ok (.aload_n 0, 1) := by decide +kernel
theorem d_Mo_writesPipe_15 : decode b_Mo_writesPipe 15 = .ok (.getfield 50, 3) := by decide +kernel
theorem d_Mo_writesPipe_18 : decode b_Mo_writesPipe 18 = .ok (.aload_n 0, 1) := by decide +kernel
theorem d_Mo_writesPipe_19 : decode b_Mo_writesPipe 19 = .ok (.getfield 19, 3) := by decide +kernel
theorem d_Mo_writesPipe_22 : decode b_Mo_writesPipe 22 = .ok (.iload_n 1, 1) := by decide +kernel
theorem d_Mo_writesPipe_23 : decode b_Mo_writesPipe 23 = .ok (.iaload, 1) := by decide +kernel
theorem d_Mo_writesPipe_24 : decode b_Mo_writesPipe 24 = .ok (.iaload, 1) := by decide +kernel
theorem d_Mo_writesPipe_25 : decode b_Mo_writesPipe 25 = .ok (.iload_n 1, 1) := by decide +kernel
theorem d_Mo_writesPipe_26 : decode b_Mo_writesPipe 26 = .ok (.if_icmp .ne 7, 3) := by decide +kernel
theorem d_Mo_writesPipe_29 : decode b_Mo_writesPipe 29 = .ok (.iconst 1, 1) := by decide +kernel
theorem d_Mo_writesPipe_30 : decode b_Mo_writesPipe 30 = .ok (.goto 4, 3) := by decide +kernel
theorem d_Mo_writesPipe_33 : decode b_Mo_writesPipe 33 = .ok (.iconst 0, 1) := by decide +kernel
theorem d_Mo_writesPipe_34 : decode b_Mo_writesPipe 34 = .ok (.ireturn, 1) := by decide +kernel
theorem d_Mo_writes_0 : decode b_Mo_writes 0 = .ok (.aload_n 0, 1) := by decide +kernel
theorem d_Mo_writes_1 : decode b_Mo_writes 1 = .ok (.iload_n 1, 1) := by decide +kernel
theorem d_Mo_writes_2 : decode b_Mo_writes 2 = .ok (.invokevirtual 157, 3) := by decide +kernel
theorem d_Mo_writes_5 : decode b_Mo_writes 5 = .ok (.iconst 1, 1) := by decide +kernel
theorem d_Mo_writes_6 : decode b_Mo_writes 6 = .ok (.if_icmp .eq 21, 3) := by decide +kernel
theorem d_Mo_writes_9 : decode b_Mo_writes 9 = .ok (.aload_n 0, 1) := by decide +kernel
theorem d_Mo_writes_10 : decode b_Mo_writes 10 = .ok (.iload_n 1, 1) := by decide +kernel
theorem d_Mo_writes_11 : decode b_Mo_writes 11 = .ok (.invokevirtual 157, 3) := by decide +kernel
theorem d_Mo_writes_14 : decode b_Mo_writes 14 = .ok (.iconst 3, 1) := by decide +kernel
theorem d_Mo_writes_15 : decode b_Mo_writes 15 = .ok (.if_icmp .ne 16, 3) := by decide +kernel
theorem d_Mo_writes_18 : decode b_Mo_writes 18 = .ok (.aload_n 0, 1) := by decide +kernel
theorem d_Mo_writes_19 : decode b_Mo_writes 19 = .ok (.getfield 28, 3) := by decide +kernel
theorem d_Mo_writes_22 : decode b_Mo_writes 22 = .ok (.iload_n 1, 1) := by decide +kernel
theorem d_Mo_writes_23 : decode b_Mo_writes 23 = .ok (.iaload, 1) := by decide +kernel
theorem d_Mo_writes_24 : decode b_Mo_writes 24 = .ok (.ifCond .lt 7, 3) := by decide +kernel
theorem d_Mo_writes_27 : decode b_Mo_writes 27 = .ok (.iconst 1, 1) := by decide +kernel
theorem d_Mo_writes_28 : decode b_Mo_writes 28 = .ok (.goto 4, 3) := by decide +kernel
theorem d_Mo_writes_31 : decode b_Mo_writes 31 = .ok (.iconst 0, 1) := by decide +kernel
theorem d_Mo_writes_32 : decode b_Mo_writes 32 = .ok (.ireturn, 1) := by decide +kernel
theorem d_Mo_canGoOn_0 : decode b_Mo_canGoOn 0 = .ok (.aload_n 0, 1) := by decide +kernel
theorem d_Mo_canGoOn_1 : decode b_Mo_canGoOn 1 = .ok (.getfield 16, 3) := by decide +kernel
theorem d_Mo_canGoOn_4 : decode b_Mo_canGoOn 4 = .ok (.iload_n 1, 1) := by decide +kernel
theorem d_Mo_canGoOn_5 : decode b_Mo_canGoOn 5 = .ok (.iaload, 1) := by decide +kernel
theorem d_Mo_canGoOn_6 : decode b_Mo_canGoOn 6 = .ok (.iconst 1, 1) := by decide +kernel
theorem d_Mo_canGoOn_7 : decode b_Mo_canGoOn 7 = .ok (.if_icmp .ne 12, 3) := by decide +kernel
theorem d_Mo_canGoOn_10 : decode b_Mo_canGoOn 10 = .ok (.aload_n 0, 1) := by decide +kernel
theorem d_Mo_canGoOn_11 : decode b_Mo_canGoOn 11 = .ok (.getfield 43, 3) := by decide +kernel
theorem d_Mo_canGoOn_14 : decode b_Mo_canGoOn 14 = .ok (.iload_n 1, 1) := by decide +kernel
theorem d_Mo_canGoOn_15 : decode b_Mo_canGoOn 15 = .ok (.iaload, 1) := by decide +kernel
theorem d_Mo_canGoOn_16 : decode b_Mo_canGoOn 16 = .ok (.ifCond .le 5, 3) := by decide +kernel
theorem d_Mo_canGoOn_19 : decode b_Mo_canGoOn 19 = .ok (.iconst 0, 1) := by decide +kernel
theorem d_Mo_canGoOn_20 : decode b_Mo_canGoOn 20 = .ok (.ireturn, 1) := by decide +kernel
theorem d_Mo_canGoOn_21 : decode b_Mo_canGoOn 21 = .ok (.aload_n 0, 1) := by decide +kernel
theorem d_Mo_canGoOn_22 : decode b_Mo_canGoOn 22 = .ok (.getfield 19, 3) := by decide +kernel
theorem d_Mo_canGoOn_25 : decode b_Mo_canGoOn 25 = .ok (.iload_n 1, 1) := by decide +kernel
theorem d_Mo_canGoOn_26 : decode b_Mo_canGoOn 26 = .ok (.iaload, 1) := by decide +kernel
theorem d_Mo_canGoOn_27 : decode b_Mo_canGoOn 27 = .ok (.istore_n 2, 1) := by decide +kernel
theorem d_Mo_canGoOn_28 : decode b_Mo_canGoOn 28 = .ok (.aload_n 0, 1) := by decide +kernel
theorem d_Mo_canGoOn_29 : decode b_Mo_canGoOn 29 = .ok (.iload_n 1, 1) := by decide +kernel
theorem d_Mo_canGoOn_30 : decode b_Mo_canGoOn 30 = .ok (.invokevirtual 157, 3) := by decide +kernel
theorem d_Mo_canGoOn_33 : decode b_Mo_canGoOn 33 = .ok (.iconst 2, 1) := by decide +kernel
theorem d_Mo_canGoOn_34 : decode b_Mo_canGoOn 34 = .ok (.if_icmp .ne 71, 3) := by decide +kernel
theorem d_Mo_canGoOn_37 : decode b_Mo_canGoOn 37 = .ok (.aload_n 0, 1) := by decide +kernel
theorem d_Mo_canGoOn_38 : decode b_Mo_canGoOn 38 = .ok (.iload_n 1, 1) := by decide +kernel
theorem d_Mo_canGoOn_39 : decode b_Mo_canGoOn 39 = .ok (.invokevirtual 160, 3) := by decide +kernel
theorem d_Mo_canGoOn_42 : decode b_Mo_canGoOn 42 = .ok (.ifCond .eq 35, 3) := by decide +kernel
theorem d_Mo_canGoOn_45 : decode b_Mo_canGoOn 45 = .ok (.aload_n 0, 1) := by decide +kernel
theorem d_Mo_canGoOn_46 : decode b_Mo_canGoOn 46 = .ok (.getfield 62, 3) := by decide +kernel
theorem d_Mo_canGoOn_49 : decode b_Mo_canGoOn 49 = .ok (.iload_n 2, 1) := by decide +kernel
theorem d_Mo_canGoOn_50 : decode b_Mo_canGoOn 50 = .ok (.iaload, 1) := by decide +kernel
theorem d_Mo_canGoOn_51 : decode b_Mo_canGoOn 51 = .ok (.ifCond .gt 18, 3) := by decide +kernel
theorem d_Mo_canGoOn_54 : decode b_Mo_canGoOn 54 = .ok (.aload_n 0, 1) := by decide +kernel
theorem d_Mo_canGoOn_55 : decode b_Mo_canGoOn 55 = .ok (.getfield 16, 3) := by decide +kernel
theorem d_Mo_canGoOn_58 : decode b_Mo_canGoOn 58 = .ok (.aload_n 0, 1) := by decide +kernel
theorem d_Mo_canGoOn_59 : decode b_Mo_canGoOn 59 = .ok (.getfield 50, 3) := by decide +kernel
theorem d_Mo_canGoOn_62 : decode b_Mo_canGoOn 62 = .ok (.iload_n 2, 1) := by decide +kernel
theorem d_Mo_canGoOn_63 : decode b_Mo_canGoOn 63 = .ok (.iaload, 1) := by decide +kernel
theorem d_Mo_canGoOn_64 : decode b_Mo_canGoOn 64 = .ok (.iaload, 1) := by decide +kernel
theorem d_Mo_canGoOn_65 : decode b_Mo_canGoOn 65 = .ok (.iconst 3, 1) := by decide +kernel
theorem d_Mo_canGoOn_66 : decode b_Mo_canGoOn 66 = .ok (.if_icmp .ne 7, 3) := by decide +kernel
theorem d_Mo_canGoOn_69 : decode b_Mo_canGoOn 69 = .ok (.iconst 1, 1) := by decide +kernel
theorem d_Mo_canGoOn_70 : decode b_Mo_canGoOn 70 = .ok (.goto 34, 3) := by decide +kernel
theorem d_Mo_canGoOn_73 : decode b_Mo_canGoOn 73 = .ok (.iconst 0, 1) := by decide +kernel
theorem d_Mo_canGoOn_74 : decode b_Mo_canGoOn 74 = .ok (.goto 30, 3) := by decide +kernel
theorem d_Mo_canGoOn_77 : decode b_Mo_canGoOn 77 = .ok (.aload_n 0, 1) := by decide +kernel
theorem d_Mo_canGoOn_78 : decode b_Mo_canGoOn 78 = .ok (.getfield 153, 3) := by decide +kernel
theorem d_Mo_canGoOn_81 : decode b_Mo_canGoOn 81 = .ok (.ifCond .ne 18, 3) := by decide +kernel
theorem d_Mo_canGoOn_84 : decode b_Mo_canGoOn 84 = .ok (.aload_n 0, 1) := by decide +kernel
theorem d_Mo_canGoOn_85 : decode b_Mo_canGoOn 85 = .ok (.getfield 68, 3) := by decide +kernel
theorem d_Mo_canGoOn_88 : decode b_Mo_canGoOn 88 = .ok (.iload_n 2, 1) := by decide +kernel
theorem d_Mo_canGoOn_89 : decode b_Mo_canGoOn 89 = .ok (.if_icmp .ne 10, 3) := by decide +kernel
theorem d_Mo_canGoOn_92 : decode b_Mo_canGoOn 92 = .ok (.aload_n 0, 1) := by decide +kernel
theorem d_Mo_canGoOn_93 : decode b_Mo_canGoOn 93 = .ok (.getfield 122, 3) := by decide +kernel
theorem d_Mo_canGoOn_96 : decode b_Mo_canGoOn 96 = .ok (.ifCond .le 7, 3) := by decide +kernel
theorem d_Mo_canGoOn_99 : decode b_Mo_canGoOn 99 = .ok (.iconst 1, 1) := by decide +kernel
theorem d_Mo_canGoOn_100 : decode b_Mo_canGoOn 100 = .ok (.goto 4, 3) := by decide +kernel
theorem d_Mo_canGoOn_103 : decode b_Mo_canGoOn 103 = .ok (.iconst 0, 1) := by decide +kernel
theorem d_Mo_canGoOn_104 : decode b_Mo_canGoOn 104 = .ok (.ireturn, 1) := by decide +kernel
theorem d_Mo_canGoOn_105 : decode b_Mo_canGoOn 105 = .ok (.aload_n 0, 1) := by decide +kernel
theorem d_Mo_canGoOn_106 : decode b_Mo_canGoOn 106 = .ok (.iload_n 1, 1) := by decide +kernel
theorem d_Mo_canGoOn_107 : decode b_Mo_canGoOn 107 = .ok (.invokevirtual 163, 3) := by decide +kernel
theorem d_Mo_canGoOn_110 : decode b_Mo_canGoOn 110 = .ok (.ifCond .eq 36, 3) := by decide +kernel
theorem d_Mo_canGoOn_113 : decode b_Mo_canGoOn 113 = .ok (.aload_n 0, 1) := by decide +kernel
theorem d_Mo_canGoOn_114 : decode b_Mo_canGoOn 114 = .ok (.iload_n 1, 1) := by decide +kernel
theorem d_Mo_canGoOn_115 : decode b_Mo_canGoOn 115 = .ok (.invokevirtual 166, 3) := by decide +kernel
theorem d_Mo_canGoOn_118 : decode b_Mo_canGoOn 118 = .ok (.ifCond .eq 28, 3) := by decide +kernel
theorem d_Mo_canGoOn_121 : decode b_Mo_canGoOn 121 = .ok (.aload_n 0, 1) := by decide +kernel
theorem d_Mo_canGoOn_122 : decode b_Mo_canGoOn 122 = .ok (.getfield 62, 3) := by decide +kernel
theorem d_Mo_canGoOn_125 : decode b_Mo_canGoOn 125 = .ok (.iload_n 2, 1) := by decide +kernel
theorem d_Mo_canGoOn_126 : decode b_Mo_canGoOn 126 = .ok (.iaload, 1) := by decide +kernel
theorem d_Mo_canGoOn_127 : decode b_Mo_canGoOn 127 = .ok (.iconst 4, 1) := by decide +kernel
theorem d_Mo_canGoOn_128 : decode b_Mo_canGoOn 128 = .ok (.if_icmp .lt 18, 3) := by decide +kernel
theorem d_Mo_canGoOn_131 : decode b_Mo_canGoOn 131 = .ok (.aload_n 0, 1) := by decide +kernel
theorem d_Mo_canGoOn_132 : decode b_Mo_canGoOn 132 = .ok (.getfield 16, 3) := by decide +kernel
theorem d_Mo_canGoOn_135 : decode b_Mo_canGoOn 135 = .ok (.aload_n 0, 1) := by decide +kernel
theorem d_Mo_canGoOn_136 : decode b_Mo_canGoOn 136 = .ok (.getfield 53, 3) := by decide +kernel
theorem d_Mo_canGoOn_139 : decode b_Mo_canGoOn 139 = .ok (.iload_n 2, 1) := by decide +kernel
theorem d_Mo_canGoOn_140 : decode b_Mo_canGoOn 140 = .ok (.iaload, 1) := by decide +kernel
theorem d_Mo_canGoOn_141 : decode b_Mo_canGoOn 141 = .ok (.iaload, 1) := by decide +kernel
theorem d_Mo_canGoOn_142 : decode b_Mo_canGoOn 142 = .ok (.iconst 3, 1) := by decide +kernel
theorem d_Mo_canGoOn_143 : decode b_Mo_canGoOn 143 = .ok (.if_icmp .ne 7, 3) := by decide +kernel
theorem d_Mo_canGoOn_146 : decode b_Mo_canGoOn 146 = .ok (.iconst 1, 1) := by decide +kernel
theorem d_Mo_canGoOn_147 : decode b_Mo_canGoOn 147 = .ok (.goto 4, 3) := by decide +kernel
theorem d_Mo_canGoOn_150 : decode b_Mo_canGoOn 150 = .ok (.iconst 0, 1) := by decide +kernel
theorem d_Mo_canGoOn_151 : decode b_Mo_canGoOn 151 = .ok (.ireturn, 1) := by decide +kernel
theorem d_Mo_fail_0 : decode b_Mo_fail 0 = .ok (.aload_n 0, 1) := by decide +kernel
theorem d_Mo_fail_1 : decode b_Mo_fail 1 = .ok (.iconst 1, 1) := by decide +kernel
theorem d_Mo_fail_2 : decode b_Mo_fail 2 = .ok (.putfield 169, 3) := by decide +kernel
theorem d_Mo_fail_5 : decode b_Mo_fail 5 = .ok (.aload_n 0, 1) := by decide +kernel
theorem d_Mo_fail_6 : decode b_Mo_fail 6 = .ok (.getfield 28, 3) := by decide +kernel
theorem d_Mo_fail_9 : decode b_Mo_fail 9 = .ok (.iload_n 1, 1) := by decide +kernel
theorem d_Mo_fail_10 : decode b_Mo_fail 10 = .ok (.bipush (-2), 2) := by decide +kernel
theorem d_Mo_fail_12 : decode b_Mo_fail 12 = .ok (.iastore, 1) := by decide +kernel
theorem d_Mo_fail_13 : decode b_Mo_fail 13 = .ok (.aload_n 0, 1) := by decide +kernel
theorem d_Mo_fail_14 : decode b_Mo_fail 14 = .ok (.getfield 25, 3) := by decide +kernel
theorem d_Mo_fail_17 : decode b_Mo_fail 17 = .ok (.iload_n 1, 1) := by decide +kernel
theorem d_Mo_fail_18 : decode b_Mo_fail 18 = .ok (.dup2, 1) := by decide +kernel
theorem d_Mo_fail_19 : decode b_Mo_fail 19 = .ok (.iaload, 1) := by decide +kernel
theorem d_Mo_fail_20 : decode b_Mo_fail 20 = .ok (.iconst 1, 1) := by decide +kernel
theorem d_Mo_fail_21 : decode b_Mo_fail 21 = .ok (.iadd, 1) := by decide +kernel
theorem d_Mo_fail_22 : decode b_Mo_fail 22 = .ok (.iastore, 1) := by decide +kernel
theorem d_Mo_fail_23 : decode b_Mo_fail 23 = .ok (.return_, 1) := by decide +kernel
theorem d_Mo_read_0 : decode b_Mo_read 0 = .ok (.aload_n 0, 1) := by decide +kernel
theorem d_Mo_read_1 : decode b_Mo_read 1 = .ok (.getfield 19, 3) := by decide +kernel
theorem d_Mo_read_4 : decode b_Mo_read 4 = .ok (.iload_n 1, 1) := by decide +kernel
theorem d_Mo_read_5 : decode b_Mo_read 5 = .ok (.iaload, 1) := by decide +kernel
theorem d_Mo_read_6 : decode b_Mo_read 6 = .ok (.istore_n 2, 1) := by decide +kernel
theorem d_Mo_read_7 : decode b_Mo_read 7 = .ok (.aload_n 0, 1) := by decide +kernel
theorem d_Mo_read_8 : decode b_Mo_read 8 = .ok (.iload_n 1, 1) := by decide +kernel
theorem d_Mo_read_9 : decode b_Mo_read 9 = .ok (.invokevirtual 160, 3) := by decide +kernel
theorem d_Mo_read_12 : decode b_Mo_read 12 = .ok (.ifCond .eq 110, 3) := by decide +kernel
theorem d_Mo_read_15 : decode b_Mo_read 15 = .ok (.aload_n 0, 1) := by decide +kernel
theorem d_Mo_read_16 : decode b_Mo_read 16 = .ok (.getfield 28, 3) := by decide +kernel
theorem d_Mo_read_19 : decode b_Mo_read 19 = .ok (.iload_n 1, 1) := by decide +kernel
theorem d_Mo_read_20 : decode b_Mo_read 20 = .ok (.aload_n 0, 1) := by decide +kernel
theorem d_Mo_read_21 : decode b_Mo_read 21 = .ok (.getfield 62, 3) := by decide +kernel
theorem d_Mo_read_24 : decode b_Mo_read 24 = .ok (.iload_n 2, 1) := by decide +kernel
theorem d_Mo_read_25 : decode b_Mo_read 25 = .ok (.iaload, 1) := by decide +kernel
theorem d_Mo_read_26 : decode b_Mo_read 26 = .ok (.ifCond .le 14, 3) := by decide +kernel
theorem d_Mo_read_29 : decode b_Mo_read 29 = .ok (.aload_n 0, 1) := by decide +kernel
theorem d_Mo_read_30 : decode b_Mo_read 30 = .ok (.getfield 65, 3) := by decide +kernel
theorem d_Mo_read_33 : decode b_Mo_read 33 = .ok (.iconst 4, 1) := by decide +kernel
theorem d_Mo_read_34 : decode b_Mo_read 34 = .ok (.iload_n 2, 1) := by decide +kernel
theorem d_Mo_read_35 : decode b_Mo_read 35 = .ok (.imul, 1) := by decide +kernel
theorem d_Mo_read_36 : decode b_Mo_read 36 = .ok (.iaload, 1) := by decide +kernel
theorem d_Mo_read_37 : decode b_Mo_read 37 = .ok (.goto 4, 3) := by decide +kernel
theorem d_Mo_read_40 : decode b_Mo_read 40 = .ok (.iconst (-1), 1) := by decide +kernel
theorem d_Mo_read_41 : decode b_Mo_read 41 = .ok (.iastore, 1) := by decide +kernel
theorem d_Mo_read_42 : decode b_Mo_read 42 = .ok (.aload_n 0, 1) := by decide +kernel
theorem d_Mo_read_43 : decode b_Mo_read 43 = .ok (.getfield 62, 3) := by decide +kernel
theorem d_Mo_read_46 : decode b_Mo_read 46 = .ok (.iload_n 2, 1) := by decide +kernel
theorem d_Mo_read_47 : decode b_Mo_read 47 = .ok (.aload_n 0, 1) := by decide +kernel
theorem d_Mo_read_48 : decode b_Mo_read 48 = .ok (.getfield 62, 3) := by decide +kernel
theorem d_Mo_read_51 : decode b_Mo_read 51 = .ok (.iload_n 2, 1) := by decide +kernel
theorem d_Mo_read_52 : decode b_Mo_read 52 = .ok (.iaload, 1) := by decide +kernel
theorem d_Mo_read_53 : decode b_Mo_read 53 = .ok (.ifCond .le 14, 3) := by decide +kernel
theorem d_Mo_read_56 : decode b_Mo_read 56 = .ok (.aload_n 0, 1) := by decide +kernel
theorem d_Mo_read_57 : decode b_Mo_read 57 = .ok (.getfield 62, 3) := by decide +kernel
theorem d_Mo_read_60 : decode b_Mo_read 60 = .ok (.iload_n 2, 1) := by decide +kernel
theorem d_Mo_read_61 : decode b_Mo_read 61 = .ok (.iaload, 1) := by decide +kernel
theorem d_Mo_read_62 : decode b_Mo_read 62 = .ok (.iconst 1, 1) := by decide +kernel
theorem d_Mo_read_63 : decode b_Mo_read 63 = .ok (.isub, 1) := by decide +kernel
theorem d_Mo_read_64 : decode b_Mo_read 64 = .ok (.goto 4, 3) := by decide +kernel
theorem d_Mo_read_67 : decode b_Mo_read 67 = .ok (.iconst 0, 1) := by decide +kernel
theorem d_Mo_read_68 : decode b_Mo_read 68 = .ok (.iastore, 1) := by decide +kernel
theorem d_Mo_read_69 : decode b_Mo_read 69 = .ok (.iconst 0, 1) := by decide +kernel
theorem d_Mo_read_70 : decode b_Mo_read 70 = .ok (.istore_n 3, 1) := by decide +kernel
theorem d_Mo_read_71 : decode b_Mo_read 71 = .ok (.iload_n 3, 1) := by decide +kernel
theorem d_Mo_read_72 : decode b_Mo_read 72 = .ok (.aload_n 0, 1) := by decide +kernel
theorem d_Mo_read_73 : decode b_Mo_read 73 = .ok (.getfield 62, 3) := by decide +kernel
theorem d_Mo_read_76 : decode b_Mo_read 76 = .ok (.iload_n 2, 1) := by decide +kernel
theorem d_Mo_read_77 : decode b_Mo_read 77 = .ok (.iaload, 1) := by decide +kernel
theorem d_Mo_read_78 : decode b_Mo_read 78 = .ok (.if_icmp .ge 31, 3) := by decide +kernel
theorem d_Mo_read_81 : decode b_Mo_read 81 = .ok (.aload_n 0, 1) := by decide +kernel
theorem d_Mo_read_82 : decode b_Mo_read 82 = .ok (.getfield 65, 3) := by decide +kernel
theorem d_Mo_read_85 : decode b_Mo_read 85 = .ok (.iconst 4, 1) := by decide +kernel
theorem d_Mo_read_86 : decode b_Mo_read 86 = .ok (.iload_n 2, 1) := by decide +kernel
theorem d_Mo_read_87 : decode b_Mo_read 87 = .ok (.imul, 1) := by decide +kernel
theorem d_Mo_read_88 : decode b_Mo_read 88 = .ok (.iload_n 3, 1) := by decide +kernel
theorem d_Mo_read_89 : decode b_Mo_read 89 = .ok (.iadd, 1) := by decide +kernel
theorem d_Mo_read_90 : decode b_Mo_read 90 = .ok (.aload_n 0, 1) := by decide +kernel
theorem d_Mo_read_91 : decode b_Mo_read 91 = .ok (.getfield 65, 3) := by decide +kernel
theorem d_Mo_read_94 : decode b_Mo_read 94 = .ok (.iconst 4, 1) := by decide +kernel
theorem d_Mo_read_95 : decode b_Mo_read 95 = .ok (.iload_n 2, 1) := by decide +kernel
theorem d_Mo_read_96 : decode b_Mo_read 96 = .ok (.imul, 1) := by decide +kernel
theorem d_Mo_read_97 : decode b_Mo_read 97 = .ok (.iload_n 3, 1) := by decide +kernel
theorem d_Mo_read_98 : decode b_Mo_read 98 = .ok (.iadd, 1) := by decide +kernel
theorem d_Mo_read_99 : decode b_Mo_read 99 = .ok (.iconst 1, 1) := by decide +kernel
theorem d_Mo_read_100 : decode b_Mo_read 100 = .ok (.iadd, 1) := by decide +kernel
theorem d_Mo_read_101 : decode b_Mo_read 101 = .ok (.iaload, 1) := by decide +kernel
theorem d_Mo_read_102 : decode b_Mo_read 102 = .ok (.iastore, 1) := by decide +kernel
theorem d_Mo_read_103 : decode b_Mo_read 103 = .ok (.iinc 3 1, 3) := by decide +kernel
theorem d_Mo_read_106 : decode b_Mo_read 106 = .ok (.goto (-35), 3) := by decide +kernel
theorem d_Mo_read_109 : decode b_Mo_read 109 = .ok (.aload_n 0, 1) := by decide +kernel
theorem d_Mo_read_110 : decode b_Mo_read 110 = .ok (.getfield 25, 3) := by decide +kernel
theorem d_Mo_read_113 : decode b_Mo_read 113 = .ok (.iload_n 1, 1) := by decide +kernel
theorem d_Mo_read_114 : decode b_Mo_read 114 = .ok (.dup2, 1) := by decide +kernel
theorem d_Mo_read_115 : decode b_Mo_read 115 = .ok (.iaload, 1) := by decide +kernel
theorem d_Mo_read_116 : decode b_Mo_read 116 = .ok (.iconst 1, 1) := by decide +kernel
theorem d_Mo_read_117 : decode b_Mo_read 117 = .ok (.iadd, 1) := by decide +kernel
theorem d_Mo_read_118 : decode b_Mo_read 118 = .ok (.iastore, 1) := by decide +kernel
theorem d_Mo_read_119 : decode b_Mo_read 119 = .ok (.goto 139, 3) := by decide +kernel
theorem d_Mo_read_122 : decode b_Mo_read 122 = .ok (.aload_n 0, 1) := by decide +kernel
theorem d_Mo_read_123 : decode b_Mo_read 123 = .ok (.getfield 153, 3) := by decide +kernel
theorem d_Mo_read_126 : decode b_Mo_read 126 = .ok (.ifCond .eq 23, 3) := by decide +kernel
theorem d_Mo_read_129 : decode b_Mo_read 129 = .ok (.aload_n 0, 1) := by decide +kernel
theorem d_Mo_read_130 : decode b_Mo_read 130 = .ok (.getfield 28, 3) := by decide +kernel
theorem d_Mo_read_133 : decode b_Mo_read 133 = .ok (.iload_n 1, 1) := by decide +kernel
theorem d_Mo_read_134 : decode b_Mo_read 134 = .ok (.iconst (-1), 1) := by decide +kernel
theorem d_Mo_read_135 : decode b_Mo_read 135 = .ok (.iastore, 1) := by decide +kernel
theorem d_Mo_read_136 : decode b_Mo_read 136 = .ok (.aload_n 0, 1) := by decide +kernel
theorem d_Mo_read_137 : decode b_Mo_read 137 = .ok (.getfield 25, 3) := by decide +kernel
theorem d_Mo_read_140 : decode b_Mo_read 140 = .ok (.iload_n 1, 1) := by decide +kernel
theorem d_Mo_read_141 : decode b_Mo_read 141 = .ok (.dup2, 1) := by decide +kernel
theorem d_Mo_read_142 : decode b_Mo_read 142 = .ok (.iaload, 1) := by decide +kernel
theorem d_Mo_read_143 : decode b_Mo_read 143 = .ok (.iconst 1, 1) := by decide +kernel
theorem d_Mo_read_144 : decode b_Mo_read 144 = .ok (.iadd, 1) := by decide +kernel
theorem d_Mo_read_145 : decode b_Mo_read 145 = .ok (.iastore, 1) := by decide +kernel
theorem d_Mo_read_146 : decode b_Mo_read 146 = .ok (.goto 112, 3) := by decide +kernel
theorem d_Mo_read_149 : decode b_Mo_read 149 = .ok (.aload_n 0, 1) := by decide +kernel
theorem d_Mo_read_150 : decode b_Mo_read 150 = .ok (.getfield 68, 3) := by decide +kernel
theorem d_Mo_read_153 : decode b_Mo_read 153 = .ok (.iload_n 2, 1) := by decide +kernel
theorem d_Mo_read_154 : decode b_Mo_read 154 = .ok (.if_icmp .eq 42, 3) := by decide +kernel
theorem d_Mo_read_157 : decode b_Mo_read 157 = .ok (.aload_n 0, 1) := by decide +kernel
theorem d_Mo_read_158 : decode b_Mo_read 158 = .ok (.getfield 37, 3) := by decide +kernel
theorem d_Mo_read_161 : decode b_Mo_read 161 = .ok (.iload_n 1, 1) := by decide +kernel
theorem d_Mo_read_162 : decode b_Mo_read 162 = .ok (.iaload, 1) := by decide +kernel
theorem d_Mo_read_163 : decode b_Mo_read 163 = .ok (.aload_n 0, 1) := by decide +kernel
theorem d_Mo_read_164 : decode b_Mo_read 164 = .ok (.getfield 40, 3) := by decide +kernel
theorem d_Mo_read_167 : decode b_Mo_read 167 = .ok (.iload_n 1, 1) := by decide +kernel
theorem d_Mo_read_168 : decode b_Mo_read 168 = .ok (.iaload, 1) := by decide +kernel
theorem d_Mo_read_169 : decode b_Mo_read 169 = .ok (.ior, 1) := by decide +kernel
theorem d_Mo_read_170 : decode b_Mo_read 170 = .ok (.bipush 8, 2) := by decide +kernel
theorem d_Mo_read_172 : decode b_Mo_read 172 = .ok (.invokestatic 91, 3) := by decide +kernel
theorem d_Mo_read_175 : decode b_Mo_read 175 = .ok (.ifCond .eq 11, 3) := by decide +kernel
theorem d_Mo_read_178 : decode b_Mo_read 178 = .ok (.aload_n 0, 1) := by decide +kernel
theorem d_Mo_read_179 : decode b_Mo_read 179 = .ok (.iload_n 1, 1) := by decide +kernel
theorem d_Mo_read_180 : decode b_Mo_read 180 = .ok (.invokevirtual 172, 3) := by decide +kernel
theorem d_Mo_read_183 : decode b_Mo_read 183 = .ok (.goto 75, 3) := by decide +kernel
theorem d_Mo_read_186 : decode b_Mo_read 186 = .ok (.aload_n 0, 1) := by decide +kernel
theorem d_Mo_read_187 : decode b_Mo_read 187 = .ok (.iload_n 2, 1) := by decide +kernel
theorem d_Mo_read_188 : decode b_Mo_read 188 = .ok (.bipush 8, 2) := by decide +kernel
theorem d_Mo_read_190 : decode b_Mo_read 190 = .ok (.invokevirtual 125, 3) := by decide +kernel
theorem d_Mo_read_193 : decode b_Mo_read 193 = .ok (.goto 65, 3) := by decide +kernel
theorem d_Mo_read_196 : decode b_Mo_read 196 = .ok (.aload_n 0, 1) := by decide +kernel
theorem d_Mo_read_197 : decode b_Mo_read 197 = .ok (.getfield 28, 3) := by decide +kernel
theorem d_Mo_read_200 : decode b_Mo_read 200 = .ok (.iload_n 1, 1) := by decide +kernel
theorem d_Mo_read_201 : decode b_Mo_read 201 = .ok (.aload_n 0, 1) := by decide +kernel
theorem d_Mo_read_202 : decode b_Mo_read 202 = .ok (.getfield 78, 3) := by decide +kernel
theorem d_Mo_read_205 : decode b_Mo_read 205 = .ok (.iconst 0, 1) := by decide +kernel
theorem d_Mo_read_206 : decode b_Mo_read 206 = .ok (.iaload, 1) := by decide +kernel
theorem d_Mo_read_207 : decode b_Mo_read 207 = .ok (.iastore, 1) := by decide +kernel
theorem d_Mo_read_208 : decode b_Mo_read 208 = .ok (.aload_n 0, 1) := by decide +kernel
theorem d_Mo_read_209 : decode b_Mo_read 209 = .ok (.dup, 1) := by decide +kernel
theorem d_Mo_read_210 : decode b_Mo_read 210 = .ok (.getfield 122, 3) := by decide +kernel
theorem d_Mo_read_213 : decode b_Mo_read 213 = .ok (.iconst 1, 1) := by decide +kernel
theorem d_Mo_read_214 : decode b_Mo_read 214 = .ok (.isub, 1) := by decide +kernel
theorem d_Mo_read_215 : decode b_Mo_read 215 = .ok (.putfield 122, 3) := by decide +kernel
theorem d_Mo_read_218 : decode b_Mo_read 218 = .ok (.iconst 0, 1) := by decide +kernel
theorem d_Mo_read_219 : decode b_Mo_read 219 = .ok (.istore_n 3, 1) := by decide +kernel
theorem d_Mo_read_220 : decode b_Mo_read 220 = .ok (.iload_n 3, 1) := by decide +kernel
theorem d_Mo_read_221 : decode b_Mo_read 221 = .ok (.aload_n 0, 1) := by decide +kernel
theorem d_Mo_read_222 : decode b_Mo_read 222 = .ok (.getfield 122, 3) := by decide +kernel
theorem d_Mo_read_225 : decode b_Mo_read 225 = .ok (.if_icmp .ge 23, 3) := by decide +kernel
theorem d_Mo_read_228 : decode b_Mo_read 228 = .ok (.aload_n 0, 1) := by decide +kernel
theorem d_Mo_read_229 : decode b_Mo_read 229 = .ok (.getfield 78, 3) := by decide +kernel
theorem d_Mo_read_232 : decode b_Mo_read 232 = .ok (.iload_n 3, 1) := by decide +kernel
theorem d_Mo_read_233 : decode b_Mo_read 233 = .ok (.aload_n 0, 1) := by decide +kernel
theorem d_Mo_read_234 : decode b_Mo_read 234 = .ok (.getfield 78, 3) := by decide +kernel
theorem d_Mo_read_237 : decode b_Mo_read 237 = .ok (.iload_n 3, 1) := by decide +kernel
theorem d_Mo_read_238 : decode b_Mo_read 238 = .ok (.iconst 1, 1) := by decide +kernel
theorem d_Mo_read_239 : decode b_Mo_read 239 = .ok (.iadd, 1) := by decide +kernel
theorem d_Mo_read_240 : decode b_Mo_read 240 = .ok (.iaload, 1) := by decide +kernel
theorem d_Mo_read_241 : decode b_Mo_read 241 = .ok (.iastore, 1) := by decide +kernel
theorem d_Mo_read_242 : decode b_Mo_read 242 = .ok (.iinc 3 1, 3) := by decide +kernel
theorem d_Mo_read_245 : decode b_Mo_read 245 = .ok (.goto (-25), 3) := by decide +kernel
theorem d_Mo_read_248 : decode b_Mo_read 248 = .ok (.aload_n 0, 1) := by decide +kernel
theorem d_Mo_read_249 : decode b_Mo_read 249 = .ok (.getfield 25, 3) := by decide +kernel
theorem d_Mo_read_252 : decode b_Mo_read 252 = .ok (.iload_n 1, 1) := by decide +kernel
theorem d_Mo_read_253 : decode b_Mo_read 253 = .ok (.dup2, 1) := by decide +kernel
theorem d_Mo_read_254 : decode b_Mo_read 254 = .ok (.iaload, 1) := by decide +kernel
theorem d_Mo_read_255 : decode b_Mo_read 255 = .ok (.iconst 1, 1) := by decide +kernel
theorem d_Mo_read_256 : decode b_Mo_read 256 = .ok (.iadd, 1) := by decide +kernel
theorem d_Mo_read_257 : decode b_Mo_read 257 = .ok (.iastore, 1) := by decide +kernel
theorem d_Mo_read_258 : decode b_Mo_read 258 = .ok (.return_, 1) := by decide +kernel
theorem d_Mo_write_0 : decode b_Mo_write 0 = .ok (.aload_n 0, 1) := by decide +kernel
theorem d_Mo_write_1 : decode b_Mo_write 1 = .ok (.getfield 19, 3) := by decide +kernel
theorem d_Mo_write_4 : decode b_Mo_write 4 = .ok (.iload_n 1, 1) := by decide +kernel
theorem d_Mo_write_5 : decode b_Mo_write 5 = .ok (.iaload, 1) := by decide +kernel
theorem d_Mo_write_6 : decode b_Mo_write 6 = .ok (.istore_n 3, 1) := by decide +kernel
theorem d_Mo_write_7 : decode b_Mo_write 7 = .ok (.aload_n 0, 1) := by decide +kernel
theorem d_Mo_write_8 : decode b_Mo_write 8 = .ok (.iload_n 1, 1) := by decide +kernel
theorem d_Mo_write_9 : decode b_Mo_write 9 = .ok (.invokevirtual 166, 3) := by decide +kernel
theorem d_Mo_write_12 : decode b_Mo_write 12 = .ok (.ifCond .eq 65, 3) := by decide +kernel
theorem d_Mo_write_15 : decode b_Mo_write 15 = .ok (.aload_n 0, 1) := by decide +kernel
theorem d_Mo_write_16 : decode b_Mo_write 16 = .ok (.getfield 16, 3) := by decide +kernel
theorem d_Mo_write_19 : decode b_Mo_write 19 = .ok (.aload_n 0, 1) := by decide +kernel
theorem d_Mo_write_20 : decode b_Mo_write 20 = .ok (.getfield 53, 3) := by decide +kernel
theorem d_Mo_write_23 : decode b_Mo_write 23 = .ok (.iload_n 3, 1) := by decide +kernel
theorem d_Mo_write_24 : decode b_Mo_write 24 = .ok (.iaload, 1) := by decide +kernel
theorem d_Mo_write_25 : decode b_Mo_write 25 = .ok (.iaload, 1) := by decide +kernel
theorem d_Mo_write_26 : decode b_Mo_write 26 = .ok (.iconst 3, 1) := by decide +kernel
theorem d_Mo_write_27 : decode b_Mo_write 27 = .ok (.if_icmp .ne 11, 3) := by decide +kernel
theorem d_Mo_write_30 : decode b_Mo_write 30 = .ok (.aload_n 0, 1) := by decide +kernel
theorem d_Mo_write_31 : decode b_Mo_write 31 = .ok (.iload_n 1, 1) := by decide +kernel
theorem d_Mo_write_32 : decode b_Mo_write 32 = .ok (.invokevirtual 172, 3) := by decide +kernel
theorem d_Mo_write_35 : decode b_Mo_write 35 = .ok (.goto 120, 3) := by decide +kernel
theorem d_Mo_write_38 : decode b_Mo_write 38 = .ok (.aload_n 0, 1) := by decide +kernel
theorem d_Mo_write_39 : decode b_Mo_write 39 = .ok (.getfield 65, 3) := by decide +kernel
theorem d_Mo_write_42 : decode b_Mo_write 42 = .ok (.iconst 4, 1) := by decide +kernel
theorem d_Mo_write_43 : decode b_Mo_write 43 = .ok (.iload_n 3, 1) := by decide +kernel
theorem d_Mo_write_44 : decode b_Mo_write 44 = .ok (.imul, 1) := by decide +kernel
theorem d_Mo_write_45 : decode b_Mo_write 45 = .ok (.aload_n 0, 1) := by decide +kernel
theorem d_Mo_write_46 : decode b_Mo_write 46 = .ok (.getfield 62, 3) := by decide +kernel
theorem d_Mo_write_49 : decode b_Mo_write 49 = .ok (.iload_n 3, 1) := by decide +kernel
theorem d_Mo_write_50 : decode b_Mo_write 50 = .ok (.iaload, 1) := by decide +kernel
theorem d_Mo_write_51 : decode b_Mo_write 51 = .ok (.iadd, 1) := by decide +kernel
theorem d_Mo_write_52 : decode b_Mo_write 52 = .ok (.iload_n 2, 1) := by decide +kernel
theorem d_Mo_write_53 : decode b_Mo_write 53 = .ok (.iastore, 1) := by decide +kernel
theorem d_Mo_write_54 : decode b_Mo_write 54 = .ok (.aload_n 0, 1) := by decide +kernel
theorem d_Mo_write_55 : decode b_Mo_write 55 = .ok (.getfield 62, 3) := by decide +kernel
theorem d_Mo_write_58 : decode b_Mo_write 58 = .ok (.iload_n 3, 1) := by decide +kernel
theorem d_Mo_write_59 : decode b_Mo_write 59 = .ok (.dup2, 1) := by decide +kernel
theorem d_Mo_write_60 : decode b_Mo_write 60 = .ok (.iaload, 1) := by decide +kernel
theorem d_Mo_write_61 : decode b_Mo_write 61 = .ok (.iconst 1, 1) := by decide +kernel
theorem d_Mo_write_62 : decode b_Mo_write 62 = .ok (.iadd, 1) := by decide +kernel
theorem d_Mo_write_63 : decode b_Mo_write 63 = .ok (.iastore, 1) := by decide +kernel
theorem d_Mo_write_64 : decode b_Mo_write 64 = .ok (.aload_n 0, 1) := by decide +kernel
theorem d_Mo_write_65 : decode b_Mo_write 65 = .ok (.getfield 25, 3) := by decide +kernel
theorem d_Mo_write_68 : decode b_Mo_write 68 = .ok (.iload_n 1, 1) := by decide +kernel
theorem d_Mo_write_69 : decode b_Mo_write 69 = .ok (.dup2, 1) := by decide +kernel
theorem d_Mo_write_70 : decode b_Mo_write 70 = .ok (.iaload, 1) := by decide +kernel
theorem d_Mo_write_71 : decode b_Mo_write 71 = .ok (.iconst 1, 1) := by decide +kernel
theorem d_Mo_write_72 : decode b_Mo_write 72 = .ok (.iadd, 1) := by decide +kernel
theorem d_Mo_write_73 : decode b_Mo_write 73 = .ok (.iastore, 1) := by decide +kernel
theorem d_Mo_write_74 : decode b_Mo_write 74 = .ok (.goto 81, 3) := by decide +kernel
theorem d_Mo_write_77 : decode b_Mo_write 77 = .ok (.aload_n 0, 1) := by decide +kernel
theorem d_Mo_write_78 : decode b_Mo_write 78 = .ok (.getfield 153, 3) := by decide +kernel
theorem d_Mo_write_81 : decode b_Mo_write 81 = .ok (.ifCond .eq 11, 3) := by decide +kernel
theorem d_Mo_write_84 : decode b_Mo_write 84 = .ok (.aload_n 0, 1) := by decide +kernel
theorem d_Mo_write_85 : decode b_Mo_write 85 = .ok (.iload_n 1, 1) := by decide +kernel
theorem d_Mo_write_86 : decode b_Mo_write 86 = .ok (.invokevirtual 172, 3) := by decide +kernel
theorem d_Mo_write_89 : decode b_Mo_write 89 = .ok (.goto 66, 3) := by decide +kernel
theorem d_Mo_write_92 : decode b_Mo_write 92 = .ok (.aload_n 0, 1) := by decide +kernel
theorem d_Mo_write_93 : decode b_Mo_write 93 = .ok (.bipush 16, 2) := by decide +kernel
theorem d_Mo_write_95 : decode b_Mo_write 95 = .ok (.invokevirtual 109, 3) := by decide +kernel
theorem d_Mo_write_98 : decode b_Mo_write 98 = .ok (.ifCond .eq 42, 3) := by decide +kernel
theorem d_Mo_write_101 : decode b_Mo_write 101 = .ok (.aload_n 0, 1) := by decide +kernel
theorem d_Mo_write_102 : decode b_Mo_write 102 = .ok (.getfield 68, 3) := by decide +kernel
theorem d_Mo_write_105 : decode b_Mo_write 105 = .ok (.iload_n 3, 1) := by decide +kernel
theorem d_Mo_write_106 : decode b_Mo_write 106 = .ok (.if_icmp .eq 34, 3) := by decide +kernel
theorem d_Mo_write_109 : decode b_Mo_write 109 = .ok (.aload_n 0, 1) := by decide +kernel
theorem d_Mo_write_110 : decode b_Mo_write 110 = .ok (.getfield 37, 3) := by decide +kernel
theorem d_Mo_write_113 : decode b_Mo_write 113 = .ok (.iload_n 1, 1) := by decide +kernel
theorem d_Mo_write_114 : decode b_Mo_write 114 = .ok (.iaload, 1) := by decide +kernel
theorem d_Mo_write_115 : decode b_Mo_write 115 = .ok (.aload_n 0, 1) := by decide +kernel
theorem d_Mo_write_116 : decode b_Mo_write 116 = .ok (.getfield 40, 3) := by decide +kernel
theorem d_Mo_write_119 : decode b_Mo_write 119 = .ok (.iload_n 1, 1) := by decide +kernel
theorem d_Mo_write_120 : decode b_Mo_write 120 = .ok (.iaload, 1) := by decide +kernel
theorem d_Mo_write_121 : decode b_Mo_write 121 = .ok (.ior, 1) := by decide +kernel
theorem d_Mo_write_122 : decode b_Mo_write 122 = .ok (.bipush 9, 2) := by decide +kernel
theorem d_Mo_write_124 : decode b_Mo_write 124 = .ok (.invokestatic 91, 3) := by decide +kernel
theorem d_Mo_write_127 : decode b_Mo_write 127 = .ok (.ifCond .ne 13, 3) := by decide +kernel
theorem d_Mo_write_130 : decode b_Mo_write 130 = .ok (.aload_n 0, 1) := by decide +kernel
theorem d_Mo_write_131 : decode b_Mo_write 131 = .ok (.iload_n 3, 1) := by decide +kernel
theorem d_Mo_write_132 : decode b_Mo_write 132 = .ok (.bipush 9, 2) := by decide +kernel
theorem d_Mo_write_134 : decode b_Mo_write 134 = .ok (.invokevirtual 125, 3) := by decide +kernel
theorem d_Mo_write_137 : decode b_Mo_write 137 = .ok (.goto 18, 3) := by decide +kernel
theorem d_Mo_write_140 : decode b_Mo_write 140 = .ok (.aload_n 0, 1) := by decide +kernel
theorem d_Mo_write_141 : decode b_Mo_write 141 = .ok (.iload_n 2, 1) := by decide +kernel
theorem d_Mo_write_142 : decode b_Mo_write 142 = .ok (.invokevirtual 116, 3) := by decide +kernel
theorem d_Mo_write_145 : decode b_Mo_write 145 = .ok (.aload_n 0, 1) := by decide +kernel
theorem d_Mo_write_146 : decode b_Mo_write 146 = .ok (.getfield 25, 3) := by decide +kernel
theorem d_Mo_write_149 : decode b_Mo_write 149 = .ok (.iload_n 1, 1) := by decide +kernel
theorem d_Mo_write_150 : decode b_Mo_write 150 = .ok (.dup2, 1) := by decide +kernel
theorem d_Mo_write_151 : decode b_Mo_write 151 = .ok (.iaload, 1) := by decide +kernel
theorem d_Mo_write_152 : decode b_Mo_write 152 = .ok (.iconst 1, 1) := by decide +kernel
theorem d_Mo_write_153 : decode b_Mo_write 153 = .ok (.iadd, 1) := by decide +kernel
theorem d_Mo_write_154 : decode b_Mo_write 154 = .ok (.iastore, 1) := by decide +kernel
theorem d_Mo_write_155 : decode b_Mo_write 155 = .ok (.return_, 1) := by decide +kernel
theorem d_Mo_perform_0 : decode b_Mo_perform 0 = .ok (.aload_n 0, 1) := by decide +kernel
theorem d_Mo_perform_1 : decode b_Mo_perform 1 = .ok (.iload_n 1, 1) := by decide +kernel
theorem d_Mo_perform_2 : decode b_Mo_perform 2 = .ok (.invokevirtual 175, 3) := by decide +kernel
theorem d_Mo_perform_5 : decode b_Mo_perform 5 = .ok (.istore_n 2, 1) := by decide +kernel
theorem d_Mo_perform_6 : decode b_Mo_perform 6 = .ok (.aload_n 0, 1) := by decide +kernel
theorem d_Mo_perform_7 : decode b_Mo_perform 7 = .ok (.iload_n 1, 1) := by decide +kernel
theorem d_Mo_perform_8 : decode b_Mo_perform 8 = .ok (.invokevirtual 157, 3) := by decide +kernel
theorem d_Mo_perform_11 : decode b_Mo_perform 11 = .ok (.istore_n 3, 1) := by decide +kernel
theorem d_Mo_perform_12 : decode b_Mo_perform 12 = .ok (.iload_n 3, 1) := by decide +kernel
theorem d_Mo_perform_13 : decode b_Mo_perform 13 = .ok (.iconst 2, 1) := by decide +kernel
theorem d_Mo_perform_14 : decode b_Mo_perform 14 = .ok (.if_icmp .ne 11, 3) := by decide +kernel
theorem d_Mo_perform_17 : decode b_Mo_perform 17 = .ok (.aload_n 0, 1) := by decide +kernel
theorem d_Mo_perform_18 : decode b_Mo_perform 18 = .ok (.iload_n 1, 1) := by decide +kernel
theorem d_Mo_perform_19 : decode b_Mo_perform 19 = .ok (.invokevirtual 178, 3) := by decide +kernel
theorem d_Mo_perform_22 : decode b_Mo_perform 22 = .ok (.goto 111, 3) := by decide +kernel
theorem d_Mo_perform_25 : decode b_Mo_perform 25 = .ok (.aload_n 0, 1) := by decide +kernel
theorem d_Mo_perform_26 : decode b_Mo_perform 26 = .ok (.iload_n 1, 1) := by decide +kernel
theorem d_Mo_perform_27 : decode b_Mo_perform 27 = .ok (.invokevirtual 163, 3) := by decide +kernel
theorem d_Mo_perform_30 : decode b_Mo_perform 30 = .ok (.ifCond .eq 29, 3) := by decide +kernel
theorem d_Mo_perform_33 : decode b_Mo_perform 33 = .ok (.aload_n 0, 1) := by decide +kernel
theorem d_Mo_perform_34 : decode b_Mo_perform 34 = .ok (.iload_n 1, 1) := by decide +kernel
theorem d_Mo_perform_35 : decode b_Mo_perform 35 = .ok (.iload_n 3, 1) := by decide +kernel
theorem d_Mo_perform_36 : decode b_Mo_perform 36 = .ok (.iconst 1, 1) := by decide +kernel
theorem d_Mo_perform_37 : decode b_Mo_perform 37 = .ok (.if_icmp .ne 7, 3) := by decide +kernel
theorem d_Mo_perform_40 : decode b_Mo_perform 40 = .ok (.iload_n 2, 1) := by decide +kernel
theorem d_Mo_perform_41 : decode b_Mo_perform 41 = .ok (.goto 9, 3) := by decide +kernel
theorem d_Mo_perform_44 : decode b_Mo_perform 44 = .ok (.aload_n 0, 1) := by decide +kernel
theorem d_Mo_perform_45 : decode b_Mo_perform 45 = .ok (.getfield 28, 3) := by decide +kernel
theorem d_Mo_perform_48 : decode b_Mo_perform 48 = .ok (.iload_n 1, 1) := by decide +kernel
theorem d_Mo_perform_49 : decode b_Mo_perform 49 = .ok (.iaload, 1) := by decide +kernel
theorem d_Mo_perform_50 : decode b_Mo_perform 50 = .ok (.bipush 127, 2) := by decide +kernel
theorem d_Mo_perform_52 : decode b_Mo_perform 52 = .ok (.iand, 1) := by decide +kernel
theorem d_Mo_perform_53 : decode b_Mo_perform 53 = .ok (.invokevirtual 181, 3) := by decide +kernel
theorem d_Mo_perform_56 : decode b_Mo_perform 56 = .ok (.goto 77, 3) := by decide +kernel
theorem d_Mo_perform_59 : decode b_Mo_perform 59 = .ok (.iload_n 3, 1) := by decide +kernel
theorem d_Mo_perform_60 : decode b_Mo_perform 60 = .ok (.ifCond .ne 24, 3) := by decide +kernel
theorem d_Mo_perform_63 : decode b_Mo_perform 63 = .ok (.aload_n 0, 1) := by decide +kernel
theorem d_Mo_perform_64 : decode b_Mo_perform 64 = .ok (.getfield 16, 3) := by decide +kernel
theorem d_Mo_perform_67 : decode b_Mo_perform 67 = .ok (.iload_n 1, 1) := by decide +kernel
theorem d_Mo_perform_68 : decode b_Mo_perform 68 = .ok (.iconst 3, 1) := by decide +kernel
theorem d_Mo_perform_69 : decode b_Mo_perform 69 = .ok (.iastore, 1) := by decide +kernel
theorem d_Mo_perform_70 : decode b_Mo_perform 70 = .ok (.aload_n 0, 1) := by decide +kernel
theorem d_Mo_perform_71 : decode b_Mo_perform 71 = .ok (.getfield 31, 3) := by decide +kernel
theorem d_Mo_perform_74 : decode b_Mo_perform 74 = .ok (.iload_n 1, 1) := by decide +kernel
theorem d_Mo_perform_75 : decode b_Mo_perform 75 = .ok (.iload_n 2, 1) := by decide +kernel
theorem d_Mo_perform_76 : decode b_Mo_perform 76 = .ok (.sipush 255, 3) := by decide +kernel
theorem d_Mo_perform_79 : decode b_Mo_perform 79 = .ok (.iand, 1) := by decide +kernel
theorem d_Mo_perform_80 : decode b_Mo_perform 80 = .ok (.iastore, 1) := by decide +kernel
theorem d_Mo_perform_81 : decode b_Mo_perform 81 = .ok (.goto 52, 3) := by decide +kernel
theorem d_Mo_perform_84 : decode b_Mo_perform 84 = .ok (.iload_n 3, 1) := by decide +kernel
theorem d_Mo_perform_85 : decode b_Mo_perform 85 = .ok (.iconst 4, 1) := by decide +kernel
theorem d_Mo_perform_86 : decode b_Mo_perform 86 = .ok (.if_icmp .eq 17, 3) := by decide +kernel
theorem d_Mo_perform_89 : decode b_Mo_perform 89 = .ok (.iload_n 3, 1) := by decide +kernel
theorem d_Mo_perform_90 : decode b_Mo_perform 90 = .ok (.iconst 5, 1) := by decide +kernel
theorem d_Mo_perform_91 : decode b_Mo_perform 91 = .ok (.if_icmp .ne 25, 3) := by decide +kernel
theorem d_Mo_perform_94 : decode b_Mo_perform 94 = .ok (.aload_n 0, 1) := by decide +kernel
theorem d_Mo_perform_95 : decode b_Mo_perform 95 = .ok (.getfield 28, 3) := by decide +kernel
theorem d_Mo_perform_98 : decode b_Mo_perform 98 = .ok (.iload_n 1, 1) := by decide +kernel
theorem d_Mo_perform_99 : decode b_Mo_perform 99 = .ok (.iaload, 1) := by decide +kernel
theorem d_Mo_perform_100 : decode b_Mo_perform 100 = .ok (.ifCond .ge 16, 3) := by decide +kernel
theorem d_Mo_perform_103 : decode b_Mo_perform 103 = .ok (.aload_n 0, 1) := by decide +kernel
theorem d_Mo_perform_104 : decode b_Mo_perform 104 = .ok (.getfield 25, 3) := by decide +kernel
theorem d_Mo_perform_107 : decode b_Mo_perform 107 = .ok (.iload_n 1, 1) := by decide +kernel
theorem d_Mo_perform_108 : decode b_Mo_perform 108 = .ok (.iload_n 2, 1) := by decide +kernel
theorem d_Mo_perform_109 : decode b_Mo_perform 109 = .ok (.bipush 15, 2) := by decide +kernel
theorem d_Mo_perform_111 : decode b_Mo_perform 111 = .ok (.iand, 1) := by decide +kernel
theorem d_Mo_perform_112 : decode b_Mo_perform 112 = .ok (.iastore, 1) := by decide +kernel
theorem d_Mo_perform_113 : decode b_Mo_perform 113 = .ok (.goto 20, 3) := by decide +kernel
theorem d_Mo_perform_116 : decode b_Mo_perform 116 = .ok (.aload_n 0, 1) := by decide +kernel
theorem d_Mo_perform_117 : decode b_Mo_perform 117 = .ok (.getfield 25, 3) := by decide +kernel
theorem d_Mo_perform_120 : decode b_Mo_perform 120 = .ok (.iload_n 1, 1) := by decide +kernel
theorem d_Mo_perform_121 : decode b_Mo_perform 121 = .ok (.dup2, 1) := by decide +kernel
theorem d_Mo_perform_122 : decode b_Mo_perform 122 = .ok (.iaload, 1) := by decide +kernel
theorem d_Mo_perform_123 : decode b_Mo_perform 123 = .ok (.iconst 1, 1) := by decide +kernel
theorem d_Mo_perform_124 : decode b_Mo_perform 124 = .ok (.iadd, 1) := by decide +kernel
theorem d_Mo_perform_125 : decode b_Mo_perform 125 = .ok (.iastore, 1) := by decide +kernel
theorem d_Mo_perform_126 : decode b_Mo_perform 126 = .ok (.aload_n 0, 1) := by decide +kernel
theorem d_Mo_perform_127 : decode b_Mo_perform 127 = .ok (.iload_n 1, 1) := by decide +kernel
theorem d_Mo_perform_128 : decode b_Mo_perform 128 = .ok (.iload_n 3, 1) := by decide +kernel
theorem d_Mo_perform_129 : decode b_Mo_perform 129 = .ok (.iload_n 2, 1) := by decide +kernel
theorem d_Mo_perform_130 : decode b_Mo_perform 130 = .ok (.invokevirtual 184, 3) := by decide +kernel
theorem d_Mo_perform_133 : decode b_Mo_perform 133 = .ok (.return_, 1) := by decide +kernel
theorem d_Mo_plain_0 : decode b_Mo_plain 0 = .ok (.iload_n 2, 1) := by decide +kernel
theorem d_Mo_plain_1 : decode b_Mo_plain 1 = .ok (.tableswitch 145 6 11 #[39, 58, 93, 106, 118, 128], 39) := by decide +kernel
theorem d_Mo_plain_40 : decode b_Mo_plain 40 = .ok (.aload_n 0, 1) := by decide +kernel
theorem d_Mo_plain_41 : decode b_Mo_plain 41 = .ok (.getfield 37, 3) := by decide +kernel
theorem d_Mo_plain_44 : decode b_Mo_plain 44 = .ok (.iload_n 1, 1) := by decide +kernel
theorem d_Mo_plain_45 : decode b_Mo_plain 45 = .ok (.iload_n 3, 1) := by decide +kernel
theorem d_Mo_plain_46 : decode b_Mo_plain 46 = .ok (.sipush 919, 3) := by decide +kernel
theorem d_Mo_plain_49 : decode b_Mo_plain 49 = .ok (.iand, 1) := by decide +kernel
theorem d_Mo_plain_50 : decode b_Mo_plain 50 = .ok (.iastore, 1) := by decide +kernel
theorem d_Mo_plain_51 : decode b_Mo_plain 51 = .ok (.aload_n 0, 1) := by decide +kernel
theorem d_Mo_plain_52 : decode b_Mo_plain 52 = .ok (.iload_n 1, 1) := by decide +kernel
theorem d_Mo_plain_53 : decode b_Mo_plain 53 = .ok (.invokevirtual 99, 3) := by decide +kernel
theorem d_Mo_plain_56 : decode b_Mo_plain 56 = .ok (.goto 90, 3) := by decide +kernel
theorem d_Mo_plain_59 : decode b_Mo_plain 59 = .ok (.aload_n 0, 1) := by decide +kernel
theorem d_Mo_plain_60 : decode b_Mo_plain 60 = .ok (.getfield 40, 3) := by decide +kernel
theorem d_Mo_plain_63 : decode b_Mo_plain 63 = .ok (.iload_n 1, 1) := by decide +kernel
theorem d_Mo_plain_64 : decode b_Mo_plain 64 = .ok (.iload_n 3, 1) := by decide +kernel
theorem d_Mo_plain_65 : decode b_Mo_plain 65 = .ok (.sipush 919, 3) := by decide +kernel
theorem d_Mo_plain_68 : decode b_Mo_plain 68 = .ok (.iand, 1) := by decide +kernel
theorem d_Mo_plain_69 : decode b_Mo_plain 69 = .ok (.iastore, 1) := by decide +kernel
theorem d_Mo_plain_70 : decode b_Mo_plain 70 = .ok (.aload_n 0, 1) := by decide +kernel
theorem d_Mo_plain_71 : decode b_Mo_plain 71 = .ok (.getfield 34, 3) := by decide +kernel
theorem d_Mo_plain_74 : decode b_Mo_plain 74 = .ok (.iload_n 1, 1) := by decide +kernel
theorem d_Mo_plain_75 : decode b_Mo_plain 75 = .ok (.aload_n 0, 1) := by decide +kernel
theorem d_Mo_plain_76 : decode b_Mo_plain 76 = .ok (.getfield 34, 3) := by decide +kernel
theorem d_Mo_plain_79 : decode b_Mo_plain 79 = .ok (.iload_n 1, 1) := by decide +kernel
theorem d_Mo_plain_80 : decode b_Mo_plain 80 = .ok (.iaload, 1) := by decide +kernel
theorem d_Mo_plain_81 : decode b_Mo_plain 81 = .ok (.aload_n 0, 1) := by decide +kernel
theorem d_Mo_plain_82 : decode b_Mo_plain 82 = .ok (.getfield 40, 3) := by decide +kernel
theorem d_Mo_plain_85 : decode b_Mo_plain 85 = .ok (.iload_n 1, 1) := by decide +kernel
theorem d_Mo_plain_86 : decode b_Mo_plain 86 = .ok (.iaload, 1) := by decide +kernel
theorem d_Mo_plain_87 : decode b_Mo_plain 87 = .ok (.iconst (-1), 1) := by decide +kernel
theorem d_Mo_plain_88 : decode b_Mo_plain 88 = .ok (.ixor, 1) := by decide +kernel
theorem d_Mo_plain_89 : decode b_Mo_plain 89 = .ok (.iand, 1) := by decide +kernel
theorem d_Mo_plain_90 : decode b_Mo_plain 90 = .ok (.iastore, 1) := by decide +kernel
theorem d_Mo_plain_91 : decode b_Mo_plain 91 = .ok (.goto 55, 3) := by decide +kernel
theorem d_Mo_plain_94 : decode b_Mo_plain 94 = .ok (.aload_n 0, 1) := by decide +kernel
theorem d_Mo_plain_95 : decode b_Mo_plain 95 = .ok (.getfield 43, 3) := by decide +kernel
theorem d_Mo_plain_98 : decode b_Mo_plain 98 = .ok (.iload_n 1, 1) := by decide +kernel
theorem d_Mo_plain_99 : decode b_Mo_plain 99 = .ok (.iload_n 3, 1) := by decide +kernel
theorem d_Mo_plain_100 : decode b_Mo_plain 100 = .ok (.bipush 7, 2) := by decide +kernel
theorem d_Mo_plain_102 : decode b_Mo_plain 102 = .ok (.iand, 1) := by decide +kernel
theorem d_Mo_plain_103 : decode b_Mo_plain 103 = .ok (.iastore, 1) := by decide +kernel
theorem d_Mo_plain_104 : decode b_Mo_plain 104 = .ok (.goto 42, 3) := by decide +kernel
theorem d_Mo_plain_107 : decode b_Mo_plain 107 = .ok (.aload_n 0, 1) := by decide +kernel
theorem d_Mo_plain_108 : decode b_Mo_plain 108 = .ok (.iload_n 1, 1) := by decide +kernel
theorem d_Mo_plain_109 : decode b_Mo_plain 109 = .ok (.iload_n 3, 1) := by decide +kernel
theorem d_Mo_plain_110 : decode b_Mo_plain 110 = .ok (.bipush 15, 2) := by decide +kernel
theorem d_Mo_plain_112 : decode b_Mo_plain 112 = .ok (.iand, 1) := by decide +kernel
theorem d_Mo_plain_113 : decode b_Mo_plain 113 = .ok (.invokevirtual 103, 3) := by decide +kernel
theorem d_Mo_plain_116 : decode b_Mo_plain 116 = .ok (.goto 30, 3) := by decide +kernel
theorem d_Mo_plain_119 : decode b_Mo_plain 119 = .ok (.aload_n 0, 1) := by decide +kernel
theorem d_Mo_plain_120 : decode b_Mo_plain 120 = .ok (.getfield 28, 3) := by decide +kernel
theorem d_Mo_plain_123 : decode b_Mo_plain 123 = .ok (.iload_n 1, 1) := by decide +kernel
theorem d_Mo_plain_124 : decode b_Mo_plain 124 = .ok (.iload_n 3, 1) := by decide +kernel
theorem d_Mo_plain_125 : decode b_Mo_plain 125 = .ok (.iastore, 1) := by decide +kernel
theorem d_Mo_plain_126 : decode b_Mo_plain 126 = .ok (.goto 20, 3) := by decide +kernel
theorem d_Mo_plain_129 : decode b_Mo_plain 129 = .ok (.aload_n 0, 1) := by decide +kernel
theorem d_Mo_plain_130 : decode b_Mo_plain 130 = .ok (.getfield 28, 3) := by decide +kernel
theorem d_Mo_plain_133 : decode b_Mo_plain 133 = .ok (.iload_n 1, 1) := by decide +kernel
theorem d_Mo_plain_134 : decode b_Mo_plain 134 = .ok (.aload_n 0, 1) := by decide +kernel
theorem d_Mo_plain_135 : decode b_Mo_plain 135 = .ok (.getfield 28, 3) := by decide +kernel
theorem d_Mo_plain_138 : decode b_Mo_plain 138 = .ok (.iload_n 1, 1) := by decide +kernel
theorem d_Mo_plain_139 : decode b_Mo_plain 139 = .ok (.iaload, 1) := by decide +kernel
theorem d_Mo_plain_140 : decode b_Mo_plain 140 = .ok (.iload_n 3, 1) := by decide +kernel
theorem d_Mo_plain_141 : decode b_Mo_plain 141 = .ok (.iadd, 1) := by decide +kernel
theorem d_Mo_plain_142 : decode b_Mo_plain 142 = .ok (.iastore, 1) := by decide +kernel
theorem d_Mo_plain_143 : decode b_Mo_plain 143 = .ok (.goto 3, 3) := by decide +kernel
theorem d_Mo_plain_146 : decode b_Mo_plain 146 = .ok (.return_, 1) := by decide +kernel
theorem d_Mo_step_0 : decode b_Mo_step 0 = .ok (.aload_n 0, 1) := by decide +kernel
theorem d_Mo_step_1 : decode b_Mo_step 1 = .ok (.iconst 0, 1) := by decide +kernel
theorem d_Mo_step_2 : decode b_Mo_step 2 = .ok (.putfield 84, 3) := by decide +kernel
theorem d_Mo_step_5 : decode b_Mo_step 5 = .ok (.iload_n 1, 1) := by decide +kernel
theorem d_Mo_step_6 : decode b_Mo_step 6 = .ok (.iconst 1, 1) := by decide +kernel
theorem d_Mo_step_7 : decode b_Mo_step 7 = .ok (.if_icmp .lt 9, 3) := by decide +kernel
theorem d_Mo_step_10 : decode b_Mo_step 10 = .ok (.iload_n 1, 1) := by decide +kernel
theorem d_Mo_step_11 : decode b_Mo_step 11 = .ok (.bipush 64, 2) := by decide +kernel
theorem d_Mo_step_13 : decode b_Mo_step 13 = .ok (.if_icmp .le 5, 3) := by decide +kernel
theorem d_Mo_step_16 : decode b_Mo_step 16 = .ok (.iconst (-1), 1) := by decide +kernel
theorem d_Mo_step_17 : decode b_Mo_step 17 = .ok (.ireturn, 1) := by decide +kernel
theorem d_Mo_step_18 : decode b_Mo_step 18 = .ok (.iconst 0, 1) := by decide +kernel
theorem d_Mo_step_19 : decode b_Mo_step 19 = .ok (.istore_n 2, 1) := by decide +kernel
theorem d_Mo_step_20 : decode b_Mo_step 20 = .ok (.aload_n 0, 1) := by decide +kernel
theorem d_Mo_step_21 : decode b_Mo_step 21 = .ok (.iconst 0, 1) := by decide +kernel
theorem d_Mo_step_22 : decode b_Mo_step 22 = .ok (.putfield 169, 3) := by decide +kernel
theorem d_Mo_step_25 : decode b_Mo_step 25 = .ok (.iconst 1, 1) := by decide +kernel
theorem d_Mo_step_26 : decode b_Mo_step 26 = .ok (.istore_n 3, 1) := by decide +kernel
theorem d_Mo_step_27 : decode b_Mo_step 27 = .ok (.iload_n 3, 1) := by decide +kernel
theorem d_Mo_step_28 : decode b_Mo_step 28 = .ok (.ifCond .eq 99, 3) := by decide +kernel
theorem d_Mo_step_31 : decode b_Mo_step 31 = .ok (.iload_n 2, 1) := by decide +kernel
theorem d_Mo_step_32 : decode b_Mo_step 32 = .ok (.iload_n 1, 1) := by decide +kernel
theorem d_Mo_step_33 : decode b_Mo_step 33 = .ok (.if_icmp .ge 94, 3) := by decide +kernel
theorem d_Mo_step_36 : decode b_Mo_step 36 = .ok (.aload_n 0, 1) := by decide +kernel
theorem d_Mo_step_37 : decode b_Mo_step 37 = .ok (.getfield 169, 3) := by decide +kernel
theorem d_Mo_step_40 : decode b_Mo_step 40 = .ok (.ifCond .ne 87, 3) := by decide +kernel
theorem d_Mo_step_43 : decode b_Mo_step 43 = .ok (.aload_n 0, 1) := by decide +kernel
theorem d_Mo_step_44 : decode b_Mo_step 44 = .ok (.getfield 188, 3) := by decide +kernel
theorem d_Mo_step_47 : decode b_Mo_step 47 = .ok (.istore 4, 2) := by decide +kernel
theorem d_Mo_step_49 : decode b_Mo_step 49 = .ok (.iconst 0, 1) := by decide +kernel
theorem d_Mo_step_50 : decode b_Mo_step 50 = .ok (.istore 5, 2) := by decide +kernel
theorem d_Mo_step_52 : decode b_Mo_step 52 = .ok (.iload 5, 2) := by decide +kernel
theorem d_Mo_step_54 : decode b_Mo_step 54 = .ok (.bipush 8, 2) := by decide +kernel
theorem d_Mo_step_56 : decode b_Mo_step 56 = .ok (.if_icmp .ge 27, 3) := by decide +kernel
theorem d_Mo_step_59 : decode b_Mo_step 59 = .ok (.aload_n 0, 1) := by decide +kernel
theorem d_Mo_step_60 : decode b_Mo_step 60 = .ok (.iload 4, 2) := by decide +kernel
theorem d_Mo_step_62 : decode b_Mo_step 62 = .ok (.invokevirtual 191, 3) := by decide +kernel
theorem d_Mo_step_65 : decode b_Mo_step 65 = .ok (.ifCond .ne 18, 3) := by decide +kernel
theorem d_Mo_step_68 : decode b_Mo_step 68 = .ok (.iload 4, 2) := by decide +kernel
theorem d_Mo_step_70 : decode b_Mo_step 70 = .ok (.iconst 1, 1) := by decide +kernel
theorem d_Mo_step_71 : decode b_Mo_step 71 = .ok (.iadd, 1) := by decide +kernel
theorem d_Mo_step_72 : decode b_Mo_step 72 = .ok (.bipush 8, 2) := by decide +kernel
theorem d_Mo_step_74 : decode b_Mo_step 74 = .ok (.irem, 1) := by decide +kernel
theorem d_Mo_step_75 : decode b_Mo_step 75 = .ok (.istore 4, 2) := by decide +kernel
theorem d_Mo_step_77 : decode b_Mo_step 77 = .ok (.iinc 5 1, 3) := by decide +kernel
theorem d_Mo_step_80 : decode b_Mo_step 80 = .ok (.goto (-28), 3) := by decide +kernel
theorem d_Mo_step_83 : decode b_Mo_step 83 = .ok (.iload 5, 2) := by decide +kernel
theorem d_Mo_step_85 : decode b_Mo_step 85 = .ok (.bipush 8, 2) := by decide +kernel
theorem d_Mo_step_87 : decode b_Mo_step 87 = .ok (.if_icmp .ge 7, 3) := by decide +kernel
theorem d_Mo_step_90 : decode b_Mo_step 90 = .ok (.iconst 1, 1) := by decide +kernel
theorem d_Mo_step_91 : decode b_Mo_step 91 = .ok (.goto 4, 3) := by decide +kernel
theorem d_Mo_step_94 : decode b_Mo_step 94 = .ok (.iconst 0, 1) := by decide +kernel
theorem d_Mo_step_95 : decode b_Mo_step 95 = .ok (.istore_n 3, 1) := by decide +kernel
theorem d_Mo_step_96 : decode b_Mo_step 96 = .ok (.iload_n 3, 1) := by decide +kernel
theorem d_Mo_step_97 : decode b_Mo_step 97 = .ok (.ifCond .eq 27, 3) := by decide +kernel
theorem d_Mo_step_100 : decode b_Mo_step 100 = .ok (.aload_n 0, 1) := by decide +kernel
theorem d_Mo_step_101 : decode b_Mo_step 101 = .ok (.iload 4, 2) := by decide +kernel
theorem d_Mo_step_103 : decode b_Mo_step 103 = .ok (.iconst 1, 1) := by decide +kernel
theorem d_Mo_step_104 : decode b_Mo_step 104 = .ok (.iadd, 1) := by decide +kernel
theorem d_Mo_step_105 : decode b_Mo_step 105 = .ok (.bipush 8, 2) := by decide +kernel
theorem d_Mo_step_107 : decode b_Mo_step 107 = .ok (.irem, 1) := by decide +kernel
theorem d_Mo_step_108 : decode b_Mo_step 108 = .ok (.putfield 188, 3) := by decide +kernel
theorem d_Mo_step_111 : decode b_Mo_step 111 = .ok (.aload_n 0, 1) := by decide +kernel
theorem d_Mo_step_112 : decode b_Mo_step 112 = .ok (.iload 4, 2) := by decide +kernel
theorem d_Mo_step_114 : decode b_Mo_step 114 = .ok (.invokevirtual 194, 3) := by decide +kernel
theorem d_Mo_step_117 : decode b_Mo_step 117 = .ok (.aload_n 0, 1) := by decide +kernel
theorem d_Mo_step_118 : decode b_Mo_step 118 = .ok (.invokevirtual 134, 3) := by decide +kernel
theorem d_Mo_step_121 : decode b_Mo_step 121 = .ok (.iinc 2 1, 3) := by decide +kernel
theorem d_Mo_step_124 : decode b_Mo_step 124 = .ok (.goto (-97), 3) := by decide +kernel
theorem d_Mo_step_127 : decode b_Mo_step 127 = .ok (.iload_n 2, 1) := by decide +kernel
theorem d_Mo_step_128 : decode b_Mo_step 128 = .ok (.ireturn, 1) := by decide +kernel
theorem d_Mo_tick_0 : decode b_Mo_tick 0 = .ok (.aload_n 0, 1) := by decide +kernel
theorem d_Mo_tick_1 : decode b_Mo_tick 1 = .ok (.iconst 0, 1) := by decide +kernel
theorem d_Mo_tick_2 : decode b_Mo_tick 2 = .ok (.putfield 84, 3) := by decide +kernel
theorem d_Mo_tick_5 : decode b_Mo_tick 5 = .ok (.iconst 0, 1) := by decide +kernel
theorem d_Mo_tick_6 : decode b_Mo_tick 6 = .ok (.istore_n 1, 1) := by decide +kernel
theorem d_Mo_tick_7 : decode b_Mo_tick 7 = .ok (.iconst 0, 1) := by decide +kernel
theorem d_Mo_tick_8 : decode b_Mo_tick 8 = .ok (.istore_n 2, 1) := by decide +kernel
theorem d_Mo_tick_9 : decode b_Mo_tick 9 = .ok (.iload_n 2, 1) := by decide +kernel
theorem d_Mo_tick_10 : decode b_Mo_tick 10 = .ok (.bipush 8, 2) := by decide +kernel
theorem d_Mo_tick_12 : decode b_Mo_tick 12 = .ok (.if_icmp .ge 41, 3) := by decide +kernel
theorem d_Mo_tick_15 : decode b_Mo_tick 15 = .ok (.aload_n 0, 1) := by decide +kernel
theorem d_Mo_tick_16 : decode b_Mo_tick 16 = .ok (.getfield 16, 3) := by decide +kernel
theorem d_Mo_tick_19 : decode b_Mo_tick 19 = .ok (.iload_n 2, 1) := by decide +kernel
theorem d_Mo_tick_20 : decode b_Mo_tick 20 = .ok (.iaload, 1) := by decide +kernel
theorem d_Mo_tick_21 : decode b_Mo_tick 21 = .ok (.iconst 1, 1) := by decide +kernel
theorem d_Mo_tick_22 : decode b_Mo_tick 22 = .ok (.if_icmp .ne 25, 3) := by decide +kernel
theorem d_Mo_tick_25 : decode b_Mo_tick 25 = .ok (.aload_n 0, 1) := by decide +kernel
theorem d_Mo_tick_26 : decode b_Mo_tick 26 = .ok (.getfield 43, 3) := by decide +kernel
theorem d_Mo_tick_29 : decode b_Mo_tick 29 = .ok (.iload_n 2, 1) := by decide +kernel
theorem d_Mo_tick_30 : decode b_Mo_tick 30 = .ok (.iaload, 1) := by decide +kernel
theorem d_Mo_tick_31 : decode b_Mo_tick 31 = .ok (.ifCond .le 16, 3) := by decide +kernel
theorem d_Mo_tick_34 : decode b_Mo_tick 34 = .ok (.aload_n 0, 1) := by decide +kernel
theorem d_Mo_tick_35 : decode b_Mo_tick 35 = .ok (.getfield 43, 3) := by decide +kernel
theorem d_Mo_tick_38 : decode b_Mo_tick 38 = .ok (.iload_n 2, 1) := by decide +kernel
theorem d_Mo_tick_39 : decode b_Mo_tick 39 = .ok (.dup2, 1) := by decide +kernel
theorem d_Mo_tick_40 : decode b_Mo_tick 40 = .ok (.iaload, 1) := by decide +kernel
theorem d_Mo_tick_41 : decode b_Mo_tick 41 = .ok (.iconst 1, 1) := by decide +kernel
theorem d_Mo_tick_42 : decode b_Mo_tick 42 = .ok (.isub, 1) := by decide +kernel
theorem d_Mo_tick_43 : decode b_Mo_tick 43 = .ok (.iastore, 1) := by decide +kernel
theorem d_Mo_tick_44 : decode b_Mo_tick 44 = .ok (.iinc 1 1, 3) := by decide +kernel
theorem d_Mo_tick_47 : decode b_Mo_tick 47 = .ok (.iinc 2 1, 3) := by decide +kernel
theorem d_Mo_tick_50 : decode b_Mo_tick 50 = .ok (.goto (-41), 3) := by decide +kernel
theorem d_Mo_tick_53 : decode b_Mo_tick 53 = .ok (.iload_n 1, 1) := by decide +kernel
theorem d_Mo_tick_54 : decode b_Mo_tick 54 = .ok (.ireturn, 1) := by decide +kernel
theorem d_Mo_foreground_0 : decode b_Mo_foreground 0 = .ok (.aload_n 0, 1) := by decide +kernel
theorem d_Mo_foreground_1 : decode b_Mo_foreground 1 = .ok (.iconst 0, 1) := by decide +kernel
theorem d_Mo_foreground_2 : decode b_Mo_foreground 2 = .ok (.putfield 84, 3) := by decide +kernel
theorem d_Mo_foreground_5 : decode b_Mo_foreground 5 = .ok (.aload_n 0, 1) := by decide +kernel
theorem d_Mo_foreground_6 : decode b_Mo_foreground 6 = .ok (.getfield 68, 3) := by decide +kernel
theorem d_Mo_foreground_9 : decode b_Mo_foreground 9 = .ok (.ireturn, 1) := by decide +kernel
theorem d_Mo_job_0 : decode b_Mo_job 0 = .ok (.aload_n 0, 1) := by decide +kernel
theorem d_Mo_job_1 : decode b_Mo_job 1 = .ok (.iconst 0, 1) := by decide +kernel
theorem d_Mo_job_2 : decode b_Mo_job 2 = .ok (.putfield 84, 3) := by decide +kernel
theorem d_Mo_job_5 : decode b_Mo_job 5 = .ok (.aload_n 0, 1) := by decide +kernel
theorem d_Mo_job_6 : decode b_Mo_job 6 = .ok (.iload_n 1, 1) := by decide +kernel
theorem d_Mo_job_7 : decode b_Mo_job 7 = .ok (.invokevirtual 147, 3) := by decide +kernel
theorem d_Mo_job_10 : decode b_Mo_job 10 = .ok (.ifCond .eq 11, 3) := by decide +kernel
theorem d_Mo_job_13 : decode b_Mo_job 13 = .ok (.aload_n 0, 1) := by decide +kernel
theorem d_Mo_job_14 : decode b_Mo_job 14 = .ok (.iload_n 1, 1) := by decide +kernel
theorem d_Mo_job_15 : decode b_Mo_job 15 = .ok (.invokevirtual 87, 3) := by decide +kernel
theorem d_Mo_job_18 : decode b_Mo_job 18 = .ok (.goto 4, 3) := by decide +kernel
theorem d_Mo_job_21 : decode b_Mo_job 21 = .ok (.iconst (-1), 1) := by decide +kernel
theorem d_Mo_job_22 : decode b_Mo_job 22 = .ok (.ireturn, 1) := by decide +kernel
theorem d_Mo_process_0 : decode b_Mo_process 0 = .ok (.aload_n 0, 1) := by decide +kernel
theorem d_Mo_process_1 : decode b_Mo_process 1 = .ok (.iconst 0, 1) := by decide +kernel
theorem d_Mo_process_2 : decode b_Mo_process 2 = .ok (.putfield 84, 3) := by decide +kernel
theorem d_Mo_process_5 : decode b_Mo_process 5 = .ok (.iload_n 1, 1) := by decide +kernel
theorem d_Mo_process_6 : decode b_Mo_process 6 = .ok (.ifCond .lt 18, 3) := by decide +kernel
theorem d_Mo_process_9 : decode b_Mo_process 9 = .ok (.iload_n 1, 1) := by decide +kernel
theorem d_Mo_process_10 : decode b_Mo_process 10 = .ok (.bipush 7, 2) := by decide +kernel
theorem d_Mo_process_12 : decode b_Mo_process 12 = .ok (.if_icmp .gt 12, 3) := by decide +kernel
theorem d_Mo_process_15 : decode b_Mo_process 15 = .ok (.aload_n 0, 1) := by decide +kernel
theorem d_Mo_process_16 : decode b_Mo_process 16 = .ok (.getfield 16, 3) := by decide +kernel
theorem d_Mo_process_19 : decode b_Mo_process 19 = .ok (.iload_n 1, 1) := by decide +kernel
theorem d_Mo_process_20 : decode b_Mo_process 20 = .ok (.iaload, 1) := by decide +kernel
theorem d_Mo_process_21 : decode b_Mo_process 21 = .ok (.ifCond .ne 5, 3) := by decide +kernel
theorem d_Mo_process_24 : decode b_Mo_process 24 = .ok (.iconst (-1), 1) := by decide +kernel
theorem d_Mo_process_25 : decode b_Mo_process 25 = .ok (.ireturn, 1) := by decide +kernel
theorem d_Mo_process_26 : decode b_Mo_process 26 = .ok (.iload_n 2, 1) := by decide +kernel
theorem d_Mo_process_27 : decode b_Mo_process 27 = .ok (.tableswitch 112 0 8 #[49, 56, 63, 70, 77, 84, 91, 98, 105], 49) := by decide +kernel
theorem d_Mo_process_76 : decode b_Mo_process 76 = .ok (.aload_n 0, 1) := by decide +kernel
theorem d_Mo_process_77 : decode b_Mo_process 77 = .ok (.getfield 16, 3) := by decide +kernel
theorem d_Mo_process_80 : decode b_Mo_process 80 = .ok (.iload_n 1, 1) := by decide +kernel
theorem d_Mo_process_81 : decode b_Mo_process 81 = .ok (.iaload, 1) := by decide +kernel
theorem d_Mo_process_82 : decode b_Mo_process 82 = .ok (.ireturn, 1) := by decide +kernel
theorem d_Mo_process_83 : decode b_Mo_process 83 = .ok (.aload_n 0, 1) := by decide +kernel
theorem d_Mo_process_84 : decode b_Mo_process 84 = .ok (.getfield 19, 3) := by decide +kernel
theorem d_Mo_process_87 : decode b_Mo_process 87 = .ok (.iload_n 1, 1) := by decide +kernel
theorem d_Mo_process_88 : decode b_Mo_process 88 = .ok (.iaload, 1) := by decide +kernel
theorem d_Mo_process_89 : decode b_Mo_process 89 = .ok (.ireturn, 1) := by decide +kernel
theorem d_Mo_process_90 : decode b_Mo_process 90 = .ok (.aload_n 0, 1) := by decide +kernel
theorem d_Mo_process_91 : decode b_Mo_process 91 = .ok (.getfield 25, 3) := by decide +kernel
theorem d_Mo_process_94 : decode b_Mo_process 94 = .ok (.iload_n 1, 1) := by decide +kernel
theorem d_Mo_process_95 : decode b_Mo_process 95 = .ok (.iaload, 1) := by decide +kernel
theorem d_Mo_process_96 : decode b_Mo_process 96 = .ok (.ireturn, 1) := by decide +kernel
theorem d_Mo_process_97 : decode b_Mo_process 97 = .ok (.aload_n 0, 1) := by decide +kernel
theorem d_Mo_process_98 : decode b_Mo_process 98 = .ok (.getfield 28, 3) := by decide +kernel
theorem d_Mo_process_101 : decode b_Mo_process 101 = .ok (.iload_n 1, 1) := by decide +kernel
theorem d_Mo_process_102 : decode b_Mo_process 102 = .ok (.iaload, 1) := by decide +kernel
theorem d_Mo_process_103 : decode b_Mo_process 103 = .ok (.ireturn, 1) := by decide +kernel
theorem d_Mo_process_104 : decode b_Mo_process 104 = .ok (.aload_n 0, 1) := by decide +kernel
theorem d_Mo_process_105 : decode b_Mo_process 105 = .ok (.getfield 34, 3) := by decide +kernel
theorem d_Mo_process_108 : decode b_Mo_process 108 = .ok (.iload_n 1, 1) := by decide +kernel
theorem d_Mo_process_109 : decode b_Mo_process 109 = .ok (.iaload, 1) := by decide +kernel
theorem d_Mo_process_110 : decode b_Mo_process 110 = .ok (.ireturn, 1) := by decide +kernel
theorem d_Mo_process_111 : decode b_Mo_process 111 = .ok (.aload_n 0, 1) := by decide +kernel
theorem d_Mo_process_112 : decode b_Mo_process 112 = .ok (.getfield 37, 3) := by decide +kernel
theorem d_Mo_process_115 : decode b_Mo_process 115 = .ok (.iload_n 1, 1) := by decide +kernel
theorem d_Mo_process_116 : decode b_Mo_process 116 = .ok (.iaload, 1) := by decide +kernel
theorem d_Mo_process_117 : decode b_Mo_process 117 = .ok (.ireturn, 1) := by decide +kernel
theorem d_Mo_process_118 : decode b_Mo_process 118 = .ok (.aload_n 0, 1) := by decide +kernel
theorem d_Mo_process_119 : decode b_Mo_process 119 = .ok (.getfield 40, 3) := by decide +kernel
theorem d_Mo_process_122 : decode b_Mo_process 122 = .ok (.iload_n 1, 1) := by decide +kernel
theorem d_Mo_process_123 : decode b_Mo_process 123 = .ok (.iaload, 1) := by decide +kernel
theorem d_Mo_process_124 : decode b_Mo_process 124 = .ok (.ireturn, 1) := by decide +kernel
theorem d_Mo_process_125 : decode b_Mo_process 125 = .ok (.aload_n 0, 1) := by decide +kernel
theorem d_Mo_process_126 : decode b_Mo_process 126 = .ok (.getfield 43, 3) := by decide +kernel
theorem d_Mo_process_129 : decode b_Mo_process 129 = .ok (.iload_n 1, 1) := by decide +kernel
theorem d_Mo_process_130 : decode b_Mo_process 130 = .ok (.iaload, 1) := by decide +kernel
theorem d_Mo_process_131 : decode b_Mo_process 131 = .ok (.ireturn, 1) := by decide +kernel
theorem d_Mo_process_132 : decode b_Mo_process 132 = .ok (.aload_n 0, 1) := by decide +kernel
theorem d_Mo_process_133 : decode b_Mo_process 133 = .ok (.getfield 31, 3) := by decide +kernel
theorem d_Mo_process_136 : decode b_Mo_process 136 = .ok (.iload_n 1, 1) := by decide +kernel
theorem d_Mo_process_137 : decode b_Mo_process 137 = .ok (.iaload, 1) := by decide +kernel
theorem d_Mo_process_138 : decode b_Mo_process 138 = .ok (.ireturn, 1) := by decide +kernel
theorem d_Mo_process_139 : decode b_Mo_process 139 = .ok (.iconst (-1), 1) := by decide +kernel
theorem d_Mo_process_140 : decode b_Mo_process 140 = .ok (.ireturn, 1) := by decide +kernel
theorem d_Mo_shown_0 : decode b_Mo_shown 0 = .ok (.aload_n 0, 1) := by decide +kernel
theorem d_Mo_shown_1 : decode b_Mo_shown 1 = .ok (.iconst 0, 1) := by decide +kernel
theorem d_Mo_shown_2 : decode b_Mo_shown 2 = .ok (.putfield 84, 3) := by decide +kernel
theorem d_Mo_shown_5 : decode b_Mo_shown 5 = .ok (.aload_n 0, 1) := by decide +kernel
theorem d_Mo_shown_6 : decode b_Mo_shown 6 = .ok (.getfield 106, 3) := by decide +kernel
theorem d_Mo_shown_9 : decode b_Mo_shown 9 = .ok (.ireturn, 1) := by decide +kernel
theorem d_Mo_screen_0 : decode b_Mo_screen 0 = .ok (.aload_n 0, 1) := by decide +kernel
theorem d_Mo_screen_1 : decode b_Mo_screen 1 = .ok (.iconst 0, 1) := by decide +kernel
theorem d_Mo_screen_2 : decode b_Mo_screen 2 = .ok (.putfield 84, 3) := by decide +kernel
theorem d_Mo_screen_5 : decode b_Mo_screen 5 = .ok (.iload_n 1, 1) := by decide +kernel
theorem d_Mo_screen_6 : decode b_Mo_screen 6 = .ok (.ifCond .lt 17, 3) := by decide +kernel
theorem d_Mo_screen_9 : decode b_Mo_screen 9 = .ok (.iload_n 1, 1) := by decide +kernel
theorem d_Mo_screen_10 : decode b_Mo_screen 10 = .ok (.bipush 99, 2) := by decide +kernel
theorem d_Mo_screen_12 : decode b_Mo_screen 12 = .ok (.if_icmp .gt 11, 3) := by decide +kernel
theorem d_Mo_screen_15 : decode b_Mo_screen 15 = .ok (.iload_n 1, 1) := by decide +kernel
theorem d_Mo_screen_16 : decode b_Mo_screen 16 = .ok (.aload_n 0, 1) := by decide +kernel
theorem d_Mo_screen_17 : decode b_Mo_screen 17 = .ok (.getfield 106, 3) := by decide +kernel
theorem d_Mo_screen_20 : decode b_Mo_screen 20 = .ok (.if_icmp .lt 7, 3) := by decide +kernel
theorem d_Mo_screen_23 : decode b_Mo_screen 23 = .ok (.iconst (-1), 1) := by decide +kernel
theorem d_Mo_screen_24 : decode b_Mo_screen 24 = .ok (.goto 19, 3) := by decide +kernel
theorem d_Mo_screen_27 : decode b_Mo_screen 27 = .ok (.aload_n 0, 1) := by decide +kernel
theorem d_Mo_screen_28 : decode b_Mo_screen 28 = .ok (.getfield 81, 3) := by decide +kernel
theorem d_Mo_screen_31 : decode b_Mo_screen 31 = .ok (.aload_n 0, 1) := by decide +kernel
theorem d_Mo_screen_32 : decode b_Mo_screen 32 = .ok (.getfield 106, 3) := by decide +kernel
theorem d_Mo_screen_35 : decode b_Mo_screen 35 = .ok (.iconst 1, 1) := by decide +kernel
theorem d_Mo_screen_36 : decode b_Mo_screen 36 = .ok (.isub, 1) := by decide +kernel
theorem d_Mo_screen_37 : decode b_Mo_screen 37 = .ok (.iload_n 1, 1) := by decide +kernel
theorem d_Mo_screen_38 : decode b_Mo_screen 38 = .ok (.isub, 1) := by decide +kernel
theorem d_Mo_screen_39 : decode b_Mo_screen 39 = .ok (.bipush 100, 2) := by decide +kernel
theorem d_Mo_screen_41 : decode b_Mo_screen 41 = .ok (.irem, 1) := by decide +kernel
theorem d_Mo_screen_42 : decode b_Mo_screen 42 = .ok (.iaload, 1) := by decide +kernel
theorem d_Mo_screen_43 : decode b_Mo_screen 43 = .ok (.ireturn, 1) := by decide +kernel
theorem d_Mo_held_0 : decode b_Mo_held 0 = .ok (.aload_n 0, 1) := by decide +kernel
theorem d_Mo_held_1 : decode b_Mo_held 1 = .ok (.iconst 0, 1) := by decide +kernel
theorem d_Mo_held_2 : decode b_Mo_held 2 = .ok (.putfield 84, 3) := by decide +kernel
theorem d_Mo_held_5 : decode b_Mo_held 5 = .ok (.iload_n 1, 1) := by decide +kernel
theorem d_Mo_held_6 : decode b_Mo_held 6 = .ok (.ifCond .lt 8, 3) := by decide +kernel
theorem d_Mo_held_9 : decode b_Mo_held 9 = .ok (.iload_n 1, 1) := by decide +kernel
theorem d_Mo_held_10 : decode b_Mo_held 10 = .ok (.iconst 5, 1) := by decide +kernel
theorem d_Mo_held_11 : decode b_Mo_held 11 = .ok (.if_icmp .le 5, 3) := by decide +kernel
theorem d_Mo_held_14 : decode b_Mo_held 14 = .ok (.iconst (-1), 1) := by decide +kernel
theorem d_Mo_held_15 : decode b_Mo_held 15 = .ok (.ireturn, 1) := by decide +kernel
theorem d_Mo_held_16 : decode b_Mo_held 16 = .ok (.iload_n 1, 1) := by decide +kernel
theorem d_Mo_held_17 : decode b_Mo_held 17 = .ok (.iconst 2, 1) := by decide +kernel
theorem d_Mo_held_18 : decode b_Mo_held 18 = .ok (.isub, 1) := by decide +kernel
theorem d_Mo_held_19 : decode b_Mo_held 19 = .ok (.istore_n 2, 1) := by decide +kernel
theorem d_Mo_held_20 : decode b_Mo_held 20 = .ok (.iload_n 1, 1) := by decide +kernel
theorem d_Mo_held_21 : decode b_Mo_held 21 = .ok (.ifCond .ne 10, 3) := by decide +kernel
theorem d_Mo_held_24 : decode b_Mo_held 24 = .ok (.aload_n 0, 1) := by decide +kernel
theorem d_Mo_held_25 : decode b_Mo_held 25 = .ok (.getfield 119, 3) := by decide +kernel
theorem d_Mo_held_28 : decode b_Mo_held 28 = .ok (.goto 43, 3) := by decide +kernel
theorem d_Mo_held_31 : decode b_Mo_held 31 = .ok (.iload_n 1, 1) := by decide +kernel
theorem d_Mo_held_32 : decode b_Mo_held 32 = .ok (.iconst 1, 1) := by decide +kernel
theorem d_Mo_held_33 : decode b_Mo_held 33 = .ok (.if_icmp .ne 10, 3) := by decide +kernel
theorem d_Mo_held_36 : decode b_Mo_held 36 = .ok (.aload_n 0, 1) := by decide +kernel
theorem d_Mo_held_37 : decode b_Mo_held 37 = .ok (.getfield 122, 3) := by decide +kernel
theorem d_Mo_held_40 : decode b_Mo_held 40 = .ok (.goto 31, 3) := by decide +kernel
theorem d_Mo_held_43 : decode b_Mo_held 43 = .ok (.aload_n 0, 1) := by decide +kernel
theorem d_Mo_held_44 : decode b_Mo_held 44 = .ok (.getfield 46, 3) := by decide +kernel
theorem d_Mo_held_47 : decode b_Mo_held 47 = .ok (.iload_n 2, 1) := by decide +kernel
theorem d_Mo_held_48 : decode b_Mo_held 48 = .ok (.baload, 1) := by decide +kernel
theorem d_Mo_held_49 : decode b_Mo_held 49 = .ok (.ifCond .eq 21, 3) := by decide +kernel
theorem d_Mo_held_52 : decode b_Mo_held 52 = .ok (.aload_n 0, 1) := by decide +kernel
theorem d_Mo_held_53 : decode b_Mo_held 53 = .ok (.getfield 53, 3) := by decide +kernel
theorem d_Mo_held_56 : decode b_Mo_held 56 = .ok (.iload_n 2, 1) := by decide +kernel
theorem d_Mo_held_57 : decode b_Mo_held 57 = .ok (.iaload, 1) := by decide +kernel
theorem d_Mo_held_58 : decode b_Mo_held 58 = .ok (.ifCond .lt 12, 3) := by decide +kernel
theorem d_Mo_held_61 : decode b_Mo_held 61 = .ok (.aload_n 0, 1) := by decide +kernel
theorem d_Mo_held_62 : decode b_Mo_held 62 = .ok (.getfield 62, 3) := by decide +kernel
theorem d_Mo_held_65 : decode b_Mo_held 65 = .ok (.iload_n 2, 1) := by decide +kernel
theorem d_Mo_held_66 : decode b_Mo_held 66 = .ok (.iaload, 1) := by decide +kernel
theorem d_Mo_held_67 : decode b_Mo_held 67 = .ok (.goto 4, 3) := by decide +kernel
theorem d_Mo_held_70 : decode b_Mo_held 70 = .ok (.iconst (-1), 1) := by decide +kernel
theorem d_Mo_held_71 : decode b_Mo_held 71 = .ok (.ireturn, 1) := by decide +kernel
