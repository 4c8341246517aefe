theorem d_JT_init_0 : decode b_JT_init 0 = .ok (.aload_n 0, 1) := by decide +kernel
theorem d_JT_init_1 : decode b_JT_init 1 = .ok (.invokespecial 1, 3) := by decide +kernel
theorem d_JT_init_4 : decode b_JT_init 4 = .ok (.aload_n 0, 1) := by decide +kernel
theorem d_JT_init_5 : decode b_JT_init 5 = .ok (.new 7, 3) := by decide +kernel
theorem d_JT_init_8 : decode b_JT_init 8 = .ok (.dup, 1) := by decide +kernel
theorem d_JT_init_9 : decode b_JT_init 9 = .ok (.invokespecial 9, 3) := by decide +kernel
theorem d_JT_init_12 : decode b_JT_init 12 = .ok (.putfield 10, 3) := by decide +kernel
theorem d_JT_init_15 : decode b_JT_init 15 = .ok (.aload_n 0, 1) := by decide +kernel
theorem d_JT_init_16 : decode b_JT_init 16 = .ok (.new 16, 3) := by decide +kernel
theorem d_JT_init_19 : decode b_JT_init 19 = .ok (.dup, 1) := by decide +kernel
theorem d_JT_init_20 : decode b_JT_init 20 = .ok (.invokespecial 18, 3) := by decide +kernel
theorem d_JT_init_23 : decode b_JT_init 23 = .ok (.putfield 19, 3) := by decide +kernel
theorem d_JT_init_26 : decode b_JT_init 26 = .ok (.aload_n 0, 1) := by decide +kernel
theorem d_JT_init_27 : decode b_JT_init 27 = .ok (.bipush 8, 2) := by decide +kernel
theorem d_JT_init_29 : decode b_JT_init 29 = .ok (.anewarray 23, 3) := by decide +kernel
theorem d_JT_init_32 : decode b_JT_init 32 = .ok (.putfield 25, 3) := by decide +kernel
theorem d_JT_init_35 : decode b_JT_init 35 = .ok (.iconst 0, 1) := by decide +kernel
theorem d_JT_init_36 : decode b_JT_init 36 = .ok (.istore_n 1, 1) := by decide +kernel
theorem d_JT_init_37 : decode b_JT_init 37 = .ok (.iload_n 1, 1) := by decide +kernel
theorem d_JT_init_38 : decode b_JT_init 38 = .ok (.bipush 8, 2) := by decide +kernel
theorem d_JT_init_40 : decode b_JT_init 40 = .ok (.if_icmp .ge 22, 3) := by decide +kernel
theorem d_JT_init_43 : decode b_JT_init 43 = .ok (.aload_n 0, 1) := by decide +kernel
theorem d_JT_init_44 : decode b_JT_init 44 = .ok (.getfield 25, 3) := by decide +kernel
theorem d_JT_init_47 : decode b_JT_init 47 = .ok (.iload_n 1, 1) := by decide +kernel
theorem d_JT_init_48 : decode b_JT_init 48 = .ok (.new 23, 3) := by decide +kernel
theorem d_JT_init_51 : decode b_JT_init 51 = .ok (.dup, 1) := by decide +kernel
theorem d_JT_init_52 : decode b_JT_init 52 = .ok (.invokespecial 29, 3) := by decide +kernel
theorem d_JT_init_55 : decode b_JT_init 55 = .ok (.aastore, 1) := by decide +kernel
theorem d_JT_init_56 : decode b_JT_init 56 = .ok (.iinc 1 1, 3) := by decide +kernel
theorem d_JT_init_59 : decode b_JT_init 59 = .ok (.goto (-22), 3) := by decide +kernel
theorem d_JT_init_62 : decode b_JT_init 62 = .ok (.aload_n 0, 1) := by decide +kernel
theorem d_JT_init_63 : decode b_JT_init 63 = .ok (.iconst 4, 1) := by decide +kernel
theorem d_JT_init_64 : decode b_JT_init 64 = .ok (.anewarray 30, 3) := by decide +kernel
theorem d_JT_init_67 : decode b_JT_init 67 = .ok (.putfield 32, 3) := by decide +kernel
theorem d_JT_init_70 : decode b_JT_init 70 = .ok (.iconst 0, 1) := by decide +kernel
theorem d_JT_init_71 : decode b_JT_init 71 = .ok (.istore_n 1, 1) := by decide +kernel
theorem d_JT_init_72 : decode b_JT_init 72 = .ok (.iload_n 1, 1) := by decide +kernel
theorem d_JT_init_73 : decode b_JT_init 73 = .ok (.iconst 4, 1) := by decide +kernel
theorem d_JT_init_74 : decode b_JT_init 74 = .ok (.if_icmp .ge 23, 3) := by decide +kernel
theorem d_JT_init_77 : decode b_JT_init 77 = .ok (.aload_n 0, 1) := by decide +kernel
theorem d_JT_init_78 : decode b_JT_init 78 = .ok (.getfield 32, 3) := by decide +kernel
theorem d_JT_init_81 : decode b_JT_init 81 = .ok (.iload_n 1, 1) := by decide +kernel
theorem d_JT_init_82 : decode b_JT_init 82 = .ok (.new 30, 3) := by decide +kernel
theorem d_JT_init_85 : decode b_JT_init 85 = .ok (.dup, 1) := by decide +kernel
theorem d_JT_init_86 : decode b_JT_init 86 = .ok (.iload_n 1, 1) := by decide +kernel
theorem d_JT_init_87 : decode b_JT_init 87 = .ok (.invokespecial 36, 3) := by decide +kernel
theorem d_JT_init_90 : decode b_JT_init 90 = .ok (.aastore, 1) := by decide +kernel
theorem d_JT_init_91 : decode b_JT_init 91 = .ok (.iinc 1 1, 3) := by decide +kernel
theorem d_JT_init_94 : decode b_JT_init 94 = .ok (.goto (-22), 3) := by decide +kernel
theorem d_JT_init_97 : decode b_JT_init 97 = .ok (.aload_n 0, 1) := by decide +kernel
theorem d_JT_init_98 : decode b_JT_init 98 = .ok (.aconst_null, 1) := by decide +kernel
theorem d_JT_init_99 : decode b_JT_init 99 = .ok (.putfield 39, 3) := by decide +kernel
theorem d_JT_init_102 : decode b_JT_init 102 = .ok (.aload_n 0, 1) := by decide +kernel
theorem d_JT_init_103 : decode b_JT_init 103 = .ok (.bipush 7, 2) := by decide +kernel
theorem d_JT_init_105 : decode b_JT_init 105 = .ok (.putfield 43, 3) := by decide +kernel
theorem d_JT_init_108 : decode b_JT_init 108 = .ok (.return_, 1) := by decide +kernel
theorem d_JT_program_0 : decode b_JT_program 0 = .ok (.iload_n 1, 1) := by decide +kernel
theorem d_JT_program_1 : decode b_JT_program 1 = .ok (.invokestatic 47, 3) := by decide +kernel
theorem d_JT_program_4 : decode b_JT_program 4 = .ok (.ifCond .eq 10, 3) := by decide +kernel
theorem d_JT_program_7 : decode b_JT_program 7 = .ok (.iload_n 2, 1) := by decide +kernel
theorem d_JT_program_8 : decode b_JT_program 8 = .ok (.invokestatic 51, 3) := by decide +kernel
theorem d_JT_program_11 : decode b_JT_program 11 = .ok (.ifCond .ne 5, 3) := by decide +kernel
theorem d_JT_program_14 : decode b_JT_program 14 = .ok (.iconst 0, 1) := by decide +kernel
theorem d_JT_program_15 : decode b_JT_program 15 = .ok (.ireturn, 1) := by decide +kernel
theorem d_JT_program_16 : decode b_JT_program 16 = .ok (.aload_n 0, 1) := by decide +kernel
theorem d_JT_program_17 : decode b_JT_program 17 = .ok (.getfield 10, 3) := by decide +kernel
theorem d_JT_program_20 : decode b_JT_program 20 = .ok (.iload_n 1, 1) := by decide +kernel
theorem d_JT_program_21 : decode b_JT_program 21 = .ok (.iload_n 2, 1) := by decide +kernel
theorem d_JT_program_22 : decode b_JT_program 22 = .ok (.iload_n 3, 1) := by decide +kernel
theorem d_JT_program_23 : decode b_JT_program 23 = .ok (.iload 4, 2) := by decide +kernel
theorem d_JT_program_25 : decode b_JT_program 25 = .ok (.invokevirtual 54, 3) := by decide +kernel
theorem d_JT_program_28 : decode b_JT_program 28 = .ok (.iconst 1, 1) := by decide +kernel
theorem d_JT_program_29 : decode b_JT_program 29 = .ok (.ireturn, 1) := by decide +kernel
theorem d_JT_flags_0 : decode b_JT_flags 0 = .ok (.iload_n 1, 1) := by decide +kernel
theorem d_JT_flags_1 : decode b_JT_flags 1 = .ok (.ifCond .lt 9, 3) := by decide +kernel
theorem d_JT_flags_4 : decode b_JT_flags 4 = .ok (.iload_n 1, 1) := by decide +kernel
theorem d_JT_flags_5 : decode b_JT_flags 5 = .ok (.bipush 63, 2) := by decide +kernel
theorem d_JT_flags_7 : decode b_JT_flags 7 = .ok (.if_icmp .le 5, 3) := by decide +kernel
theorem d_JT_flags_10 : decode b_JT_flags 10 = .ok (.iconst (-1), 1) := by decide +kernel
theorem d_JT_flags_11 : decode b_JT_flags 11 = .ok (.ireturn, 1) := by decide +kernel
theorem d_JT_flags_12 : decode b_JT_flags 12 = .ok (.aload_n 0, 1) := by decide +kernel
theorem d_JT_flags_13 : decode b_JT_flags 13 = .ok (.getfield 19, 3) := by decide +kernel
theorem d_JT_flags_16 : decode b_JT_flags 16 = .ok (.getfield 58, 3) := by decide +kernel
theorem d_JT_flags_19 : decode b_JT_flags 19 = .ok (.istore_n 2, 1) := by decide +kernel
theorem d_JT_flags_20 : decode b_JT_flags 20 = .ok (.aload_n 0, 1) := by decide +kernel
theorem d_JT_flags_21 : decode b_JT_flags 21 = .ok (.getfield 19, 3) := by decide +kernel
theorem d_JT_flags_24 : decode b_JT_flags 24 = .ok (.iload_n 1, 1) := by decide +kernel
theorem d_JT_flags_25 : decode b_JT_flags 25 = .ok (.putfield 58, 3) := by decide +kernel
theorem d_JT_flags_28 : decode b_JT_flags 28 = .ok (.iload_n 2, 1) := by decide +kernel
theorem d_JT_flags_29 : decode b_JT_flags 29 = .ok (.ireturn, 1) := by decide +kernel
theorem d_JT_key_0 : decode b_JT_key 0 = .ok (.iload_n 1, 1) := by decide +kernel
theorem d_JT_key_1 : decode b_JT_key 1 = .ok (.bipush 127, 2) := by decide +kernel
theorem d_JT_key_3 : decode b_JT_key 3 = .ok (.if_icmp .le 5, 3) := by decide +kernel
theorem d_JT_key_6 : decode b_JT_key 6 = .ok (.iconst 0, 1) := by decide +kernel
theorem d_JT_key_7 : decode b_JT_key 7 = .ok (.ireturn, 1) := by decide +kernel
theorem d_JT_key_8 : decode b_JT_key 8 = .ok (.aload_n 0, 1) := by decide +kernel
theorem d_JT_key_9 : decode b_JT_key 9 = .ok (.getfield 19, 3) := by decide +kernel
theorem d_JT_key_12 : decode b_JT_key 12 = .ok (.iload_n 1, 1) := by decide +kernel
theorem d_JT_key_13 : decode b_JT_key 13 = .ok (.invokevirtual 61, 3) := by decide +kernel
theorem d_JT_key_16 : decode b_JT_key 16 = .ok (.istore_n 2, 1) := by decide +kernel
theorem d_JT_key_17 : decode b_JT_key 17 = .ok (.aload_n 0, 1) := by decide +kernel
theorem d_JT_key_18 : decode b_JT_key 18 = .ok (.getfield 19, 3) := by decide +kernel
theorem d_JT_key_21 : decode b_JT_key 21 = .ok (.iload_n 2, 1) := by decide +kernel
theorem d_JT_key_22 : decode b_JT_key 22 = .ok (.invokevirtual 65, 3) := by decide +kernel
theorem d_JT_key_25 : decode b_JT_key 25 = .ok (.istore_n 3, 1) := by decide +kernel
theorem d_JT_key_26 : decode b_JT_key 26 = .ok (.iload_n 3, 1) := by decide +kernel
theorem d_JT_key_27 : decode b_JT_key 27 = .ok (.iconst (-1), 1) := by decide +kernel
theorem d_JT_key_28 : decode b_JT_key 28 = .ok (.if_icmp .ne 12, 3) := by decide +kernel
theorem d_JT_key_31 : decode b_JT_key 31 = .ok (.aload_n 0, 1) := by decide +kernel
theorem d_JT_key_32 : decode b_JT_key 32 = .ok (.getfield 19, 3) := by decide +kernel
theorem d_JT_key_35 : decode b_JT_key 35 = .ok (.iload_n 2, 1) := by decide +kernel
theorem d_JT_key_36 : decode b_JT_key 36 = .ok (.invokevirtual 68, 3) := by decide +kernel
theorem d_JT_key_39 : decode b_JT_key 39 = .ok (.ireturn, 1) := by decide +kernel
theorem d_JT_key_40 : decode b_JT_key 40 = .ok (.aload_n 0, 1) := by decide +kernel
theorem d_JT_key_41 : decode b_JT_key 41 = .ok (.getfield 39, 3) := by decide +kernel
theorem d_JT_key_44 : decode b_JT_key 44 = .ok (.ifnull 11, 3) := by decide +kernel
theorem d_JT_key_47 : decode b_JT_key 47 = .ok (.aload_n 0, 1) := by decide +kernel
theorem d_JT_key_48 : decode b_JT_key 48 = .ok (.getfield 39, 3) := by decide +kernel
theorem d_JT_key_51 : decode b_JT_key 51 = .ok (.iload_n 3, 1) := by decide +kernel
theorem d_JT_key_52 : decode b_JT_key 52 = .ok (.invokevirtual 71, 3) := by decide +kernel
theorem d_JT_key_55 : decode b_JT_key 55 = .ok (.aload_n 0, 1) := by decide +kernel
theorem d_JT_key_56 : decode b_JT_key 56 = .ok (.getfield 19, 3) := by decide +kernel
theorem d_JT_key_59 : decode b_JT_key 59 = .ok (.iload_n 2, 1) := by decide +kernel
theorem d_JT_key_60 : decode b_JT_key 60 = .ok (.invokevirtual 74, 3) := by decide +kernel
theorem d_JT_key_63 : decode b_JT_key 63 = .ok (.aload_n 0, 1) := by decide +kernel
theorem d_JT_key_64 : decode b_JT_key 64 = .ok (.invokevirtual 77, 3) := by decide +kernel
theorem d_JT_key_67 : decode b_JT_key 67 = .ok (.iconst 1, 1) := by decide +kernel
theorem d_JT_key_68 : decode b_JT_key 68 = .ok (.ireturn, 1) := by decide +kernel
theorem d_JT_launch_0 : decode b_JT_launch 0 = .ok (.iload_n 2, 1) := by decide +kernel
theorem d_JT_launch_1 : decode b_JT_launch 1 = .ok (.iconst (-1), 1) := by decide +kernel
theorem d_JT_launch_2 : decode b_JT_launch 2 = .ok (.if_icmp .eq 7, 3) := by decide +kernel
theorem d_JT_launch_5 : decode b_JT_launch 5 = .ok (.iconst 1, 1) := by decide +kernel
theorem d_JT_launch_6 : decode b_JT_launch 6 = .ok (.goto 4, 3) := by decide +kernel
theorem d_JT_launch_9 : decode b_JT_launch 9 = .ok (.iconst 0, 1) := by decide +kernel
theorem d_JT_launch_10 : decode b_JT_launch 10 = .ok (.istore 4, 2) := by decide +kernel
theorem d_JT_launch_12 : decode b_JT_launch 12 = .ok (.iload_n 1, 1) := by decide +kernel
theorem d_JT_launch_13 : decode b_JT_launch 13 = .ok (.invokestatic 47, 3) := by decide +kernel
theorem d_JT_launch_16 : decode b_JT_launch 16 = .ok (.ifCond .eq 15, 3) := by decide +kernel
theorem d_JT_launch_19 : decode b_JT_launch 19 = .ok (.iload 4, 2) := by decide +kernel
theorem d_JT_launch_21 : decode b_JT_launch 21 = .ok (.ifCond .eq 20, 3) := by decide +kernel
theorem d_JT_launch_24 : decode b_JT_launch 24 = .ok (.iload_n 2, 1) := by decide +kernel
theorem d_JT_launch_25 : decode b_JT_launch 25 = .ok (.invokestatic 47, 3) := by decide +kernel
theorem d_JT_launch_28 : decode b_JT_launch 28 = .ok (.ifCond .ne 13, 3) := by decide +kernel
theorem d_JT_launch_31 : decode b_JT_launch 31 = .ok (.new 80, 3) := by decide +kernel
theorem d_JT_launch_34 : decode b_JT_launch 34 = .ok (.dup, 1) := by decide +kernel
theorem d_JT_launch_35 : decode b_JT_launch 35 = .ok (.ldc 82, 2) := by decide +kernel
theorem d_JT_launch_37 : decode b_JT_launch 37 = .ok (.invokespecial 84, 3) := by decide +kernel
theorem d_JT_launch_40 : decode b_JT_launch 40 = .ok (.athrow, 1) := by decide +kernel
theorem d_JT_launch_41 : decode b_JT_launch 41 = .ok (.iload_n 3, 1) := by decide +kernel
theorem d_JT_launch_42 : decode b_JT_launch 42 = .ok (.ifCond .ne 20, 3) := by decide +kernel
theorem d_JT_launch_45 : decode b_JT_launch 45 = .ok (.aload_n 0, 1) := by decide +kernel
theorem d_JT_launch_46 : decode b_JT_launch 46 = .ok (.getfield 39, 3) := by decide +kernel
theorem d_JT_launch_49 : decode b_JT_launch 49 = .ok (.ifnull 13, 3) := by decide +kernel
theorem d_JT_launch_52 : decode b_JT_launch 52 = .ok (.new 87, 3) := by decide +kernel
theorem d_JT_launch_55 : decode b_JT_launch 55 = .ok (.dup, 1) := by decide +kernel
theorem d_JT_launch_56 : decode b_JT_launch 56 = .ok (.ldc 89, 2) := by decide +kernel
theorem d_JT_launch_58 : decode b_JT_launch 58 = .ok (.invokespecial 91, 3) := by decide +kernel
theorem d_JT_launch_61 : decode b_JT_launch 61 = .ok (.athrow, 1) := by decide +kernel
theorem d_JT_launch_62 : decode b_JT_launch 62 = .ok (.aload_n 0, 1) := by decide +kernel
theorem d_JT_launch_63 : decode b_JT_launch 63 = .ok (.invokevirtual 92, 3) := by decide +kernel
theorem d_JT_launch_66 : decode b_JT_launch 66 = .ok (.astore 5, 2) := by decide +kernel
theorem d_JT_launch_68 : decode b_JT_launch 68 = .ok (.aload_n 0, 1) := by decide +kernel
theorem d_JT_launch_69 : decode b_JT_launch 69 = .ok (.iconst 0, 1) := by decide +kernel
theorem d_JT_launch_70 : decode b_JT_launch 70 = .ok (.invokevirtual 96, 3) := by decide +kernel
theorem d_JT_launch_73 : decode b_JT_launch 73 = .ok (.astore 6, 2) := by decide +kernel
theorem d_JT_launch_75 : decode b_JT_launch 75 = .ok (.iload 4, 2) := by decide +kernel
theorem d_JT_launch_77 : decode b_JT_launch 77 = .ok (.ifCond .eq 11, 3) := by decide +kernel
theorem d_JT_launch_80 : decode b_JT_launch 80 = .ok (.aload_n 0, 1) := by decide +kernel
theorem d_JT_launch_81 : decode b_JT_launch 81 = .ok (.iconst 1, 1) := by decide +kernel
theorem d_JT_launch_82 : decode b_JT_launch 82 = .ok (.invokevirtual 96, 3) := by decide +kernel
theorem d_JT_launch_85 : decode b_JT_launch 85 = .ok (.goto 4, 3) := by decide +kernel
theorem d_JT_launch_88 : decode b_JT_launch 88 = .ok (.aconst_null, 1) := by decide +kernel
theorem d_JT_launch_89 : decode b_JT_launch 89 = .ok (.astore 7, 2) := by decide +kernel
theorem d_JT_launch_91 : decode b_JT_launch 91 = .ok (.aload 5, 2) := by decide +kernel
theorem d_JT_launch_93 : decode b_JT_launch 93 = .ok (.ifnonnull 13, 3) := by decide +kernel
theorem d_JT_launch_96 : decode b_JT_launch 96 = .ok (.new 87, 3) := by decide +kernel
theorem d_JT_launch_99 : decode b_JT_launch 99 = .ok (.dup, 1) := by decide +kernel
theorem d_JT_launch_100 : decode b_JT_launch 100 = .ok (.ldc 100, 2) := by decide +kernel
theorem d_JT_launch_102 : decode b_JT_launch 102 = .ok (.invokespecial 91, 3) := by decide +kernel
theorem d_JT_launch_105 : decode b_JT_launch 105 = .ok (.athrow, 1) := by decide +kernel
theorem d_JT_launch_106 : decode b_JT_launch 106 = .ok (.aload 6, 2) := by decide +kernel
theorem d_JT_launch_108 : decode b_JT_launch 108 = .ok (.ifnull 13, 3) := by decide +kernel
theorem d_JT_launch_111 : decode b_JT_launch 111 = .ok (.iload 4, 2) := by decide +kernel
theorem d_JT_launch_113 : decode b_JT_launch 113 = .ok (.ifCond .eq 18, 3) := by decide +kernel
theorem d_JT_launch_116 : decode b_JT_launch 116 = .ok (.aload 7, 2) := by decide +kernel
theorem d_JT_launch_118 : decode b_JT_launch 118 = .ok (.ifnonnull 13, 3) := by decide +kernel
theorem d_JT_launch_121 : decode b_JT_launch 121 = .ok (.new 87, 3) := by decide +kernel
theorem d_JT_launch_124 : decode b_JT_launch 124 = .ok (.dup, 1) := by decide +kernel
theorem d_JT_launch_125 : decode b_JT_launch 125 = .ok (.ldc 102, 2) := by decide +kernel
theorem d_JT_launch_127 : decode b_JT_launch 127 = .ok (.invokespecial 91, 3) := by decide +kernel
theorem d_JT_launch_130 : decode b_JT_launch 130 = .ok (.athrow, 1) := by decide +kernel
theorem d_JT_launch_131 : decode b_JT_launch 131 = .ok (.aload 6, 2) := by decide +kernel
theorem d_JT_launch_133 : decode b_JT_launch 133 = .ok (.aload 5, 2) := by decide +kernel
theorem d_JT_launch_135 : decode b_JT_launch 135 = .ok (.iload_n 1, 1) := by decide +kernel
theorem d_JT_launch_136 : decode b_JT_launch 136 = .ok (.invokevirtual 104, 3) := by decide +kernel
theorem d_JT_launch_139 : decode b_JT_launch 139 = .ok (.aload 7, 2) := by decide +kernel
theorem d_JT_launch_141 : decode b_JT_launch 141 = .ok (.ifnull 11, 3) := by decide +kernel
theorem d_JT_launch_144 : decode b_JT_launch 144 = .ok (.aload 7, 2) := by decide +kernel
theorem d_JT_launch_146 : decode b_JT_launch 146 = .ok (.aload 5, 2) := by decide +kernel
theorem d_JT_launch_148 : decode b_JT_launch 148 = .ok (.iload_n 2, 1) := by decide +kernel
theorem d_JT_launch_149 : decode b_JT_launch 149 = .ok (.invokevirtual 104, 3) := by decide +kernel
theorem d_JT_launch_152 : decode b_JT_launch 152 = .ok (.aload 5, 2) := by decide +kernel
theorem d_JT_launch_154 : decode b_JT_launch 154 = .ok (.aload 6, 2) := by decide +kernel
theorem d_JT_launch_156 : decode b_JT_launch 156 = .ok (.aload 7, 2) := by decide +kernel
theorem d_JT_launch_158 : decode b_JT_launch 158 = .ok (.invokevirtual 108, 3) := by decide +kernel
theorem d_JT_launch_161 : decode b_JT_launch 161 = .ok (.iload_n 3, 1) := by decide +kernel
theorem d_JT_launch_162 : decode b_JT_launch 162 = .ok (.ifCond .ne 9, 3) := by decide +kernel
theorem d_JT_launch_165 : decode b_JT_launch 165 = .ok (.aload_n 0, 1) := by decide +kernel
theorem d_JT_launch_166 : decode b_JT_launch 166 = .ok (.aload 5, 2) := by decide +kernel
theorem d_JT_launch_168 : decode b_JT_launch 168 = .ok (.putfield 39, 3) := by decide +kernel
theorem d_JT_launch_171 : decode b_JT_launch 171 = .ok (.aload 5, 2) := by decide +kernel
theorem d_JT_launch_173 : decode b_JT_launch 173 = .ok (.getfield 111, 3) := by decide +kernel
theorem d_JT_launch_176 : decode b_JT_launch 176 = .ok (.ireturn, 1) := by decide +kernel
theorem d_JT_front_0 : decode b_JT_front 0 = .ok (.aload_n 0, 1) := by decide +kernel
theorem d_JT_front_1 : decode b_JT_front 1 = .ok (.iload_n 1, 1) := by decide +kernel
theorem d_JT_front_2 : decode b_JT_front 2 = .ok (.invokevirtual 114, 3) := by decide +kernel
theorem d_JT_front_5 : decode b_JT_front 5 = .ok (.astore_n 2, 1) := by decide +kernel
theorem d_JT_front_6 : decode b_JT_front 6 = .ok (.aload_n 2, 1) := by decide +kernel
theorem d_JT_front_7 : decode b_JT_front 7 = .ok (.ifnonnull 13, 3) := by decide +kernel
theorem d_JT_front_10 : decode b_JT_front 10 = .ok (.new 80, 3) := by decide +kernel
theorem d_JT_front_13 : decode b_JT_front 13 = .ok (.dup, 1) := by decide +kernel
theorem d_JT_front_14 : decode b_JT_front 14 = .ok (.ldc 118, 2) := by decide +kernel
theorem d_JT_front_16 : decode b_JT_front 16 = .ok (.invokespecial 84, 3) := by decide +kernel
theorem d_JT_front_19 : decode b_JT_front 19 = .ok (.athrow, 1) := by decide +kernel
theorem d_JT_front_20 : decode b_JT_front 20 = .ok (.aload_n 0, 1) := by decide +kernel
theorem d_JT_front_21 : decode b_JT_front 21 = .ok (.getfield 39, 3) := by decide +kernel
theorem d_JT_front_24 : decode b_JT_front 24 = .ok (.ifnull 21, 3) := by decide +kernel
theorem d_JT_front_27 : decode b_JT_front 27 = .ok (.aload_n 0, 1) := by decide +kernel
theorem d_JT_front_28 : decode b_JT_front 28 = .ok (.getfield 39, 3) := by decide +kernel
theorem d_JT_front_31 : decode b_JT_front 31 = .ok (.aload_n 2, 1) := by decide +kernel
theorem d_JT_front_32 : decode b_JT_front 32 = .ok (.if_acmp .eq 13, 3) := by decide +kernel
theorem d_JT_front_35 : decode b_JT_front 35 = .ok (.new 87, 3) := by decide +kernel
theorem d_JT_front_38 : decode b_JT_front 38 = .ok (.dup, 1) := by decide +kernel
theorem d_JT_front_39 : decode b_JT_front 39 = .ok (.ldc 89, 2) := by decide +kernel
theorem d_JT_front_41 : decode b_JT_front 41 = .ok (.invokespecial 91, 3) := by decide +kernel
theorem d_JT_front_44 : decode b_JT_front 44 = .ok (.athrow, 1) := by decide +kernel
theorem d_JT_front_45 : decode b_JT_front 45 = .ok (.aload_n 2, 1) := by decide +kernel
theorem d_JT_front_46 : decode b_JT_front 46 = .ok (.invokevirtual 120, 3) := by decide +kernel
theorem d_JT_front_49 : decode b_JT_front 49 = .ok (.iconst 3, 1) := by decide +kernel
theorem d_JT_front_50 : decode b_JT_front 50 = .ok (.if_icmp .ne 13, 3) := by decide +kernel
theorem d_JT_front_53 : decode b_JT_front 53 = .ok (.new 87, 3) := by decide +kernel
theorem d_JT_front_56 : decode b_JT_front 56 = .ok (.dup, 1) := by decide +kernel
theorem d_JT_front_57 : decode b_JT_front 57 = .ok (.ldc 124, 2) := by decide +kernel
theorem d_JT_front_59 : decode b_JT_front 59 = .ok (.invokespecial 91, 3) := by decide +kernel
theorem d_JT_front_62 : decode b_JT_front 62 = .ok (.athrow, 1) := by decide +kernel
theorem d_JT_front_63 : decode b_JT_front 63 = .ok (.aload_n 0, 1) := by decide +kernel
theorem d_JT_front_64 : decode b_JT_front 64 = .ok (.aload_n 2, 1) := by decide +kernel
theorem d_JT_front_65 : decode b_JT_front 65 = .ok (.putfield 39, 3) := by decide +kernel
theorem d_JT_front_68 : decode b_JT_front 68 = .ok (.aload_n 0, 1) := by decide +kernel
theorem d_JT_front_69 : decode b_JT_front 69 = .ok (.aload_n 2, 1) := by decide +kernel
theorem d_JT_front_70 : decode b_JT_front 70 = .ok (.iconst 5, 1) := by decide +kernel
theorem d_JT_front_71 : decode b_JT_front 71 = .ok (.invokevirtual 126, 3) := by decide +kernel
theorem d_JT_front_74 : decode b_JT_front 74 = .ok (.ireturn, 1) := by decide +kernel
theorem d_JT_back_0 : decode b_JT_back 0 = .ok (.aload_n 0, 1) := by decide +kernel
theorem d_JT_back_1 : decode b_JT_back 1 = .ok (.iload_n 1, 1) := by decide +kernel
theorem d_JT_back_2 : decode b_JT_back 2 = .ok (.invokevirtual 114, 3) := by decide +kernel
theorem d_JT_back_5 : decode b_JT_back 5 = .ok (.astore_n 2, 1) := by decide +kernel
theorem d_JT_back_6 : decode b_JT_back 6 = .ok (.aload_n 2, 1) := by decide +kernel
theorem d_JT_back_7 : decode b_JT_back 7 = .ok (.ifnonnull 13, 3) := by decide +kernel
theorem d_JT_back_10 : decode b_JT_back 10 = .ok (.new 80, 3) := by decide +kernel
theorem d_JT_back_13 : decode b_JT_back 13 = .ok (.dup, 1) := by decide +kernel
theorem d_JT_back_14 : decode b_JT_back 14 = .ok (.ldc 118, 2) := by decide +kernel
theorem d_JT_back_16 : decode b_JT_back 16 = .ok (.invokespecial 84, 3) := by decide +kernel
theorem d_JT_back_19 : decode b_JT_back 19 = .ok (.athrow, 1) := by decide +kernel
theorem d_JT_back_20 : decode b_JT_back 20 = .ok (.aload_n 2, 1) := by decide +kernel
theorem d_JT_back_21 : decode b_JT_back 21 = .ok (.invokevirtual 120, 3) := by decide +kernel
theorem d_JT_back_24 : decode b_JT_back 24 = .ok (.iconst 3, 1) := by decide +kernel
theorem d_JT_back_25 : decode b_JT_back 25 = .ok (.if_icmp .ne 13, 3) := by decide +kernel
theorem d_JT_back_28 : decode b_JT_back 28 = .ok (.new 87, 3) := by decide +kernel
theorem d_JT_back_31 : decode b_JT_back 31 = .ok (.dup, 1) := by decide +kernel
theorem d_JT_back_32 : decode b_JT_back 32 = .ok (.ldc 124, 2) := by decide +kernel
theorem d_JT_back_34 : decode b_JT_back 34 = .ok (.invokespecial 91, 3) := by decide +kernel
theorem d_JT_back_37 : decode b_JT_back 37 = .ok (.athrow, 1) := by decide +kernel
theorem d_JT_back_38 : decode b_JT_back 38 = .ok (.aload_n 0, 1) := by decide +kernel
theorem d_JT_back_39 : decode b_JT_back 39 = .ok (.getfield 39, 3) := by decide +kernel
theorem d_JT_back_42 : decode b_JT_back 42 = .ok (.aload_n 2, 1) := by decide +kernel
theorem d_JT_back_43 : decode b_JT_back 43 = .ok (.if_acmp .ne 8, 3) := by decide +kernel
theorem d_JT_back_46 : decode b_JT_back 46 = .ok (.aload_n 0, 1) := by decide +kernel
theorem d_JT_back_47 : decode b_JT_back 47 = .ok (.aconst_null, 1) := by decide +kernel
theorem d_JT_back_48 : decode b_JT_back 48 = .ok (.putfield 39, 3) := by decide +kernel
theorem d_JT_back_51 : decode b_JT_back 51 = .ok (.aload_n 0, 1) := by decide +kernel
theorem d_JT_back_52 : decode b_JT_back 52 = .ok (.aload_n 2, 1) := by decide +kernel
theorem d_JT_back_53 : decode b_JT_back 53 = .ok (.iconst 5, 1) := by decide +kernel
theorem d_JT_back_54 : decode b_JT_back 54 = .ok (.invokevirtual 126, 3) := by decide +kernel
theorem d_JT_back_57 : decode b_JT_back 57 = .ok (.ireturn, 1) := by decide +kernel
theorem d_JT_send_0 : decode b_JT_send 0 = .ok (.aload_n 0, 1) := by decide +kernel
theorem d_JT_send_1 : decode b_JT_send 1 = .ok (.iload_n 1, 1) := by decide +kernel
theorem d_JT_send_2 : decode b_JT_send 2 = .ok (.invokevirtual 114, 3) := by decide +kernel
theorem d_JT_send_5 : decode b_JT_send 5 = .ok (.astore_n 3, 1) := by decide +kernel
theorem d_JT_send_6 : decode b_JT_send 6 = .ok (.aload_n 3, 1) := by decide +kernel
theorem d_JT_send_7 : decode b_JT_send 7 = .ok (.ifnonnull 13, 3) := by decide +kernel
theorem d_JT_send_10 : decode b_JT_send 10 = .ok (.new 80, 3) := by decide +kernel
theorem d_JT_send_13 : decode b_JT_send 13 = .ok (.dup, 1) := by decide +kernel
theorem d_JT_send_14 : decode b_JT_send 14 = .ok (.ldc 118, 2) := by decide +kernel
theorem d_JT_send_16 : decode b_JT_send 16 = .ok (.invokespecial 84, 3) := by decide +kernel
theorem d_JT_send_19 : decode b_JT_send 19 = .ok (.athrow, 1) := by decide +kernel
theorem d_JT_send_20 : decode b_JT_send 20 = .ok (.iload_n 2, 1) := by decide +kernel
theorem d_JT_send_21 : decode b_JT_send 21 = .ok (.ifCond .lt 9, 3) := by decide +kernel
theorem d_JT_send_24 : decode b_JT_send 24 = .ok (.iload_n 2, 1) := by decide +kernel
theorem d_JT_send_25 : decode b_JT_send 25 = .ok (.bipush 9, 2) := by decide +kernel
theorem d_JT_send_27 : decode b_JT_send 27 = .ok (.if_icmp .le 13, 3) := by decide +kernel
theorem d_JT_send_30 : decode b_JT_send 30 = .ok (.new 80, 3) := by decide +kernel
theorem d_JT_send_33 : decode b_JT_send 33 = .ok (.dup, 1) := by decide +kernel
theorem d_JT_send_34 : decode b_JT_send 34 = .ok (.ldc 130, 2) := by decide +kernel
theorem d_JT_send_36 : decode b_JT_send 36 = .ok (.invokespecial 84, 3) := by decide +kernel
theorem d_JT_send_39 : decode b_JT_send 39 = .ok (.athrow, 1) := by decide +kernel
theorem d_JT_send_40 : decode b_JT_send 40 = .ok (.aload_n 0, 1) := by decide +kernel
theorem d_JT_send_41 : decode b_JT_send 41 = .ok (.aload_n 3, 1) := by decide +kernel
theorem d_JT_send_42 : decode b_JT_send 42 = .ok (.iload_n 2, 1) := by decide +kernel
theorem d_JT_send_43 : decode b_JT_send 43 = .ok (.invokevirtual 126, 3) := by decide +kernel
theorem d_JT_send_46 : decode b_JT_send 46 = .ok (.ireturn, 1) := by decide +kernel
theorem d_JT_report_0 : decode b_JT_report 0 = .ok (.iconst 0, 1) := by decide +kernel
theorem d_JT_report_1 : decode b_JT_report 1 = .ok (.istore_n 1, 1) := by decide +kernel
theorem d_JT_report_2 : decode b_JT_report 2 = .ok (.iload_n 1, 1) := by decide +kernel
theorem d_JT_report_3 : decode b_JT_report 3 = .ok (.iconst 4, 1) := by decide +kernel
theorem d_JT_report_4 : decode b_JT_report 4 = .ok (.if_icmp .ge 36, 3) := by decide +kernel
theorem d_JT_report_7 : decode b_JT_report 7 = .ok (.aload_n 0, 1) := by decide +kernel
theorem d_JT_report_8 : decode b_JT_report 8 = .ok (.getfield 32, 3) := by decide +kernel
theorem d_JT_report_11 : decode b_JT_report 11 = .ok (.iload_n 1, 1) := by decide +kernel
theorem d_JT_report_12 : decode b_JT_report 12 = .ok (.aaload, 1) := by decide +kernel
theorem d_JT_report_13 : decode b_JT_report 13 = .ok (.astore_n 2, 1) := by decide +kernel
theorem d_JT_report_14 : decode b_JT_report 14 = .ok (.aload_n 2, 1) := by decide +kernel
theorem d_JT_report_15 : decode b_JT_report 15 = .ok (.invokevirtual 132, 3) := by decide +kernel
theorem d_JT_report_18 : decode b_JT_report 18 = .ok (.ifCond .eq 16, 3) := by decide +kernel
theorem d_JT_report_21 : decode b_JT_report 21 = .ok (.aload_n 2, 1) := by decide +kernel
theorem d_JT_report_22 : decode b_JT_report 22 = .ok (.getfield 136, 3) := by decide +kernel
theorem d_JT_report_25 : decode b_JT_report 25 = .ok (.ifCond .eq 9, 3) := by decide +kernel
theorem d_JT_report_28 : decode b_JT_report 28 = .ok (.aload_n 0, 1) := by decide +kernel
theorem d_JT_report_29 : decode b_JT_report 29 = .ok (.aload_n 2, 1) := by decide +kernel
theorem d_JT_report_30 : decode b_JT_report 30 = .ok (.invokevirtual 140, 3) := by decide +kernel
theorem d_JT_report_33 : decode b_JT_report 33 = .ok (.ireturn, 1) := by decide +kernel
theorem d_JT_report_34 : decode b_JT_report 34 = .ok (.iinc 1 1, 3) := by decide +kernel
theorem d_JT_report_37 : decode b_JT_report 37 = .ok (.goto (-35), 3) := by decide +kernel
theorem d_JT_report_40 : decode b_JT_report 40 = .ok (.iconst (-1), 1) := by decide +kernel
theorem d_JT_report_41 : decode b_JT_report 41 = .ok (.ireturn, 1) := by decide +kernel
theorem d_JT_step_0 : decode b_JT_step 0 = .ok (.iload_n 1, 1) := by decide +kernel
theorem d_JT_step_1 : decode b_JT_step 1 = .ok (.iconst 1, 1) := by decide +kernel
theorem d_JT_step_2 : decode b_JT_step 2 = .ok (.if_icmp .lt 9, 3) := by decide +kernel
theorem d_JT_step_5 : decode b_JT_step 5 = .ok (.iload_n 1, 1) := by decide +kernel
theorem d_JT_step_6 : decode b_JT_step 6 = .ok (.bipush 64, 2) := by decide +kernel
theorem d_JT_step_8 : decode b_JT_step 8 = .ok (.if_icmp .le 5, 3) := by decide +kernel
theorem d_JT_step_11 : decode b_JT_step 11 = .ok (.iconst (-1), 1) := by decide +kernel
theorem d_JT_step_12 : decode b_JT_step 12 = .ok (.ireturn, 1) := by decide +kernel
theorem d_JT_step_13 : decode b_JT_step 13 = .ok (.iconst 0, 1) := by decide +kernel
theorem d_JT_step_14 : decode b_JT_step 14 = .ok (.istore_n 2, 1) := by decide +kernel
theorem d_JT_step_15 : decode b_JT_step 15 = .ok (.iload_n 2, 1) := by decide +kernel
theorem d_JT_step_16 : decode b_JT_step 16 = .ok (.iload_n 1, 1) := by decide +kernel
theorem d_JT_step_17 : decode b_JT_step 17 = .ok (.if_icmp .ge 44, 3) := by decide +kernel
theorem d_JT_step_20 : decode b_JT_step 20 = .ok (.aload_n 0, 1) := by decide +kernel
theorem d_JT_step_21 : decode b_JT_step 21 = .ok (.invokevirtual 144, 3) := by decide +kernel
theorem d_JT_step_24 : decode b_JT_step 24 = .ok (.astore_n 3, 1) := by decide +kernel
theorem d_JT_step_25 : decode b_JT_step 25 = .ok (.aload_n 3, 1) := by decide +kernel
theorem d_JT_step_26 : decode b_JT_step 26 = .ok (.ifnonnull 5, 3) := by decide +kernel
theorem d_JT_step_29 : decode b_JT_step 29 = .ok (.iload_n 2, 1) := by decide +kernel
theorem d_JT_step_30 : decode b_JT_step 30 = .ok (.ireturn, 1) := by decide +kernel
theorem d_JT_step_31 : decode b_JT_step 31 = .ok (.aload_n 0, 1) := by decide +kernel
theorem d_JT_step_32 : decode b_JT_step 32 = .ok (.aload_n 3, 1) := by decide +kernel
theorem d_JT_step_33 : decode b_JT_step 33 = .ok (.invokevirtual 148, 3) := by decide +kernel
theorem d_JT_step_36 : decode b_JT_step 36 = .ok (.istore 4, 2) := by decide +kernel
theorem d_JT_step_38 : decode b_JT_step 38 = .ok (.aload_n 0, 1) := by decide +kernel
theorem d_JT_step_39 : decode b_JT_step 39 = .ok (.aload_n 3, 1) := by decide +kernel
theorem d_JT_step_40 : decode b_JT_step 40 = .ok (.getfield 152, 3) := by decide +kernel
theorem d_JT_step_43 : decode b_JT_step 43 = .ok (.invokevirtual 155, 3) := by decide +kernel
theorem d_JT_step_46 : decode b_JT_step 46 = .ok (.iload 4, 2) := by decide +kernel
theorem d_JT_step_48 : decode b_JT_step 48 = .ok (.ifCond .eq 7, 3) := by decide +kernel
theorem d_JT_step_51 : decode b_JT_step 51 = .ok (.iload_n 2, 1) := by decide +kernel
theorem d_JT_step_52 : decode b_JT_step 52 = .ok (.iconst 1, 1) := by decide +kernel
theorem d_JT_step_53 : decode b_JT_step 53 = .ok (.iadd, 1) := by decide +kernel
theorem d_JT_step_54 : decode b_JT_step 54 = .ok (.ireturn, 1) := by decide +kernel
theorem d_JT_step_55 : decode b_JT_step 55 = .ok (.iinc 2 1, 3) := by decide +kernel
theorem d_JT_step_58 : decode b_JT_step 58 = .ok (.goto (-43), 3) := by decide +kernel
theorem d_JT_step_61 : decode b_JT_step 61 = .ok (.iload_n 1, 1) := by decide +kernel
theorem d_JT_step_62 : decode b_JT_step 62 = .ok (.ireturn, 1) := by decide +kernel
theorem d_JT_tick_0 : decode b_JT_tick 0 = .ok (.iconst 0, 1) := by decide +kernel
theorem d_JT_tick_1 : decode b_JT_tick 1 = .ok (.istore_n 1, 1) := by decide +kernel
theorem d_JT_tick_2 : decode b_JT_tick 2 = .ok (.iconst 0, 1) := by decide +kernel
theorem d_JT_tick_3 : decode b_JT_tick 3 = .ok (.istore_n 2, 1) := by decide +kernel
theorem d_JT_tick_4 : decode b_JT_tick 4 = .ok (.iload_n 2, 1) := by decide +kernel
theorem d_JT_tick_5 : decode b_JT_tick 5 = .ok (.bipush 8, 2) := by decide +kernel
theorem d_JT_tick_7 : decode b_JT_tick 7 = .ok (.if_icmp .ge 44, 3) := by decide +kernel
theorem d_JT_tick_10 : decode b_JT_tick 10 = .ok (.aload_n 0, 1) := by decide +kernel
theorem d_JT_tick_11 : decode b_JT_tick 11 = .ok (.getfield 25, 3) := by decide +kernel
theorem d_JT_tick_14 : decode b_JT_tick 14 = .ok (.iload_n 2, 1) := by decide +kernel
theorem d_JT_tick_15 : decode b_JT_tick 15 = .ok (.aaload, 1) := by decide +kernel
theorem d_JT_tick_16 : decode b_JT_tick 16 = .ok (.astore_n 3, 1) := by decide +kernel
theorem d_JT_tick_17 : decode b_JT_tick 17 = .ok (.aload_n 3, 1) := by decide +kernel
theorem d_JT_tick_18 : decode b_JT_tick 18 = .ok (.getfield 159, 3) := by decide +kernel
theorem d_JT_tick_21 : decode b_JT_tick 21 = .ok (.iconst 1, 1) := by decide +kernel
theorem d_JT_tick_22 : decode b_JT_tick 22 = .ok (.if_icmp .ne 23, 3) := by decide +kernel
theorem d_JT_tick_25 : decode b_JT_tick 25 = .ok (.aload_n 3, 1) := by decide +kernel
theorem d_JT_tick_26 : decode b_JT_tick 26 = .ok (.getfield 161, 3) := by decide +kernel
theorem d_JT_tick_29 : decode b_JT_tick 29 = .ok (.ifCond .le 16, 3) := by decide +kernel
theorem d_JT_tick_32 : decode b_JT_tick 32 = .ok (.aload_n 3, 1) := by decide +kernel
theorem d_JT_tick_33 : decode b_JT_tick 33 = .ok (.dup, 1) := by decide +kernel
theorem d_JT_tick_34 : decode b_JT_tick 34 = .ok (.getfield 161, 3) := by decide +kernel
theorem d_JT_tick_37 : decode b_JT_tick 37 = .ok (.iconst 1, 1) := by decide +kernel
theorem d_JT_tick_38 : decode b_JT_tick 38 = .ok (.isub, 1) := by decide +kernel
theorem d_JT_tick_39 : decode b_JT_tick 39 = .ok (.putfield 161, 3) := by decide +kernel
theorem d_JT_tick_42 : decode b_JT_tick 42 = .ok (.iinc 1 1, 3) := by decide +kernel
theorem d_JT_tick_45 : decode b_JT_tick 45 = .ok (.iinc 2 1, 3) := by decide +kernel
theorem d_JT_tick_48 : decode b_JT_tick 48 = .ok (.goto (-44), 3) := by decide +kernel
theorem d_JT_tick_51 : decode b_JT_tick 51 = .ok (.iload_n 1, 1) := by decide +kernel
theorem d_JT_tick_52 : decode b_JT_tick 52 = .ok (.ireturn, 1) := by decide +kernel
theorem d_JT_hang_0 : decode b_JT_hang 0 = .ok (.aload_n 0, 1) := by decide +kernel
theorem d_JT_hang_1 : decode b_JT_hang 1 = .ok (.getfield 19, 3) := by decide +kernel
theorem d_JT_hang_4 : decode b_JT_hang 4 = .ok (.getfield 164, 3) := by decide +kernel
theorem d_JT_hang_7 : decode b_JT_hang 7 = .ok (.ifCond .eq 5, 3) := by decide +kernel
theorem d_JT_hang_10 : decode b_JT_hang 10 = .ok (.iconst 0, 1) := by decide +kernel
theorem d_JT_hang_11 : decode b_JT_hang 11 = .ok (.ireturn, 1) := by decide +kernel
theorem d_JT_hang_12 : decode b_JT_hang 12 = .ok (.aload_n 0, 1) := by decide +kernel
theorem d_JT_hang_13 : decode b_JT_hang 13 = .ok (.getfield 19, 3) := by decide +kernel
theorem d_JT_hang_16 : decode b_JT_hang 16 = .ok (.invokevirtual 167, 3) := by decide +kernel
theorem d_JT_hang_19 : decode b_JT_hang 19 = .ok (.aload_n 0, 1) := by decide +kernel
theorem d_JT_hang_20 : decode b_JT_hang 20 = .ok (.getfield 39, 3) := by decide +kernel
theorem d_JT_hang_23 : decode b_JT_hang 23 = .ok (.ifnull 10, 3) := by decide +kernel
theorem d_JT_hang_26 : decode b_JT_hang 26 = .ok (.aload_n 0, 1) := by decide +kernel
theorem d_JT_hang_27 : decode b_JT_hang 27 = .ok (.getfield 39, 3) := by decide +kernel
theorem d_JT_hang_30 : decode b_JT_hang 30 = .ok (.invokevirtual 170, 3) := by decide +kernel
theorem d_JT_hang_33 : decode b_JT_hang 33 = .ok (.iconst 0, 1) := by decide +kernel
theorem d_JT_hang_34 : decode b_JT_hang 34 = .ok (.istore_n 1, 1) := by decide +kernel
theorem d_JT_hang_35 : decode b_JT_hang 35 = .ok (.iload_n 1, 1) := by decide +kernel
theorem d_JT_hang_36 : decode b_JT_hang 36 = .ok (.iconst 4, 1) := by decide +kernel
theorem d_JT_hang_37 : decode b_JT_hang 37 = .ok (.if_icmp .ge 36, 3) := by decide +kernel
theorem d_JT_hang_40 : decode b_JT_hang 40 = .ok (.aload_n 0, 1) := by decide +kernel
theorem d_JT_hang_41 : decode b_JT_hang 41 = .ok (.getfield 32, 3) := by decide +kernel
theorem d_JT_hang_44 : decode b_JT_hang 44 = .ok (.iload_n 1, 1) := by decide +kernel
theorem d_JT_hang_45 : decode b_JT_hang 45 = .ok (.aaload, 1) := by decide +kernel
theorem d_JT_hang_46 : decode b_JT_hang 46 = .ok (.astore_n 2, 1) := by decide +kernel
theorem d_JT_hang_47 : decode b_JT_hang 47 = .ok (.aload_n 2, 1) := by decide +kernel
theorem d_JT_hang_48 : decode b_JT_hang 48 = .ok (.aload_n 0, 1) := by decide +kernel
theorem d_JT_hang_49 : decode b_JT_hang 49 = .ok (.getfield 39, 3) := by decide +kernel
theorem d_JT_hang_52 : decode b_JT_hang 52 = .ok (.if_acmp .eq 15, 3) := by decide +kernel
theorem d_JT_hang_55 : decode b_JT_hang 55 = .ok (.aload_n 2, 1) := by decide +kernel
theorem d_JT_hang_56 : decode b_JT_hang 56 = .ok (.invokevirtual 120, 3) := by decide +kernel
theorem d_JT_hang_59 : decode b_JT_hang 59 = .ok (.iconst 2, 1) := by decide +kernel
theorem d_JT_hang_60 : decode b_JT_hang 60 = .ok (.if_icmp .ne 7, 3) := by decide +kernel
theorem d_JT_hang_63 : decode b_JT_hang 63 = .ok (.aload_n 2, 1) := by decide +kernel
theorem d_JT_hang_64 : decode b_JT_hang 64 = .ok (.invokevirtual 170, 3) := by decide +kernel
theorem d_JT_hang_67 : decode b_JT_hang 67 = .ok (.iinc 1 1, 3) := by decide +kernel
theorem d_JT_hang_70 : decode b_JT_hang 70 = .ok (.goto (-35), 3) := by decide +kernel
theorem d_JT_hang_73 : decode b_JT_hang 73 = .ok (.aload_n 0, 1) := by decide +kernel
theorem d_JT_hang_74 : decode b_JT_hang 74 = .ok (.invokevirtual 77, 3) := by decide +kernel
theorem d_JT_hang_77 : decode b_JT_hang 77 = .ok (.iconst 1, 1) := by decide +kernel
theorem d_JT_hang_78 : decode b_JT_hang 78 = .ok (.ireturn, 1) := by decide +kernel
theorem d_JT_foreground_0 : decode b_JT_foreground 0 = .ok (.aload_n 0, 1) := by decide +kernel
theorem d_JT_foreground_1 : decode b_JT_foreground 1 = .ok (.getfield 39, 3) := by decide +kernel
theorem d_JT_foreground_4 : decode b_JT_foreground 4 = .ok (.ifnonnull 7, 3) := by decide +kernel
theorem d_JT_foreground_7 : decode b_JT_foreground 7 = .ok (.iconst (-1), 1) := by decide +kernel
theorem d_JT_foreground_8 : decode b_JT_foreground 8 = .ok (.goto 10, 3) := by decide +kernel
theorem d_JT_foreground_11 : decode b_JT_foreground 11 = .ok (.aload_n 0, 1) := by decide +kernel
theorem d_JT_foreground_12 : decode b_JT_foreground 12 = .ok (.getfield 39, 3) := by decide +kernel
theorem d_JT_foreground_15 : decode b_JT_foreground 15 = .ok (.getfield 111, 3) := by decide +kernel
theorem d_JT_foreground_18 : decode b_JT_foreground 18 = .ok (.ireturn, 1) := by decide +kernel
theorem d_JT_job_0 : decode b_JT_job 0 = .ok (.aload_n 0, 1) := by decide +kernel
theorem d_JT_job_1 : decode b_JT_job 1 = .ok (.iload_n 1, 1) := by decide +kernel
theorem d_JT_job_2 : decode b_JT_job 2 = .ok (.invokevirtual 114, 3) := by decide +kernel
theorem d_JT_job_5 : decode b_JT_job 5 = .ok (.astore_n 2, 1) := by decide +kernel
theorem d_JT_job_6 : decode b_JT_job 6 = .ok (.aload_n 2, 1) := by decide +kernel
theorem d_JT_job_7 : decode b_JT_job 7 = .ok (.ifnonnull 7, 3) := by decide +kernel
theorem d_JT_job_10 : decode b_JT_job 10 = .ok (.iconst (-1), 1) := by decide +kernel
theorem d_JT_job_11 : decode b_JT_job 11 = .ok (.goto 7, 3) := by decide +kernel
theorem d_JT_job_14 : decode b_JT_job 14 = .ok (.aload_n 2, 1) := by decide +kernel
theorem d_JT_job_15 : decode b_JT_job 15 = .ok (.invokevirtual 120, 3) := by decide +kernel
theorem d_JT_job_18 : decode b_JT_job 18 = .ok (.ireturn, 1) := by decide +kernel
theorem d_JT_process_0 : decode b_JT_process 0 = .ok (.iload_n 1, 1) := by decide +kernel
theorem d_JT_process_1 : decode b_JT_process 1 = .ok (.ifCond .lt 9, 3) := by decide +kernel
theorem d_JT_process_4 : decode b_JT_process 4 = .ok (.iload_n 1, 1) := by decide +kernel
theorem d_JT_process_5 : decode b_JT_process 5 = .ok (.bipush 8, 2) := by decide +kernel
theorem d_JT_process_7 : decode b_JT_process 7 = .ok (.if_icmp .lt 5, 3) := by decide +kernel
theorem d_JT_process_10 : decode b_JT_process 10 = .ok (.iconst (-1), 1) := by decide +kernel
theorem d_JT_process_11 : decode b_JT_process 11 = .ok (.ireturn, 1) := by decide +kernel
theorem d_JT_process_12 : decode b_JT_process 12 = .ok (.aload_n 0, 1) := by decide +kernel
theorem d_JT_process_13 : decode b_JT_process 13 = .ok (.getfield 25, 3) := by decide +kernel
theorem d_JT_process_16 : decode b_JT_process 16 = .ok (.iload_n 1, 1) := by decide +kernel
theorem d_JT_process_17 : decode b_JT_process 17 = .ok (.aaload, 1) := by decide +kernel
theorem d_JT_process_18 : decode b_JT_process 18 = .ok (.iload_n 2, 1) := by decide +kernel
theorem d_JT_process_19 : decode b_JT_process 19 = .ok (.invokevirtual 173, 3) := by decide +kernel
theorem d_JT_process_22 : decode b_JT_process 22 = .ok (.ireturn, 1) := by decide +kernel
theorem d_JT_shown_0 : decode b_JT_shown 0 = .ok (.aload_n 0, 1) := by decide +kernel
theorem d_JT_shown_1 : decode b_JT_shown 1 = .ok (.getfield 19, 3) := by decide +kernel
theorem d_JT_shown_4 : decode b_JT_shown 4 = .ok (.getfield 176, 3) := by decide +kernel
theorem d_JT_shown_7 : decode b_JT_shown 7 = .ok (.getfield 180, 3) := by decide +kernel
theorem d_JT_shown_10 : decode b_JT_shown 10 = .ok (.ireturn, 1) := by decide +kernel
theorem d_JT_screen_0 : decode b_JT_screen 0 = .ok (.aload_n 0, 1) := by decide +kernel
theorem d_JT_screen_1 : decode b_JT_screen 1 = .ok (.getfield 19, 3) := by decide +kernel
theorem d_JT_screen_4 : decode b_JT_screen 4 = .ok (.getfield 176, 3) := by decide +kernel
theorem d_JT_screen_7 : decode b_JT_screen 7 = .ok (.iload_n 1, 1) := by decide +kernel
theorem d_JT_screen_8 : decode b_JT_screen 8 = .ok (.invokevirtual 185, 3) := by decide +kernel
theorem d_JT_screen_11 : decode b_JT_screen 11 = .ok (.ireturn, 1) := by decide +kernel
theorem d_JT_held_0 : decode b_JT_held 0 = .ok (.iload_n 1, 1) := by decide +kernel
theorem d_JT_held_1 : decode b_JT_held 1 = .ok (.ifCond .ne 14, 3) := by decide +kernel
theorem d_JT_held_4 : decode b_JT_held 4 = .ok (.aload_n 0, 1) := by decide +kernel
theorem d_JT_held_5 : decode b_JT_held 5 = .ok (.getfield 19, 3) := by decide +kernel
theorem d_JT_held_8 : decode b_JT_held 8 = .ok (.getfield 188, 3) := by decide +kernel
theorem d_JT_held_11 : decode b_JT_held 11 = .ok (.getfield 192, 3) := by decide +kernel
theorem d_JT_held_14 : decode b_JT_held 14 = .ok (.ireturn, 1) := by decide +kernel
theorem d_JT_held_15 : decode b_JT_held 15 = .ok (.iload_n 1, 1) := by decide +kernel
theorem d_JT_held_16 : decode b_JT_held 16 = .ok (.iconst 1, 1) := by decide +kernel
theorem d_JT_held_17 : decode b_JT_held 17 = .ok (.if_icmp .ne 14, 3) := by decide +kernel
theorem d_JT_held_20 : decode b_JT_held 20 = .ok (.aload_n 0, 1) := by decide +kernel
theorem d_JT_held_21 : decode b_JT_held 21 = .ok (.getfield 19, 3) := by decide +kernel
theorem d_JT_held_24 : decode b_JT_held 24 = .ok (.getfield 197, 3) := by decide +kernel
theorem d_JT_held_27 : decode b_JT_held 27 = .ok (.getfield 192, 3) := by decide +kernel
theorem d_JT_held_30 : decode b_JT_held 30 = .ok (.ireturn, 1) := by decide +kernel
theorem d_JT_held_31 : decode b_JT_held 31 = .ok (.iload_n 1, 1) := by decide +kernel
theorem d_JT_held_32 : decode b_JT_held 32 = .ok (.iconst 2, 1) := by decide +kernel
theorem d_JT_held_33 : decode b_JT_held 33 = .ok (.if_icmp .ge 7, 3) := by decide +kernel
theorem d_JT_held_36 : decode b_JT_held 36 = .ok (.aconst_null, 1) := by decide +kernel
theorem d_JT_held_37 : decode b_JT_held 37 = .ok (.goto 10, 3) := by decide +kernel
theorem d_JT_held_40 : decode b_JT_held 40 = .ok (.aload_n 0, 1) := by decide +kernel
theorem d_JT_held_41 : decode b_JT_held 41 = .ok (.iload_n 1, 1) := by decide +kernel
theorem d_JT_held_42 : decode b_JT_held 42 = .ok (.iconst 2, 1) := by decide +kernel
theorem d_JT_held_43 : decode b_JT_held 43 = .ok (.isub, 1) := by decide +kernel
theorem d_JT_held_44 : decode b_JT_held 44 = .ok (.invokevirtual 114, 3) := by decide +kernel
theorem d_JT_held_47 : decode b_JT_held 47 = .ok (.astore_n 2, 1) := by decide +kernel
theorem d_JT_held_48 : decode b_JT_held 48 = .ok (.aload_n 2, 1) := by decide +kernel
theorem d_JT_held_49 : decode b_JT_held 49 = .ok (.ifnull 10, 3) := by decide +kernel
theorem d_JT_held_52 : decode b_JT_held 52 = .ok (.aload_n 2, 1) := by decide +kernel
theorem d_JT_held_53 : decode b_JT_held 53 = .ok (.getfield 200, 3) := by decide +kernel
theorem d_JT_held_56 : decode b_JT_held 56 = .ok (.ifnonnull 7, 3) := by decide +kernel
theorem d_JT_held_59 : decode b_JT_held 59 = .ok (.iconst (-1), 1) := by decide +kernel
theorem d_JT_held_60 : decode b_JT_held 60 = .ok (.goto 10, 3) := by decide +kernel
theorem d_JT_held_63 : decode b_JT_held 63 = .ok (.aload_n 2, 1) := by decide +kernel
theorem d_JT_held_64 : decode b_JT_held 64 = .ok (.getfield 204, 3) := by decide +kernel
theorem d_JT_held_67 : decode b_JT_held 67 = .ok (.getfield 192, 3) := by decide +kernel
theorem d_JT_held_70 : decode b_JT_held 70 = .ok (.ireturn, 1) := by decide +kernel
theorem d_JT_findJob_0 : decode b_JT_findJob 0 = .ok (.iload_n 1, 1) := by decide +kernel
theorem d_JT_findJob_1 : decode b_JT_findJob 1 = .ok (.ifCond .lt 8, 3) := by decide +kernel
theorem d_JT_findJob_4 : decode b_JT_findJob 4 = .ok (.iload_n 1, 1) := by decide +kernel
theorem d_JT_findJob_5 : decode b_JT_findJob 5 = .ok (.iconst 4, 1) := by decide +kernel
theorem d_JT_findJob_6 : decode b_JT_findJob 6 = .ok (.if_icmp .lt 5, 3) := by decide +kernel
theorem d_JT_findJob_9 : decode b_JT_findJob 9 = .ok (.aconst_null, 1) := by decide +kernel
theorem d_JT_findJob_10 : decode b_JT_findJob 10 = .ok (.areturn, 1) := by decide +kernel
theorem d_JT_findJob_11 : decode b_JT_findJob 11 = .ok (.aload_n 0, 1) := by decide +kernel
theorem d_JT_findJob_12 : decode b_JT_findJob 12 = .ok (.getfield 32, 3) := by decide +kernel
theorem d_JT_findJob_15 : decode b_JT_findJob 15 = .ok (.iload_n 1, 1) := by decide +kernel
theorem d_JT_findJob_16 : decode b_JT_findJob 16 = .ok (.aaload, 1) := by decide +kernel
theorem d_JT_findJob_17 : decode b_JT_findJob 17 = .ok (.astore_n 2, 1) := by decide +kernel
theorem d_JT_findJob_18 : decode b_JT_findJob 18 = .ok (.aload_n 2, 1) := by decide +kernel
theorem d_JT_findJob_19 : decode b_JT_findJob 19 = .ok (.invokevirtual 132, 3) := by decide +kernel
theorem d_JT_findJob_22 : decode b_JT_findJob 22 = .ok (.ifCond .eq 7, 3) := by decide +kernel
theorem d_JT_findJob_25 : decode b_JT_findJob 25 = .ok (.aload_n 2, 1) := by decide +kernel
theorem d_JT_findJob_26 : decode b_JT_findJob 26 = .ok (.goto 4, 3) := by decide +kernel
theorem d_JT_findJob_29 : decode b_JT_findJob 29 = .ok (.aconst_null, 1) := by decide +kernel
theorem d_JT_findJob_30 : decode b_JT_findJob 30 = .ok (.areturn, 1) := by decide +kernel
theorem d_JT_unusedJob_0 : decode b_JT_unusedJob 0 = .ok (.iconst 0, 1) := by decide +kernel
theorem d_JT_unusedJob_1 : decode b_JT_unusedJob 1 = .ok (.istore_n 1, 1) := by decide +kernel
theorem d_JT_unusedJob_2 : decode b_JT_unusedJob 2 = .ok (.iload_n 1, 1) := by decide +kernel
theorem d_JT_unusedJob_3 : decode b_JT_unusedJob 3 = .ok (.iconst 4, 1) := by decide +kernel
theorem d_JT_unusedJob_4 : decode b_JT_unusedJob 4 = .ok (.if_icmp .ge 28, 3) := by decide +kernel
theorem d_JT_unusedJob_7 : decode b_JT_unusedJob 7 = .ok (.aload_n 0, 1) := by decide +kernel
theorem d_JT_unusedJob_8 : decode b_JT_unusedJob 8 = .ok (.getfield 32, 3) := by decide +kernel
theorem d_JT_unusedJob_11 : decode b_JT_unusedJob 11 = .ok (.iload_n 1, 1) := by decide +kernel
theorem d_JT_unusedJob_12 : decode b_JT_unusedJob 12 = .ok (.aaload, 1) := by decide +kernel
theorem d_JT_unusedJob_13 : decode b_JT_unusedJob 13 = .ok (.invokevirtual 132, 3) := by decide +kernel
theorem d_JT_unusedJob_16 : decode b_JT_unusedJob 16 = .ok (.ifCond .ne 10, 3) := by decide +kernel
theorem d_JT_unusedJob_19 : decode b_JT_unusedJob 19 = .ok (.aload_n 0, 1) := by decide +kernel
theorem d_JT_unusedJob_20 : decode b_JT_unusedJob 20 = .ok (.getfield 32, 3) := by decide +kernel
theorem d_JT_unusedJob_23 : decode b_JT_unusedJob 23 = .ok (.iload_n 1, 1) := by decide +kernel
theorem d_JT_unusedJob_24 : decode b_JT_unusedJob 24 = .ok (.aaload, 1) := by decide +kernel
theorem d_JT_unusedJob_25 : decode b_JT_unusedJob 25 = .ok (.areturn, 1) := by decide +kernel
theorem d_JT_unusedJob_26 : decode b_JT_unusedJob 26 = .ok (.iinc 1 1, 3) := by decide +kernel
theorem d_JT_unusedJob_29 : decode b_JT_unusedJob 29 = .ok (.goto (-27), 3) := by decide +kernel
theorem d_JT_unusedJob_32 : decode b_JT_unusedJob 32 = .ok (.aconst_null, 1) := by decide +kernel
theorem d_JT_unusedJob_33 : decode b_JT_unusedJob 33 = .ok (.areturn, 1) := by decide +kernel
theorem d_JT_freeProcess_0 : decode b_JT_freeProcess 0 = .ok (.iload_n 1, 1) := by decide +kernel
theorem d_JT_freeProcess_1 : decode b_JT_freeProcess 1 = .ok (.istore_n 2, 1) := by decide +kernel
theorem d_JT_freeProcess_2 : decode b_JT_freeProcess 2 = .ok (.iconst 0, 1) := by decide +kernel
theorem d_JT_freeProcess_3 : decode b_JT_freeProcess 3 = .ok (.istore_n 3, 1) := by decide +kernel
theorem d_JT_freeProcess_4 : decode b_JT_freeProcess 4 = .ok (.iload_n 3, 1) := by decide +kernel
theorem d_JT_freeProcess_5 : decode b_JT_freeProcess 5 = .ok (.bipush 8, 2) := by decide +kernel
theorem d_JT_freeProcess_7 : decode b_JT_freeProcess 7 = .ok (.if_icmp .ge 35, 3) := by decide +kernel
theorem d_JT_freeProcess_10 : decode b_JT_freeProcess 10 = .ok (.aload_n 0, 1) := by decide +kernel
theorem d_JT_freeProcess_11 : decode b_JT_freeProcess 11 = .ok (.getfield 25, 3) := by decide +kernel
theorem d_JT_freeProcess_14 : decode b_JT_freeProcess 14 = .ok (.iload_n 3, 1) := by decide +kernel
theorem d_JT_freeProcess_15 : decode b_JT_freeProcess 15 = .ok (.aaload, 1) := by decide +kernel
theorem d_JT_freeProcess_16 : decode b_JT_freeProcess 16 = .ok (.getfield 152, 3) := by decide +kernel
theorem d_JT_freeProcess_19 : decode b_JT_freeProcess 19 = .ok (.ifnonnull 17, 3) := by decide +kernel
theorem d_JT_freeProcess_22 : decode b_JT_freeProcess 22 = .ok (.iload_n 2, 1) := by decide +kernel
theorem d_JT_freeProcess_23 : decode b_JT_freeProcess 23 = .ok (.ifCond .ne 10, 3) := by decide +kernel
theorem d_JT_freeProcess_26 : decode b_JT_freeProcess 26 = .ok (.aload_n 0, 1) := by decide +kernel
theorem d_JT_freeProcess_27 : decode b_JT_freeProcess 27 = .ok (.getfield 25, 3) := by decide +kernel
theorem d_JT_freeProcess_30 : decode b_JT_freeProcess 30 = .ok (.iload_n 3, 1) := by decide +kernel
theorem d_JT_freeProcess_31 : decode b_JT_freeProcess 31 = .ok (.aaload, 1) := by decide +kernel
theorem d_JT_freeProcess_32 : decode b_JT_freeProcess 32 = .ok (.areturn, 1) := by decide +kernel
theorem d_JT_freeProcess_33 : decode b_JT_freeProcess 33 = .ok (.iinc 2 (-1), 3) := by decide +kernel
theorem d_JT_freeProcess_36 : decode b_JT_freeProcess 36 = .ok (.iinc 3 1, 3) := by decide +kernel
theorem d_JT_freeProcess_39 : decode b_JT_freeProcess 39 = .ok (.goto (-35), 3) := by decide +kernel
theorem d_JT_freeProcess_42 : decode b_JT_freeProcess 42 = .ok (.aconst_null, 1) := by decide +kernel
theorem d_JT_freeProcess_43 : decode b_JT_freeProcess 43 = .ok (.areturn, 1) := by decide +kernel
theorem d_JT_sendAndSettle_0 : decode b_JT_sendAndSettle 0 = .ok (.aload_n 1, 1) := by decide +kernel
theorem d_JT_sendAndSettle_1 : decode b_JT_sendAndSettle 1 = .ok (.iload_n 2, 1) := by decide +kernel
theorem d_JT_sendAndSettle_2 : decode b_JT_sendAndSettle 2 = .ok (.invokevirtual 71, 3) := by decide +kernel
theorem d_JT_sendAndSettle_5 : decode b_JT_sendAndSettle 5 = .ok (.aload_n 0, 1) := by decide +kernel
theorem d_JT_sendAndSettle_6 : decode b_JT_sendAndSettle 6 = .ok (.aload_n 1, 1) := by decide +kernel
theorem d_JT_sendAndSettle_7 : decode b_JT_sendAndSettle 7 = .ok (.invokevirtual 155, 3) := by decide +kernel
theorem d_JT_sendAndSettle_10 : decode b_JT_sendAndSettle 10 = .ok (.aload_n 1, 1) := by decide +kernel
theorem d_JT_sendAndSettle_11 : decode b_JT_sendAndSettle 11 = .ok (.invokevirtual 120, 3) := by decide +kernel
theorem d_JT_sendAndSettle_14 : decode b_JT_sendAndSettle 14 = .ok (.ireturn, 1) := by decide +kernel
theorem d_JT_settleAll_0 : decode b_JT_settleAll 0 = .ok (.iconst 0, 1) := by decide +kernel
theorem d_JT_settleAll_1 : decode b_JT_settleAll 1 = .ok (.istore_n 1, 1) := by decide +kernel
theorem d_JT_settleAll_2 : decode b_JT_settleAll 2 = .ok (.iload_n 1, 1) := by decide +kernel
theorem d_JT_settleAll_3 : decode b_JT_settleAll 3 = .ok (.iconst 4, 1) := by decide +kernel
theorem d_JT_settleAll_4 : decode b_JT_settleAll 4 = .ok (.if_icmp .ge 19, 3) := by decide +kernel
theorem d_JT_settleAll_7 : decode b_JT_settleAll 7 = .ok (.aload_n 0, 1) := by decide +kernel
theorem d_JT_settleAll_8 : decode b_JT_settleAll 8 = .ok (.aload_n 0, 1) := by decide +kernel
theorem d_JT_settleAll_9 : decode b_JT_settleAll 9 = .ok (.getfield 32, 3) := by decide +kernel
theorem d_JT_settleAll_12 : decode b_JT_settleAll 12 = .ok (.iload_n 1, 1) := by decide +kernel
theorem d_JT_settleAll_13 : decode b_JT_settleAll 13 = .ok (.aaload, 1) := by decide +kernel
theorem d_JT_settleAll_14 : decode b_JT_settleAll 14 = .ok (.invokevirtual 155, 3) := by decide +kernel
theorem d_JT_settleAll_17 : decode b_JT_settleAll 17 = .ok (.iinc 1 1, 3) := by decide +kernel
theorem d_JT_settleAll_20 : decode b_JT_settleAll 20 = .ok (.goto (-18), 3) := by decide +kernel
theorem d_JT_settleAll_23 : decode b_JT_settleAll 23 = .ok (.return_, 1) := by decide +kernel
theorem d_JT_settle_0 : decode b_JT_settle 0 = .ok (.aload_n 1, 1) := by decide +kernel
theorem d_JT_settle_1 : decode b_JT_settle 1 = .ok (.ifnull 14, 3) := by decide +kernel
theorem d_JT_settle_4 : decode b_JT_settle 4 = .ok (.aload_n 1, 1) := by decide +kernel
theorem d_JT_settle_5 : decode b_JT_settle 5 = .ok (.invokevirtual 120, 3) := by decide +kernel
theorem d_JT_settle_8 : decode b_JT_settle 8 = .ok (.aload_n 1, 1) := by decide +kernel
theorem d_JT_settle_9 : decode b_JT_settle 9 = .ok (.getfield 207, 3) := by decide +kernel
theorem d_JT_settle_12 : decode b_JT_settle 12 = .ok (.if_icmp .ne 4, 3) := by decide +kernel
theorem d_JT_settle_15 : decode b_JT_settle 15 = .ok (.return_, 1) := by decide +kernel
theorem d_JT_settle_16 : decode b_JT_settle 16 = .ok (.aload_n 1, 1) := by decide +kernel
theorem d_JT_settle_17 : decode b_JT_settle 17 = .ok (.aload_n 1, 1) := by decide +kernel
theorem d_JT_settle_18 : decode b_JT_settle 18 = .ok (.invokevirtual 120, 3) := by decide +kernel
theorem d_JT_settle_21 : decode b_JT_settle 21 = .ok (.putfield 207, 3) := by decide +kernel
theorem d_JT_settle_24 : decode b_JT_settle 24 = .ok (.aload_n 1, 1) := by decide +kernel
theorem d_JT_settle_25 : decode b_JT_settle 25 = .ok (.iconst 1, 1) := by decide +kernel
theorem d_JT_settle_26 : decode b_JT_settle 26 = .ok (.putfield 136, 3) := by decide +kernel
theorem d_JT_settle_29 : decode b_JT_settle 29 = .ok (.aload_n 1, 1) := by decide +kernel
theorem d_JT_settle_30 : decode b_JT_settle 30 = .ok (.getfield 207, 3) := by decide +kernel
theorem d_JT_settle_33 : decode b_JT_settle 33 = .ok (.iconst 1, 1) := by decide +kernel
theorem d_JT_settle_34 : decode b_JT_settle 34 = .ok (.if_icmp .eq 16, 3) := by decide +kernel
theorem d_JT_settle_37 : decode b_JT_settle 37 = .ok (.aload_n 0, 1) := by decide +kernel
theorem d_JT_settle_38 : decode b_JT_settle 38 = .ok (.getfield 39, 3) := by decide +kernel
theorem d_JT_settle_41 : decode b_JT_settle 41 = .ok (.aload_n 1, 1) := by decide +kernel
theorem d_JT_settle_42 : decode b_JT_settle 42 = .ok (.if_acmp .ne 8, 3) := by decide +kernel
theorem d_JT_settle_45 : decode b_JT_settle 45 = .ok (.aload_n 0, 1) := by decide +kernel
theorem d_JT_settle_46 : decode b_JT_settle 46 = .ok (.aconst_null, 1) := by decide +kernel
theorem d_JT_settle_47 : decode b_JT_settle 47 = .ok (.putfield 39, 3) := by decide +kernel
theorem d_JT_settle_50 : decode b_JT_settle 50 = .ok (.return_, 1) := by decide +kernel
theorem d_JT_tell_0 : decode b_JT_tell 0 = .ok (.aload_n 1, 1) := by decide +kernel
theorem d_JT_tell_1 : decode b_JT_tell 1 = .ok (.invokevirtual 120, 3) := by decide +kernel
theorem d_JT_tell_4 : decode b_JT_tell 4 = .ok (.istore_n 2, 1) := by decide +kernel
theorem d_JT_tell_5 : decode b_JT_tell 5 = .ok (.aload_n 1, 1) := by decide +kernel
theorem d_JT_tell_6 : decode b_JT_tell 6 = .ok (.iconst 0, 1) := by decide +kernel
theorem d_JT_tell_7 : decode b_JT_tell 7 = .ok (.putfield 136, 3) := by decide +kernel
theorem d_JT_tell_10 : decode b_JT_tell 10 = .ok (.iload_n 2, 1) := by decide +kernel
theorem d_JT_tell_11 : decode b_JT_tell 11 = .ok (.iconst 3, 1) := by decide +kernel
theorem d_JT_tell_12 : decode b_JT_tell 12 = .ok (.if_icmp .ne 7, 3) := by decide +kernel
theorem d_JT_tell_15 : decode b_JT_tell 15 = .ok (.aload_n 1, 1) := by decide +kernel
theorem d_JT_tell_16 : decode b_JT_tell 16 = .ok (.invokevirtual 210, 3) := by decide +kernel
theorem d_JT_tell_19 : decode b_JT_tell 19 = .ok (.iconst 4, 1) := by decide +kernel
theorem d_JT_tell_20 : decode b_JT_tell 20 = .ok (.aload_n 1, 1) := by decide +kernel
theorem d_JT_tell_21 : decode b_JT_tell 21 = .ok (.getfield 111, 3) := by decide +kernel
theorem d_JT_tell_24 : decode b_JT_tell 24 = .ok (.imul, 1) := by decide +kernel
theorem d_JT_tell_25 : decode b_JT_tell 25 = .ok (.iload_n 2, 1) := by decide +kernel
theorem d_JT_tell_26 : decode b_JT_tell 26 = .ok (.iadd, 1) := by decide +kernel
theorem d_JT_tell_27 : decode b_JT_tell 27 = .ok (.ireturn, 1) := by decide +kernel
theorem d_JT_nextToGo_0 : decode b_JT_nextToGo 0 = .ok (.aload_n 0, 1) := by decide +kernel
theorem d_JT_nextToGo_1 : decode b_JT_nextToGo 1 = .ok (.getfield 43, 3) := by decide +kernel
theorem d_JT_nextToGo_4 : decode b_JT_nextToGo 4 = .ok (.istore_n 1, 1) := by decide +kernel
theorem d_JT_nextToGo_5 : decode b_JT_nextToGo 5 = .ok (.iconst 0, 1) := by decide +kernel
theorem d_JT_nextToGo_6 : decode b_JT_nextToGo 6 = .ok (.istore_n 2, 1) := by decide +kernel
theorem d_JT_nextToGo_7 : decode b_JT_nextToGo 7 = .ok (.iload_n 2, 1) := by decide +kernel
theorem d_JT_nextToGo_8 : decode b_JT_nextToGo 8 = .ok (.bipush 8, 2) := by decide +kernel
theorem d_JT_nextToGo_10 : decode b_JT_nextToGo 10 = .ok (.if_icmp .ge 48, 3) := by decide +kernel
theorem d_JT_nextToGo_13 : decode b_JT_nextToGo 13 = .ok (.iload_n 1, 1) := by decide +kernel
theorem d_JT_nextToGo_14 : decode b_JT_nextToGo 14 = .ok (.bipush 7, 2) := by decide +kernel
theorem d_JT_nextToGo_16 : decode b_JT_nextToGo 16 = .ok (.if_icmp .lt 7, 3) := by decide +kernel
theorem d_JT_nextToGo_19 : decode b_JT_nextToGo 19 = .ok (.iconst 0, 1) := by decide +kernel
theorem d_JT_nextToGo_20 : decode b_JT_nextToGo 20 = .ok (.goto 6, 3) := by decide +kernel
theorem d_JT_nextToGo_23 : decode b_JT_nextToGo 23 = .ok (.iload_n 1, 1) := by decide +kernel
theorem d_JT_nextToGo_24 : decode b_JT_nextToGo 24 = .ok (.iconst 1, 1) := by decide +kernel
theorem d_JT_nextToGo_25 : decode b_JT_nextToGo 25 = .ok (.iadd, 1) := by decide +kernel
theorem d_JT_nextToGo_26 : decode b_JT_nextToGo 26 = .ok (.istore_n 1, 1) := by decide +kernel
theorem d_JT_nextToGo_27 : decode b_JT_nextToGo 27 = .ok (.aload_n 0, 1) := by decide +kernel
theorem d_JT_nextToGo_28 : decode b_JT_nextToGo 28 = .ok (.aload_n 0, 1) := by decide +kernel
theorem d_JT_nextToGo_29 : decode b_JT_nextToGo 29 = .ok (.getfield 25, 3) := by decide +kernel
theorem d_JT_nextToGo_32 : decode b_JT_nextToGo 32 = .ok (.iload_n 1, 1) := by decide +kernel
theorem d_JT_nextToGo_33 : decode b_JT_nextToGo 33 = .ok (.aaload, 1) := by decide +kernel
theorem d_JT_nextToGo_34 : decode b_JT_nextToGo 34 = .ok (.invokevirtual 213, 3) := by decide +kernel
theorem d_JT_nextToGo_37 : decode b_JT_nextToGo 37 = .ok (.ifCond .eq 15, 3) := by decide +kernel
theorem d_JT_nextToGo_40 : decode b_JT_nextToGo 40 = .ok (.aload_n 0, 1) := by decide +kernel
theorem d_JT_nextToGo_41 : decode b_JT_nextToGo 41 = .ok (.iload_n 1, 1) := by decide +kernel
theorem d_JT_nextToGo_42 : decode b_JT_nextToGo 42 = .ok (.putfield 43, 3) := by decide +kernel
theorem d_JT_nextToGo_45 : decode b_JT_nextToGo 45 = .ok (.aload_n 0, 1) := by decide +kernel
theorem d_JT_nextToGo_46 : decode b_JT_nextToGo 46 = .ok (.getfield 25, 3) := by decide +kernel
theorem d_JT_nextToGo_49 : decode b_JT_nextToGo 49 = .ok (.iload_n 1, 1) := by decide +kernel
theorem d_JT_nextToGo_50 : decode b_JT_nextToGo 50 = .ok (.aaload, 1) := by decide +kernel
theorem d_JT_nextToGo_51 : decode b_JT_nextToGo 51 = .ok (.areturn, 1) := by decide +kernel
theorem d_JT_nextToGo_52 : decode b_JT_nextToGo 52 = .ok (.iinc 2 1, 3) := by decide +kernel
theorem d_JT_nextToGo_55 : decode b_JT_nextToGo 55 = .ok (.goto (-48), 3) := by decide +kernel
theorem d_JT_nextToGo_58 : decode b_JT_nextToGo 58 = .ok (.aconst_null, 1) := by decide +kernel
theorem d_JT_nextToGo_59 : decode b_JT_nextToGo 59 = .ok (.areturn, 1) := by decide +kernel
theorem d_JT_canGoOn_0 : decode b_JT_canGoOn 0 = .ok (.aload_n 1, 1) := by decide +kernel
theorem d_JT_canGoOn_1 : decode b_JT_canGoOn 1 = .ok (.getfield 159, 3) := by decide +kernel
theorem d_JT_canGoOn_4 : decode b_JT_canGoOn 4 = .ok (.iconst 1, 1) := by decide +kernel
theorem d_JT_canGoOn_5 : decode b_JT_canGoOn 5 = .ok (.if_icmp .ne 10, 3) := by decide +kernel
theorem d_JT_canGoOn_8 : decode b_JT_canGoOn 8 = .ok (.aload_n 1, 1) := by decide +kernel
theorem d_JT_canGoOn_9 : decode b_JT_canGoOn 9 = .ok (.getfield 161, 3) := by decide +kernel
theorem d_JT_canGoOn_12 : decode b_JT_canGoOn 12 = .ok (.ifCond .le 5, 3) := by decide +kernel
theorem d_JT_canGoOn_15 : decode b_JT_canGoOn 15 = .ok (.iconst 0, 1) := by decide +kernel
theorem d_JT_canGoOn_16 : decode b_JT_canGoOn 16 = .ok (.ireturn, 1) := by decide +kernel
theorem d_JT_canGoOn_17 : decode b_JT_canGoOn 17 = .ok (.aload_n 0, 1) := by decide +kernel
theorem d_JT_canGoOn_18 : decode b_JT_canGoOn 18 = .ok (.getfield 10, 3) := by decide +kernel
theorem d_JT_canGoOn_21 : decode b_JT_canGoOn 21 = .ok (.aload_n 1, 1) := by decide +kernel
theorem d_JT_canGoOn_22 : decode b_JT_canGoOn 22 = .ok (.getfield 216, 3) := by decide +kernel
theorem d_JT_canGoOn_25 : decode b_JT_canGoOn 25 = .ok (.aload_n 1, 1) := by decide +kernel
theorem d_JT_canGoOn_26 : decode b_JT_canGoOn 26 = .ok (.getfield 219, 3) := by decide +kernel
theorem d_JT_canGoOn_29 : decode b_JT_canGoOn 29 = .ok (.invokevirtual 222, 3) := by decide +kernel
theorem d_JT_canGoOn_32 : decode b_JT_canGoOn 32 = .ok (.tableswitch 61 1 3 #[34, 28, 40], 28) := by decide +kernel
theorem d_JT_canGoOn_60 : decode b_JT_canGoOn 60 = .ok (.aload_n 0, 1) := by decide +kernel
theorem d_JT_canGoOn_61 : decode b_JT_canGoOn 61 = .ok (.aload_n 1, 1) := by decide +kernel
theorem d_JT_canGoOn_62 : decode b_JT_canGoOn 62 = .ok (.invokevirtual 226, 3) := by decide +kernel
theorem d_JT_canGoOn_65 : decode b_JT_canGoOn 65 = .ok (.ireturn, 1) := by decide +kernel
theorem d_JT_canGoOn_66 : decode b_JT_canGoOn 66 = .ok (.aload_n 0, 1) := by decide +kernel
theorem d_JT_canGoOn_67 : decode b_JT_canGoOn 67 = .ok (.aload_n 1, 1) := by decide +kernel
theorem d_JT_canGoOn_68 : decode b_JT_canGoOn 68 = .ok (.invokevirtual 229, 3) := by decide +kernel
theorem d_JT_canGoOn_71 : decode b_JT_canGoOn 71 = .ok (.ireturn, 1) := by decide +kernel
theorem d_JT_canGoOn_72 : decode b_JT_canGoOn 72 = .ok (.aload_n 1, 1) := by decide +kernel
theorem d_JT_canGoOn_73 : decode b_JT_canGoOn 73 = .ok (.getfield 232, 3) := by decide +kernel
theorem d_JT_canGoOn_76 : decode b_JT_canGoOn 76 = .ok (.ifCond .lt 11, 3) := by decide +kernel
theorem d_JT_canGoOn_79 : decode b_JT_canGoOn 79 = .ok (.aload_n 0, 1) := by decide +kernel
theorem d_JT_canGoOn_80 : decode b_JT_canGoOn 80 = .ok (.aload_n 1, 1) := by decide +kernel
theorem d_JT_canGoOn_81 : decode b_JT_canGoOn 81 = .ok (.invokevirtual 229, 3) := by decide +kernel
theorem d_JT_canGoOn_84 : decode b_JT_canGoOn 84 = .ok (.ifCond .eq 7, 3) := by decide +kernel
theorem d_JT_canGoOn_87 : decode b_JT_canGoOn 87 = .ok (.iconst 1, 1) := by decide +kernel
theorem d_JT_canGoOn_88 : decode b_JT_canGoOn 88 = .ok (.goto 4, 3) := by decide +kernel
theorem d_JT_canGoOn_91 : decode b_JT_canGoOn 91 = .ok (.iconst 0, 1) := by decide +kernel
theorem d_JT_canGoOn_92 : decode b_JT_canGoOn 92 = .ok (.ireturn, 1) := by decide +kernel
theorem d_JT_canGoOn_93 : decode b_JT_canGoOn 93 = .ok (.iconst 1, 1) := by decide +kernel
theorem d_JT_canGoOn_94 : decode b_JT_canGoOn 94 = .ok (.ireturn, 1) := by decide +kernel
theorem d_JT_canRead_0 : decode b_JT_canRead 0 = .ok (.aload_n 1, 1) := by decide +kernel
theorem d_JT_canRead_1 : decode b_JT_canRead 1 = .ok (.getfield 152, 3) := by decide +kernel
theorem d_JT_canRead_4 : decode b_JT_canRead 4 = .ok (.astore_n 2, 1) := by decide +kernel
theorem d_JT_canRead_5 : decode b_JT_canRead 5 = .ok (.aload_n 2, 1) := by decide +kernel
theorem d_JT_canRead_6 : decode b_JT_canRead 6 = .ok (.ifnull 34, 3) := by decide +kernel
theorem d_JT_canRead_9 : decode b_JT_canRead 9 = .ok (.aload_n 2, 1) := by decide +kernel
theorem d_JT_canRead_10 : decode b_JT_canRead 10 = .ok (.aload_n 1, 1) := by decide +kernel
theorem d_JT_canRead_11 : decode b_JT_canRead 11 = .ok (.invokevirtual 235, 3) := by decide +kernel
theorem d_JT_canRead_14 : decode b_JT_canRead 14 = .ok (.ifCond .eq 26, 3) := by decide +kernel
theorem d_JT_canRead_17 : decode b_JT_canRead 17 = .ok (.aload_n 2, 1) := by decide +kernel
theorem d_JT_canRead_18 : decode b_JT_canRead 18 = .ok (.getfield 204, 3) := by decide +kernel
theorem d_JT_canRead_21 : decode b_JT_canRead 21 = .ok (.getfield 192, 3) := by decide +kernel
theorem d_JT_canRead_24 : decode b_JT_canRead 24 = .ok (.ifCond .gt 10, 3) := by decide +kernel
theorem d_JT_canRead_27 : decode b_JT_canRead 27 = .ok (.aload_n 2, 1) := by decide +kernel
theorem d_JT_canRead_28 : decode b_JT_canRead 28 = .ok (.invokevirtual 238, 3) := by decide +kernel
theorem d_JT_canRead_31 : decode b_JT_canRead 31 = .ok (.ifCond .eq 7, 3) := by decide +kernel
theorem d_JT_canRead_34 : decode b_JT_canRead 34 = .ok (.iconst 1, 1) := by decide +kernel
theorem d_JT_canRead_35 : decode b_JT_canRead 35 = .ok (.goto 4, 3) := by decide +kernel
theorem d_JT_canRead_38 : decode b_JT_canRead 38 = .ok (.iconst 0, 1) := by decide +kernel
theorem d_JT_canRead_39 : decode b_JT_canRead 39 = .ok (.ireturn, 1) := by decide +kernel
theorem d_JT_canRead_40 : decode b_JT_canRead 40 = .ok (.aload_n 0, 1) := by decide +kernel
theorem d_JT_canRead_41 : decode b_JT_canRead 41 = .ok (.getfield 19, 3) := by decide +kernel
theorem d_JT_canRead_44 : decode b_JT_canRead 44 = .ok (.getfield 164, 3) := by decide +kernel
theorem d_JT_canRead_47 : decode b_JT_canRead 47 = .ok (.ifCond .ne 24, 3) := by decide +kernel
theorem d_JT_canRead_50 : decode b_JT_canRead 50 = .ok (.aload_n 2, 1) := by decide +kernel
theorem d_JT_canRead_51 : decode b_JT_canRead 51 = .ok (.aload_n 0, 1) := by decide +kernel
theorem d_JT_canRead_52 : decode b_JT_canRead 52 = .ok (.getfield 39, 3) := by decide +kernel
theorem d_JT_canRead_55 : decode b_JT_canRead 55 = .ok (.if_acmp .ne 16, 3) := by decide +kernel
theorem d_JT_canRead_58 : decode b_JT_canRead 58 = .ok (.aload_n 0, 1) := by decide +kernel
theorem d_JT_canRead_59 : decode b_JT_canRead 59 = .ok (.getfield 19, 3) := by decide +kernel
theorem d_JT_canRead_62 : decode b_JT_canRead 62 = .ok (.getfield 197, 3) := by decide +kernel
theorem d_JT_canRead_65 : decode b_JT_canRead 65 = .ok (.getfield 192, 3) := by decide +kernel
theorem d_JT_canRead_68 : decode b_JT_canRead 68 = .ok (.ifCond .le 7, 3) := by decide +kernel
theorem d_JT_canRead_71 : decode b_JT_canRead 71 = .ok (.iconst 1, 1) := by decide +kernel
theorem d_JT_canRead_72 : decode b_JT_canRead 72 = .ok (.goto 4, 3) := by decide +kernel
theorem d_JT_canRead_75 : decode b_JT_canRead 75 = .ok (.iconst 0, 1) := by decide +kernel
theorem d_JT_canRead_76 : decode b_JT_canRead 76 = .ok (.ireturn, 1) := by decide +kernel
theorem d_JT_canWrite_0 : decode b_JT_canWrite 0 = .ok (.aload_n 1, 1) := by decide +kernel
theorem d_JT_canWrite_1 : decode b_JT_canWrite 1 = .ok (.getfield 152, 3) := by decide +kernel
theorem d_JT_canWrite_4 : decode b_JT_canWrite 4 = .ok (.astore_n 2, 1) := by decide +kernel
theorem d_JT_canWrite_5 : decode b_JT_canWrite 5 = .ok (.aload_n 2, 1) := by decide +kernel
theorem d_JT_canWrite_6 : decode b_JT_canWrite 6 = .ok (.ifnull 35, 3) := by decide +kernel
theorem d_JT_canWrite_9 : decode b_JT_canWrite 9 = .ok (.aload_n 2, 1) := by decide +kernel
theorem d_JT_canWrite_10 : decode b_JT_canWrite 10 = .ok (.aload_n 1, 1) := by decide +kernel
theorem d_JT_canWrite_11 : decode b_JT_canWrite 11 = .ok (.invokevirtual 241, 3) := by decide +kernel
theorem d_JT_canWrite_14 : decode b_JT_canWrite 14 = .ok (.ifCond .eq 27, 3) := by decide +kernel
theorem d_JT_canWrite_17 : decode b_JT_canWrite 17 = .ok (.aload_n 2, 1) := by decide +kernel
theorem d_JT_canWrite_18 : decode b_JT_canWrite 18 = .ok (.invokevirtual 244, 3) := by decide +kernel
theorem d_JT_canWrite_21 : decode b_JT_canWrite 21 = .ok (.ifCond .ne 14, 3) := by decide +kernel
theorem d_JT_canWrite_24 : decode b_JT_canWrite 24 = .ok (.aload_n 2, 1) := by decide +kernel
theorem d_JT_canWrite_25 : decode b_JT_canWrite 25 = .ok (.getfield 204, 3) := by decide +kernel
theorem d_JT_canWrite_28 : decode b_JT_canWrite 28 = .ok (.iconst 1, 1) := by decide +kernel
theorem d_JT_canWrite_29 : decode b_JT_canWrite 29 = .ok (.invokevirtual 247, 3) := by decide +kernel
theorem d_JT_canWrite_32 : decode b_JT_canWrite 32 = .ok (.ifCond .eq 7, 3) := by decide +kernel
theorem d_JT_canWrite_35 : decode b_JT_canWrite 35 = .ok (.iconst 1, 1) := by decide +kernel
theorem d_JT_canWrite_36 : decode b_JT_canWrite 36 = .ok (.goto 4, 3) := by decide +kernel
theorem d_JT_canWrite_39 : decode b_JT_canWrite 39 = .ok (.iconst 0, 1) := by decide +kernel
theorem d_JT_canWrite_40 : decode b_JT_canWrite 40 = .ok (.ireturn, 1) := by decide +kernel
theorem d_JT_canWrite_41 : decode b_JT_canWrite 41 = .ok (.iconst 1, 1) := by decide +kernel
theorem d_JT_canWrite_42 : decode b_JT_canWrite 42 = .ok (.ireturn, 1) := by decide +kernel
theorem d_JT_runLine_0 : decode b_JT_runLine 0 = .ok (.aload_n 0, 1) := by decide +kernel
theorem d_JT_runLine_1 : decode b_JT_runLine 1 = .ok (.getfield 10, 3) := by decide +kernel
theorem d_JT_runLine_4 : decode b_JT_runLine 4 = .ok (.aload_n 1, 1) := by decide +kernel
theorem d_JT_runLine_5 : decode b_JT_runLine 5 = .ok (.getfield 216, 3) := by decide +kernel
theorem d_JT_runLine_8 : decode b_JT_runLine 8 = .ok (.aload_n 1, 1) := by decide +kernel
theorem d_JT_runLine_9 : decode b_JT_runLine 9 = .ok (.getfield 219, 3) := by decide +kernel
theorem d_JT_runLine_12 : decode b_JT_runLine 12 = .ok (.invokevirtual 222, 3) := by decide +kernel
theorem d_JT_runLine_15 : decode b_JT_runLine 15 = .ok (.istore_n 2, 1) := by decide +kernel
theorem d_JT_runLine_16 : decode b_JT_runLine 16 = .ok (.aload_n 0, 1) := by decide +kernel
theorem d_JT_runLine_17 : decode b_JT_runLine 17 = .ok (.getfield 10, 3) := by decide +kernel
theorem d_JT_runLine_20 : decode b_JT_runLine 20 = .ok (.aload_n 1, 1) := by decide +kernel
theorem d_JT_runLine_21 : decode b_JT_runLine 21 = .ok (.getfield 216, 3) := by decide +kernel
theorem d_JT_runLine_24 : decode b_JT_runLine 24 = .ok (.aload_n 1, 1) := by decide +kernel
theorem d_JT_runLine_25 : decode b_JT_runLine 25 = .ok (.getfield 219, 3) := by decide +kernel
theorem d_JT_runLine_28 : decode b_JT_runLine 28 = .ok (.invokevirtual 250, 3) := by decide +kernel
theorem d_JT_runLine_31 : decode b_JT_runLine 31 = .ok (.istore_n 3, 1) := by decide +kernel
theorem d_JT_runLine_32 : decode b_JT_runLine 32 = .ok (.iload_n 2, 1) := by decide +kernel
theorem d_JT_runLine_33 : decode b_JT_runLine 33 = .ok (.tableswitch 75 1 3 #[33, 27, 43], 27) := by decide +kernel
theorem d_JT_runLine_60 : decode b_JT_runLine 60 = .ok (.aload_n 0, 1) := by decide +kernel
theorem d_JT_runLine_61 : decode b_JT_runLine 61 = .ok (.aload_n 1, 1) := by decide +kernel
theorem d_JT_runLine_62 : decode b_JT_runLine 62 = .ok (.invokevirtual 253, 3) := by decide +kernel
theorem d_JT_runLine_65 : decode b_JT_runLine 65 = .ok (.ireturn, 1) := by decide +kernel
theorem d_JT_runLine_66 : decode b_JT_runLine 66 = .ok (.aload_n 0, 1) := by decide +kernel
theorem d_JT_runLine_67 : decode b_JT_runLine 67 = .ok (.aload_n 1, 1) := by decide +kernel
theorem d_JT_runLine_68 : decode b_JT_runLine 68 = .ok (.iload_n 3, 1) := by decide +kernel
theorem d_JT_runLine_69 : decode b_JT_runLine 69 = .ok (.bipush 127, 2) := by decide +kernel
theorem d_JT_runLine_71 : decode b_JT_runLine 71 = .ok (.iand, 1) := by decide +kernel
theorem d_JT_runLine_72 : decode b_JT_runLine 72 = .ok (.invokevirtual 256, 3) := by decide +kernel
theorem d_JT_runLine_75 : decode b_JT_runLine 75 = .ok (.ireturn, 1) := by decide +kernel
theorem d_JT_runLine_76 : decode b_JT_runLine 76 = .ok (.aload_n 1, 1) := by decide +kernel
theorem d_JT_runLine_77 : decode b_JT_runLine 77 = .ok (.getfield 232, 3) := by decide +kernel
theorem d_JT_runLine_80 : decode b_JT_runLine 80 = .ok (.ifCond .lt 16, 3) := by decide +kernel
theorem d_JT_runLine_83 : decode b_JT_runLine 83 = .ok (.aload_n 0, 1) := by decide +kernel
theorem d_JT_runLine_84 : decode b_JT_runLine 84 = .ok (.aload_n 1, 1) := by decide +kernel
theorem d_JT_runLine_85 : decode b_JT_runLine 85 = .ok (.aload_n 1, 1) := by decide +kernel
theorem d_JT_runLine_86 : decode b_JT_runLine 86 = .ok (.getfield 232, 3) := by decide +kernel
theorem d_JT_runLine_89 : decode b_JT_runLine 89 = .ok (.bipush 127, 2) := by decide +kernel
theorem d_JT_runLine_91 : decode b_JT_runLine 91 = .ok (.iand, 1) := by decide +kernel
theorem d_JT_runLine_92 : decode b_JT_runLine 92 = .ok (.invokevirtual 256, 3) := by decide +kernel
theorem d_JT_runLine_95 : decode b_JT_runLine 95 = .ok (.ireturn, 1) := by decide +kernel
theorem d_JT_runLine_96 : decode b_JT_runLine 96 = .ok (.aload_n 1, 1) := by decide +kernel
theorem d_JT_runLine_97 : decode b_JT_runLine 97 = .ok (.dup, 1) := by decide +kernel
theorem d_JT_runLine_98 : decode b_JT_runLine 98 = .ok (.getfield 219, 3) := by decide +kernel
theorem d_JT_runLine_101 : decode b_JT_runLine 101 = .ok (.iconst 1, 1) := by decide +kernel
theorem d_JT_runLine_102 : decode b_JT_runLine 102 = .ok (.iadd, 1) := by decide +kernel
theorem d_JT_runLine_103 : decode b_JT_runLine 103 = .ok (.putfield 219, 3) := by decide +kernel
theorem d_JT_runLine_106 : decode b_JT_runLine 106 = .ok (.iconst 0, 1) := by decide +kernel
theorem d_JT_runLine_107 : decode b_JT_runLine 107 = .ok (.ireturn, 1) := by decide +kernel
theorem d_JT_runLine_108 : decode b_JT_runLine 108 = .ok (.aload_n 1, 1) := by decide +kernel
theorem d_JT_runLine_109 : decode b_JT_runLine 109 = .ok (.iload_n 2, 1) := by decide +kernel
theorem d_JT_runLine_110 : decode b_JT_runLine 110 = .ok (.iload_n 3, 1) := by decide +kernel
theorem d_JT_runLine_111 : decode b_JT_runLine 111 = .ok (.invokevirtual 260, 3) := by decide +kernel
theorem d_JT_runLine_114 : decode b_JT_runLine 114 = .ok (.iconst 0, 1) := by decide +kernel
theorem d_JT_runLine_115 : decode b_JT_runLine 115 = .ok (.ireturn, 1) := by decide +kernel
theorem d_JT_read_0 : decode b_JT_read 0 = .ok (.aload_n 1, 1) := by decide +kernel
theorem d_JT_read_1 : decode b_JT_read 1 = .ok (.getfield 152, 3) := by decide +kernel
theorem d_JT_read_4 : decode b_JT_read 4 = .ok (.astore_n 2, 1) := by decide +kernel
theorem d_JT_read_5 : decode b_JT_read 5 = .ok (.aload_n 2, 1) := by decide +kernel
theorem d_JT_read_6 : decode b_JT_read 6 = .ok (.ifnull 24, 3) := by decide +kernel
theorem d_JT_read_9 : decode b_JT_read 9 = .ok (.aload_n 2, 1) := by decide +kernel
theorem d_JT_read_10 : decode b_JT_read 10 = .ok (.aload_n 1, 1) := by decide +kernel
theorem d_JT_read_11 : decode b_JT_read 11 = .ok (.invokevirtual 235, 3) := by decide +kernel
theorem d_JT_read_14 : decode b_JT_read 14 = .ok (.ifCond .eq 16, 3) := by decide +kernel
theorem d_JT_read_17 : decode b_JT_read 17 = .ok (.aload_n 1, 1) := by decide +kernel
theorem d_JT_read_18 : decode b_JT_read 18 = .ok (.aload_n 2, 1) := by decide +kernel
theorem d_JT_read_19 : decode b_JT_read 19 = .ok (.getfield 204, 3) := by decide +kernel
theorem d_JT_read_22 : decode b_JT_read 22 = .ok (.invokevirtual 264, 3) := by decide +kernel
theorem d_JT_read_25 : decode b_JT_read 25 = .ok (.invokevirtual 267, 3) := by decide +kernel
theorem d_JT_read_28 : decode b_JT_read 28 = .ok (.iconst 0, 1) := by decide +kernel
theorem d_JT_read_29 : decode b_JT_read 29 = .ok (.ireturn, 1) := by decide +kernel
theorem d_JT_read_30 : decode b_JT_read 30 = .ok (.aload_n 0, 1) := by decide +kernel
theorem d_JT_read_31 : decode b_JT_read 31 = .ok (.getfield 19, 3) := by decide +kernel
theorem d_JT_read_34 : decode b_JT_read 34 = .ok (.getfield 164, 3) := by decide +kernel
theorem d_JT_read_37 : decode b_JT_read 37 = .ok (.ifCond .eq 10, 3) := by decide +kernel
theorem d_JT_read_40 : decode b_JT_read 40 = .ok (.aload_n 1, 1) := by decide +kernel
theorem d_JT_read_41 : decode b_JT_read 41 = .ok (.iconst (-1), 1) := by decide +kernel
theorem d_JT_read_42 : decode b_JT_read 42 = .ok (.invokevirtual 267, 3) := by decide +kernel
theorem d_JT_read_45 : decode b_JT_read 45 = .ok (.iconst 0, 1) := by decide +kernel
theorem d_JT_read_46 : decode b_JT_read 46 = .ok (.ireturn, 1) := by decide +kernel
theorem d_JT_read_47 : decode b_JT_read 47 = .ok (.aload_n 2, 1) := by decide +kernel
theorem d_JT_read_48 : decode b_JT_read 48 = .ok (.aload_n 0, 1) := by decide +kernel
theorem d_JT_read_49 : decode b_JT_read 49 = .ok (.getfield 39, 3) := by decide +kernel
theorem d_JT_read_52 : decode b_JT_read 52 = .ok (.if_acmp .ne 19, 3) := by decide +kernel
theorem d_JT_read_55 : decode b_JT_read 55 = .ok (.aload_n 1, 1) := by decide +kernel
theorem d_JT_read_56 : decode b_JT_read 56 = .ok (.aload_n 0, 1) := by decide +kernel
theorem d_JT_read_57 : decode b_JT_read 57 = .ok (.getfield 19, 3) := by decide +kernel
theorem d_JT_read_60 : decode b_JT_read 60 = .ok (.getfield 197, 3) := by decide +kernel
theorem d_JT_read_63 : decode b_JT_read 63 = .ok (.invokevirtual 264, 3) := by decide +kernel
theorem d_JT_read_66 : decode b_JT_read 66 = .ok (.invokevirtual 267, 3) := by decide +kernel
theorem d_JT_read_69 : decode b_JT_read 69 = .ok (.iconst 0, 1) := by decide +kernel
theorem d_JT_read_70 : decode b_JT_read 70 = .ok (.ireturn, 1) := by decide +kernel
theorem d_JT_read_71 : decode b_JT_read 71 = .ok (.aload_n 1, 1) := by decide +kernel
theorem d_JT_read_72 : decode b_JT_read 72 = .ok (.bipush 8, 2) := by decide +kernel
theorem d_JT_read_74 : decode b_JT_read 74 = .ok (.invokevirtual 270, 3) := by decide +kernel
theorem d_JT_read_77 : decode b_JT_read 77 = .ok (.ifCond .eq 9, 3) := by decide +kernel
theorem d_JT_read_80 : decode b_JT_read 80 = .ok (.aload_n 1, 1) := by decide +kernel
theorem d_JT_read_81 : decode b_JT_read 81 = .ok (.invokevirtual 273, 3) := by decide +kernel
theorem d_JT_read_84 : decode b_JT_read 84 = .ok (.iconst 1, 1) := by decide +kernel
theorem d_JT_read_85 : decode b_JT_read 85 = .ok (.ireturn, 1) := by decide +kernel
theorem d_JT_read_86 : decode b_JT_read 86 = .ok (.aload_n 2, 1) := by decide +kernel
theorem d_JT_read_87 : decode b_JT_read 87 = .ok (.ifnull 9, 3) := by decide +kernel
theorem d_JT_read_90 : decode b_JT_read 90 = .ok (.aload_n 2, 1) := by decide +kernel
theorem d_JT_read_91 : decode b_JT_read 91 = .ok (.bipush 8, 2) := by decide +kernel
theorem d_JT_read_93 : decode b_JT_read 93 = .ok (.invokevirtual 71, 3) := by decide +kernel
theorem d_JT_read_96 : decode b_JT_read 96 = .ok (.iconst 0, 1) := by decide +kernel
theorem d_JT_read_97 : decode b_JT_read 97 = .ok (.ireturn, 1) := by decide +kernel
theorem d_JT_write_0 : decode b_JT_write 0 = .ok (.aload_n 1, 1) := by decide +kernel
theorem d_JT_write_1 : decode b_JT_write 1 = .ok (.getfield 152, 3) := by decide +kernel
theorem d_JT_write_4 : decode b_JT_write 4 = .ok (.astore_n 3, 1) := by decide +kernel
theorem d_JT_write_5 : decode b_JT_write 5 = .ok (.aload_n 3, 1) := by decide +kernel
theorem d_JT_write_6 : decode b_JT_write 6 = .ok (.ifnull 18, 3) := by decide +kernel
theorem d_JT_write_9 : decode b_JT_write 9 = .ok (.aload_n 3, 1) := by decide +kernel
theorem d_JT_write_10 : decode b_JT_write 10 = .ok (.aload_n 1, 1) := by decide +kernel
theorem d_JT_write_11 : decode b_JT_write 11 = .ok (.invokevirtual 241, 3) := by decide +kernel
theorem d_JT_write_14 : decode b_JT_write 14 = .ok (.ifCond .eq 10, 3) := by decide +kernel
theorem d_JT_write_17 : decode b_JT_write 17 = .ok (.aload_n 3, 1) := by decide +kernel
theorem d_JT_write_18 : decode b_JT_write 18 = .ok (.aload_n 1, 1) := by decide +kernel
theorem d_JT_write_19 : decode b_JT_write 19 = .ok (.iload_n 2, 1) := by decide +kernel
theorem d_JT_write_20 : decode b_JT_write 20 = .ok (.invokestatic 276, 3) := by decide +kernel
theorem d_JT_write_23 : decode b_JT_write 23 = .ok (.ireturn, 1) := by decide +kernel
theorem d_JT_write_24 : decode b_JT_write 24 = .ok (.aload_n 0, 1) := by decide +kernel
theorem d_JT_write_25 : decode b_JT_write 25 = .ok (.getfield 19, 3) := by decide +kernel
theorem d_JT_write_28 : decode b_JT_write 28 = .ok (.getfield 164, 3) := by decide +kernel
theorem d_JT_write_31 : decode b_JT_write 31 = .ok (.ifCond .eq 9, 3) := by decide +kernel
theorem d_JT_write_34 : decode b_JT_write 34 = .ok (.aload_n 1, 1) := by decide +kernel
theorem d_JT_write_35 : decode b_JT_write 35 = .ok (.invokevirtual 273, 3) := by decide +kernel
theorem d_JT_write_38 : decode b_JT_write 38 = .ok (.iconst 1, 1) := by decide +kernel
theorem d_JT_write_39 : decode b_JT_write 39 = .ok (.ireturn, 1) := by decide +kernel
theorem d_JT_write_40 : decode b_JT_write 40 = .ok (.aload_n 3, 1) := by decide +kernel
theorem d_JT_write_41 : decode b_JT_write 41 = .ok (.ifnull 40, 3) := by decide +kernel
theorem d_JT_write_44 : decode b_JT_write 44 = .ok (.aload_n 3, 1) := by decide +kernel
theorem d_JT_write_45 : decode b_JT_write 45 = .ok (.aload_n 0, 1) := by decide +kernel
theorem d_JT_write_46 : decode b_JT_write 46 = .ok (.getfield 39, 3) := by decide +kernel
theorem d_JT_write_49 : decode b_JT_write 49 = .ok (.if_acmp .eq 32, 3) := by decide +kernel
theorem d_JT_write_52 : decode b_JT_write 52 = .ok (.aload_n 0, 1) := by decide +kernel
theorem d_JT_write_53 : decode b_JT_write 53 = .ok (.getfield 19, 3) := by decide +kernel
theorem d_JT_write_56 : decode b_JT_write 56 = .ok (.bipush 16, 2) := by decide +kernel
theorem d_JT_write_58 : decode b_JT_write 58 = .ok (.invokevirtual 280, 3) := by decide +kernel
theorem d_JT_write_61 : decode b_JT_write 61 = .ok (.ifCond .eq 20, 3) := by decide +kernel
theorem d_JT_write_64 : decode b_JT_write 64 = .ok (.aload_n 1, 1) := by decide +kernel
theorem d_JT_write_65 : decode b_JT_write 65 = .ok (.bipush 9, 2) := by decide +kernel
theorem d_JT_write_67 : decode b_JT_write 67 = .ok (.invokevirtual 270, 3) := by decide +kernel
theorem d_JT_write_70 : decode b_JT_write 70 = .ok (.ifCond .ne 11, 3) := by decide +kernel
theorem d_JT_write_73 : decode b_JT_write 73 = .ok (.aload_n 3, 1) := by decide +kernel
theorem d_JT_write_74 : decode b_JT_write 74 = .ok (.bipush 9, 2) := by decide +kernel
theorem d_JT_write_76 : decode b_JT_write 76 = .ok (.invokevirtual 71, 3) := by decide +kernel
theorem d_JT_write_79 : decode b_JT_write 79 = .ok (.iconst 0, 1) := by decide +kernel
theorem d_JT_write_80 : decode b_JT_write 80 = .ok (.ireturn, 1) := by decide +kernel
theorem d_JT_write_81 : decode b_JT_write 81 = .ok (.aload_n 0, 1) := by decide +kernel
theorem d_JT_write_82 : decode b_JT_write 82 = .ok (.getfield 19, 3) := by decide +kernel
theorem d_JT_write_85 : decode b_JT_write 85 = .ok (.iload_n 2, 1) := by decide +kernel
theorem d_JT_write_86 : decode b_JT_write 86 = .ok (.invokevirtual 283, 3) := by decide +kernel
theorem d_JT_write_89 : decode b_JT_write 89 = .ok (.aload_n 1, 1) := by decide +kernel
theorem d_JT_write_90 : decode b_JT_write 90 = .ok (.dup, 1) := by decide +kernel
theorem d_JT_write_91 : decode b_JT_write 91 = .ok (.getfield 219, 3) := by decide +kernel
theorem d_JT_write_94 : decode b_JT_write 94 = .ok (.iconst 1, 1) := by decide +kernel
theorem d_JT_write_95 : decode b_JT_write 95 = .ok (.iadd, 1) := by decide +kernel
theorem d_JT_write_96 : decode b_JT_write 96 = .ok (.putfield 219, 3) := by decide +kernel
theorem d_JT_write_99 : decode b_JT_write 99 = .ok (.iconst 0, 1) := by decide +kernel
theorem d_JT_write_100 : decode b_JT_write 100 = .ok (.ireturn, 1) := by decide +kernel
theorem d_JT_writeToPipe_0 : decode b_JT_writeToPipe 0 = .ok (.aload_n 0, 1) := by decide +kernel
theorem d_JT_writeToPipe_1 : decode b_JT_writeToPipe 1 = .ok (.invokevirtual 244, 3) := by decide +kernel
theorem d_JT_writeToPipe_4 : decode b_JT_writeToPipe 4 = .ok (.ifCond .eq 9, 3) := by decide +kernel
theorem d_JT_writeToPipe_7 : decode b_JT_writeToPipe 7 = .ok (.aload_n 1, 1) := by decide +kernel
theorem d_JT_writeToPipe_8 : decode b_JT_writeToPipe 8 = .ok (.invokevirtual 273, 3) := by decide +kernel
theorem d_JT_writeToPipe_11 : decode b_JT_writeToPipe 11 = .ok (.iconst 1, 1) := by decide +kernel
theorem d_JT_writeToPipe_12 : decode b_JT_writeToPipe 12 = .ok (.ireturn, 1) := by decide +kernel
theorem d_JT_writeToPipe_13 : decode b_JT_writeToPipe 13 = .ok (.aload_n 0, 1) := by decide +kernel
theorem d_JT_writeToPipe_14 : decode b_JT_writeToPipe 14 = .ok (.getfield 204, 3) := by decide +kernel
theorem d_JT_writeToPipe_17 : decode b_JT_writeToPipe 17 = .ok (.iload_n 2, 1) := by decide +kernel
theorem d_JT_writeToPipe_18 : decode b_JT_writeToPipe 18 = .ok (.invokevirtual 286, 3) := by decide +kernel
theorem d_JT_writeToPipe_21 : decode b_JT_writeToPipe 21 = .ok (.aload_n 1, 1) := by decide +kernel
theorem d_JT_writeToPipe_22 : decode b_JT_writeToPipe 22 = .ok (.dup, 1) := by decide +kernel
theorem d_JT_writeToPipe_23 : decode b_JT_writeToPipe 23 = .ok (.getfield 219, 3) := by decide +kernel
theorem d_JT_writeToPipe_26 : decode b_JT_writeToPipe 26 = .ok (.iconst 1, 1) := by decide +kernel
theorem d_JT_writeToPipe_27 : decode b_JT_writeToPipe 27 = .ok (.iadd, 1) := by decide +kernel
theorem d_JT_writeToPipe_28 : decode b_JT_writeToPipe 28 = .ok (.putfield 219, 3) := by decide +kernel
theorem d_JT_writeToPipe_31 : decode b_JT_writeToPipe 31 = .ok (.iconst 0, 1) := by decide +kernel
theorem d_JT_writeToPipe_32 : decode b_JT_writeToPipe 32 = .ok (.ireturn, 1) := by decide +kernel
