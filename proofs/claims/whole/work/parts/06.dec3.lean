theorem d_Mo_init_0 : decode b_Mo_init 0 = .ok (.aload_n 0, 1) := by decide +kernel
theorem d_Mo_init_1 : decode b_Mo_init 1 = .ok (.invokespecial 1, 3) := by decide +kernel
theorem d_Mo_init_4 : decode b_Mo_init 4 = .ok (.aload_n 0, 1) := by decide +kernel
theorem d_Mo_init_5 : decode b_Mo_init 5 = .ok (.bipush 64, 2) := by decide +kernel
theorem d_Mo_init_7 : decode b_Mo_init 7 = .ok (.newarray .int, 2) := by decide +kernel
theorem d_Mo_init_9 : decode b_Mo_init 9 = .ok (.putfield 7, 3) := by decide +kernel
theorem d_Mo_init_12 : decode b_Mo_init 12 = .ok (.aload_n 0, 1) := by decide +kernel
theorem d_Mo_init_13 : decode b_Mo_init 13 = .ok (.bipush 64, 2) := by decide +kernel
theorem d_Mo_init_15 : decode b_Mo_init 15 = .ok (.newarray .int, 2) := by decide +kernel
theorem d_Mo_init_17 : decode b_Mo_init 17 = .ok (.putfield 13, 3) := by decide +kernel
theorem d_Mo_init_20 : decode b_Mo_init 20 = .ok (.aload_n 0, 1) := by decide +kernel
theorem d_Mo_init_21 : decode b_Mo_init 21 = .ok (.bipush 8, 2) := by decide +kernel
theorem d_Mo_init_23 : decode b_Mo_init 23 = .ok (.newarray .int, 2) := by decide +kernel
theorem d_Mo_init_25 : decode b_Mo_init 25 = .ok (.putfield 16, 3) := by decide +kernel
theorem d_Mo_init_28 : decode b_Mo_init 28 = .ok (.aload_n 0, 1) := by decide +kernel
theorem d_Mo_init_29 : decode b_Mo_init 29 = .ok (.bipush 8, 2) := by decide +kernel
theorem d_Mo_init_31 : decode b_Mo_init 31 = .ok (.newarray .int, 2) := by decide +kernel
theorem d_Mo_init_33 : decode b_Mo_init 33 = .ok (.putfield 19, 3) := by decide +kernel
theorem d_Mo_init_36 : decode b_Mo_init 36 = .ok (.aload_n 0, 1) := by decide +kernel
theorem d_Mo_init_37 : decode b_Mo_init 37 = .ok (.bipush 8, 2) := by decide +kernel
theorem d_Mo_init_39 : decode b_Mo_init 39 = .ok (.newarray .int, 2) := by decide +kernel
theorem d_Mo_init_41 : decode b_Mo_init 41 = .ok (.putfield 22, 3) := by decide +kernel
theorem d_Mo_init_44 : decode b_Mo_init 44 = .ok (.aload_n 0, 1) := by decide +kernel
theorem d_Mo_init_45 : decode b_Mo_init 45 = .ok (.bipush 8, 2) := by decide +kernel
theorem d_Mo_init_47 : decode b_Mo_init 47 = .ok (.newarray .int, 2) := by decide +kernel
theorem d_Mo_init_49 : decode b_Mo_init 49 = .ok (.putfield 25, 3) := by decide +kernel
theorem d_Mo_init_52 : decode b_Mo_init 52 = .ok (.aload_n 0, 1) := by decide +kernel
theorem d_Mo_init_53 : decode b_Mo_init 53 = .ok (.bipush 8, 2) := by decide +kernel
theorem d_Mo_init_55 : decode b_Mo_init 55 = .ok (.newarray .int, 2) := by decide +kernel
theorem d_Mo_init_57 : decode b_Mo_init 57 = .ok (.putfield 28, 3) := by decide +kernel
theorem d_Mo_init_60 : decode b_Mo_init 60 = .ok (.aload_n 0, 1) := by decide +kernel
theorem d_Mo_init_61 : decode b_Mo_init 61 = .ok (.bipush 8, 2) := by decide +kernel
theorem d_Mo_init_63 : decode b_Mo_init 63 = .ok (.newarray .int, 2) := by decide +kernel
theorem d_Mo_init_65 : decode b_Mo_init 65 = .ok (.putfield 31, 3) := by decide +kernel
theorem d_Mo_init_68 : decode b_Mo_init 68 = .ok (.aload_n 0, 1) := by decide +kernel
theorem d_Mo_init_69 : decode b_Mo_init 69 = .ok (.bipush 8, 2) := by decide +kernel
theorem d_Mo_init_71 : decode b_Mo_init 71 = .ok (.newarray .int, 2) := by decide +kernel
theorem d_Mo_init_73 : decode b_Mo_init 73 = .ok (.putfield 34, 3) := by decide +kernel
theorem d_Mo_init_76 : decode b_Mo_init 76 = .ok (.aload_n 0, 1) := by decide +kernel
theorem d_Mo_init_77 : decode b_Mo_init 77 = .ok (.bipush 8, 2) := by decide +kernel
theorem d_Mo_init_79 : decode b_Mo_init 79 = .ok (.newarray .int, 2) := by decide +kernel
theorem d_Mo_init_81 : decode b_Mo_init 81 = .ok (.putfield 37, 3) := by decide +kernel
theorem d_Mo_init_84 : decode b_Mo_init 84 = .ok (.aload_n 0, 1) := by decide +kernel
theorem d_Mo_init_85 : decode b_Mo_init 85 = .ok (.bipush 8, 2) := by decide +kernel
theorem d_Mo_init_87 : decode b_Mo_init 87 = .ok (.newarray .int, 2) := by decide +kernel
theorem d_Mo_init_89 : decode b_Mo_init 89 = .ok (.putfield 40, 3) := by decide +kernel
theorem d_Mo_init_92 : decode b_Mo_init 92 = .ok (.aload_n 0, 1) := by decide +kernel
theorem d_Mo_init_93 : decode b_Mo_init 93 = .ok (.bipush 8, 2) := by decide +kernel
theorem d_Mo_init_95 : decode b_Mo_init 95 = .ok (.newarray .int, 2) := by decide +kernel
theorem d_Mo_init_97 : decode b_Mo_init 97 = .ok (.putfield 43, 3) := by decide +kernel
theorem d_Mo_init_100 : decode b_Mo_init 100 = .ok (.aload_n 0, 1) := by decide +kernel
theorem d_Mo_init_101 : decode b_Mo_init 101 = .ok (.iconst 4, 1) := by decide +kernel
theorem d_Mo_init_102 : decode b_Mo_init 102 = .ok (.newarray .boolean, 2) := by decide +kernel
theorem d_Mo_init_104 : decode b_Mo_init 104 = .ok (.putfield 46, 3) := by decide +kernel
theorem d_Mo_init_107 : decode b_Mo_init 107 = .ok (.aload_n 0, 1) := by decide +kernel
theorem d_Mo_init_108 : decode b_Mo_init 108 = .ok (.iconst 4, 1) := by decide +kernel
theorem d_Mo_init_109 : decode b_Mo_init 109 = .ok (.newarray .int, 2) := by decide +kernel
theorem d_Mo_init_111 : decode b_Mo_init 111 = .ok (.putfield 50, 3) := by decide +kernel
theorem d_Mo_init_114 : decode b_Mo_init 114 = .ok (.aload_n 0, 1) := by decide +kernel
theorem d_Mo_init_115 : decode b_Mo_init 115 = .ok (.iconst 4, 1) := by decide +kernel
theorem d_Mo_init_116 : decode b_Mo_init 116 = .ok (.newarray .int, 2) := by decide +kernel
theorem d_Mo_init_118 : decode b_Mo_init 118 = .ok (.putfield 53, 3) := by decide +kernel
theorem d_Mo_init_121 : decode b_Mo_init 121 = .ok (.aload_n 0, 1) := by decide +kernel
theorem d_Mo_init_122 : decode b_Mo_init 122 = .ok (.iconst 4, 1) := by decide +kernel
theorem d_Mo_init_123 : decode b_Mo_init 123 = .ok (.newarray .int, 2) := by decide +kernel
theorem d_Mo_init_125 : decode b_Mo_init 125 = .ok (.putfield 56, 3) := by decide +kernel
theorem d_Mo_init_128 : decode b_Mo_init 128 = .ok (.aload_n 0, 1) := by decide +kernel
theorem d_Mo_init_129 : decode b_Mo_init 129 = .ok (.iconst 4, 1) := by decide +kernel
theorem d_Mo_init_130 : decode b_Mo_init 130 = .ok (.newarray .boolean, 2) := by decide +kernel
theorem d_Mo_init_132 : decode b_Mo_init 132 = .ok (.putfield 59, 3) := by decide +kernel
theorem d_Mo_init_135 : decode b_Mo_init 135 = .ok (.aload_n 0, 1) := by decide +kernel
theorem d_Mo_init_136 : decode b_Mo_init 136 = .ok (.iconst 4, 1) := by decide +kernel
theorem d_Mo_init_137 : decode b_Mo_init 137 = .ok (.newarray .int, 2) := by decide +kernel
theorem d_Mo_init_139 : decode b_Mo_init 139 = .ok (.putfield 62, 3) := by decide +kernel
theorem d_Mo_init_142 : decode b_Mo_init 142 = .ok (.aload_n 0, 1) := by decide +kernel
theorem d_Mo_init_143 : decode b_Mo_init 143 = .ok (.bipush 16, 2) := by decide +kernel
theorem d_Mo_init_145 : decode b_Mo_init 145 = .ok (.newarray .int, 2) := by decide +kernel
theorem d_Mo_init_147 : decode b_Mo_init 147 = .ok (.putfield 65, 3) := by decide +kernel
theorem d_Mo_init_150 : decode b_Mo_init 150 = .ok (.aload_n 0, 1) := by decide +kernel
theorem d_Mo_init_151 : decode b_Mo_init 151 = .ok (.iconst (-1), 1) := by decide +kernel
theorem d_Mo_init_152 : decode b_Mo_init 152 = .ok (.putfield 68, 3) := by decide +kernel
theorem d_Mo_init_155 : decode b_Mo_init 155 = .ok (.aload_n 0, 1) := by decide +kernel
theorem d_Mo_init_156 : decode b_Mo_init 156 = .ok (.bipush 47, 2) := by decide +kernel
theorem d_Mo_init_158 : decode b_Mo_init 158 = .ok (.putfield 72, 3) := by decide +kernel
theorem d_Mo_init_161 : decode b_Mo_init 161 = .ok (.aload_n 0, 1) := by decide +kernel
theorem d_Mo_init_162 : decode b_Mo_init 162 = .ok (.bipush 20, 2) := by decide +kernel
theorem d_Mo_init_164 : decode b_Mo_init 164 = .ok (.newarray .int, 2) := by decide +kernel
theorem d_Mo_init_166 : decode b_Mo_init 166 = .ok (.putfield 75, 3) := by decide +kernel
theorem d_Mo_init_169 : decode b_Mo_init 169 = .ok (.aload_n 0, 1) := by decide +kernel
theorem d_Mo_init_170 : decode b_Mo_init 170 = .ok (.bipush 40, 2) := by decide +kernel
theorem d_Mo_init_172 : decode b_Mo_init 172 = .ok (.newarray .int, 2) := by decide +kernel
theorem d_Mo_init_174 : decode b_Mo_init 174 = .ok (.putfield 78, 3) := by decide +kernel
theorem d_Mo_init_177 : decode b_Mo_init 177 = .ok (.aload_n 0, 1) := by decide +kernel
theorem d_Mo_init_178 : decode b_Mo_init 178 = .ok (.bipush 100, 2) := by decide +kernel
theorem d_Mo_init_180 : decode b_Mo_init 180 = .ok (.newarray .int, 2) := by decide +kernel
theorem d_Mo_init_182 : decode b_Mo_init 182 = .ok (.putfield 81, 3) := by decide +kernel
theorem d_Mo_init_185 : decode b_Mo_init 185 = .ok (.return_, 1) := by decide +kernel
theorem d_Mo_thrown_0 : decode b_Mo_thrown 0 = .ok (.aload_n 0, 1) := by decide +kernel
theorem d_Mo_thrown_1 : decode b_Mo_thrown 1 = .ok (.getfield 84, 3) := by decide +kernel
theorem d_Mo_thrown_4 : decode b_Mo_thrown 4 = .ok (.ireturn, 1) := by decide +kernel
theorem d_Mo_isJob_0 : decode b_Mo_isJob 0 = .ok (.iload_n 1, 1) := by decide +kernel
theorem d_Mo_isJob_1 : decode b_Mo_isJob 1 = .ok (.ifCond .lt 21, 3) := by decide +kernel
theorem d_Mo_isJob_4 : decode b_Mo_isJob 4 = .ok (.iload_n 1, 1) := by decide +kernel
theorem d_Mo_isJob_5 : decode b_Mo_isJob 5 = .ok (.iconst 4, 1) := by decide +kernel
theorem d_Mo_isJob_6 : decode b_Mo_isJob 6 = .ok (.if_icmp .ge 16, 3) := by decide +kernel
theorem d_Mo_isJob_9 : decode b_Mo_isJob 9 = .ok (.aload_n 0, 1) := by decide +kernel
theorem d_Mo_isJob_10 : decode b_Mo_isJob 10 = .ok (.getfield 46, 3) := by decide +kernel
theorem d_Mo_isJob_13 : decode b_Mo_isJob 13 = .ok (.iload_n 1, 1) := by decide +kernel
theorem d_Mo_isJob_14 : decode b_Mo_isJob 14 = .ok (.baload, 1) := by decide +kernel
theorem d_Mo_isJob_15 : decode b_Mo_isJob 15 = .ok (.ifCond .eq 7, 3) := by decide +kernel
theorem d_Mo_isJob_18 : decode b_Mo_isJob 18 = .ok (.iconst 1, 1) := by decide +kernel
theorem d_Mo_isJob_19 : decode b_Mo_isJob 19 = .ok (.goto 4, 3) := by decide +kernel
theorem d_Mo_isJob_22 : decode b_Mo_isJob 22 = .ok (.iconst 0, 1) := by decide +kernel
theorem d_Mo_isJob_23 : decode b_Mo_isJob 23 = .ok (.ireturn, 1) := by decide +kernel
theorem d_Mo_stateOf_0 : decode b_Mo_stateOf 0 = .ok (.aload_n 0, 1) := by decide +kernel
theorem d_Mo_stateOf_1 : decode b_Mo_stateOf 1 = .ok (.getfield 16, 3) := by decide +kernel
theorem d_Mo_stateOf_4 : decode b_Mo_stateOf 4 = .ok (.aload_n 0, 1) := by decide +kernel
theorem d_Mo_stateOf_5 : decode b_Mo_stateOf 5 = .ok (.getfield 50, 3) := by decide +kernel
theorem d_Mo_stateOf_8 : decode b_Mo_stateOf 8 = .ok (.iload_n 1, 1) := by decide +kernel
theorem d_Mo_stateOf_9 : decode b_Mo_stateOf 9 = .ok (.iaload, 1) := by decide +kernel
theorem d_Mo_stateOf_10 : decode b_Mo_stateOf 10 = .ok (.iaload, 1) := by decide +kernel
theorem d_Mo_stateOf_11 : decode b_Mo_stateOf 11 = .ok (.iconst 3, 1) := by decide +kernel
theorem d_Mo_stateOf_12 : decode b_Mo_stateOf 12 = .ok (.if_icmp .ne 31, 3) := by decide +kernel
theorem d_Mo_stateOf_15 : decode b_Mo_stateOf 15 = .ok (.aload_n 0, 1) := by decide +kernel
theorem d_Mo_stateOf_16 : decode b_Mo_stateOf 16 = .ok (.getfield 53, 3) := by decide +kernel
theorem d_Mo_stateOf_19 : decode b_Mo_stateOf 19 = .ok (.iload_n 1, 1) := by decide +kernel
theorem d_Mo_stateOf_20 : decode b_Mo_stateOf 20 = .ok (.iaload, 1) := by decide +kernel
theorem d_Mo_stateOf_21 : decode b_Mo_stateOf 21 = .ok (.ifCond .lt 18, 3) := by decide +kernel
theorem d_Mo_stateOf_24 : decode b_Mo_stateOf 24 = .ok (.aload_n 0, 1) := by decide +kernel
theorem d_Mo_stateOf_25 : decode b_Mo_stateOf 25 = .ok (.getfield 16, 3) := by decide +kernel
theorem d_Mo_stateOf_28 : decode b_Mo_stateOf 28 = .ok (.aload_n 0, 1) := by decide +kernel
theorem d_Mo_stateOf_29 : decode b_Mo_stateOf 29 = .ok (.getfield 53, 3) := by decide +kernel
theorem d_Mo_stateOf_32 : decode b_Mo_stateOf 32 = .ok (.iload_n 1, 1) := by decide +kernel
theorem d_Mo_stateOf_33 : decode b_Mo_stateOf 33 = .ok (.iaload, 1) := by decide +kernel
theorem d_Mo_stateOf_34 : decode b_Mo_stateOf 34 = .ok (.iaload, 1) := by decide +kernel
theorem d_Mo_stateOf_35 : decode b_Mo_stateOf 35 = .ok (.iconst 3, 1) := by decide +kernel
theorem d_Mo_stateOf_36 : decode b_Mo_stateOf 36 = .ok (.if_icmp .ne 7, 3) := by decide +kernel
theorem d_Mo_stateOf_39 : decode b_Mo_stateOf 39 = .ok (.iconst 1, 1) := by decide +kernel
theorem d_Mo_stateOf_40 : decode b_Mo_stateOf 40 = .ok (.goto 4, 3) := by decide +kernel
theorem d_Mo_stateOf_43 : decode b_Mo_stateOf 43 = .ok (.iconst 0, 1) := by decide +kernel
theorem d_Mo_stateOf_44 : decode b_Mo_stateOf 44 = .ok (.istore_n 2, 1) := by decide +kernel
theorem d_Mo_stateOf_45 : decode b_Mo_stateOf 45 = .ok (.aload_n 0, 1) := by decide +kernel
theorem d_Mo_stateOf_46 : decode b_Mo_stateOf 46 = .ok (.getfield 16, 3) := by decide +kernel
theorem d_Mo_stateOf_49 : decode b_Mo_stateOf 49 = .ok (.aload_n 0, 1) := by decide +kernel
theorem d_Mo_stateOf_50 : decode b_Mo_stateOf 50 = .ok (.getfield 50, 3) := by decide +kernel
theorem d_Mo_stateOf_53 : decode b_Mo_stateOf 53 = .ok (.iload_n 1, 1) := by decide +kernel
theorem d_Mo_stateOf_54 : decode b_Mo_stateOf 54 = .ok (.iaload, 1) := by decide +kernel
theorem d_Mo_stateOf_55 : decode b_Mo_stateOf 55 = .ok (.iaload, 1) := by decide +kernel
theorem d_Mo_stateOf_56 : decode b_Mo_stateOf 56 = .ok (.iconst 1, 1) := by decide +kernel
theorem d_Mo_stateOf_57 : decode b_Mo_stateOf 57 = .ok (.if_icmp .eq 27, 3) := by decide +kernel
theorem d_Mo_stateOf_60 : decode b_Mo_stateOf 60 = .ok (.aload_n 0, 1) := by decide +kernel
theorem d_Mo_stateOf_61 : decode b_Mo_stateOf 61 = .ok (.getfield 53, 3) := by decide +kernel
theorem d_Mo_stateOf_64 : decode b_Mo_stateOf 64 = .ok (.iload_n 1, 1) := by decide +kernel
theorem d_Mo_stateOf_65 : decode b_Mo_stateOf 65 = .ok (.iaload, 1) := by decide +kernel
theorem d_Mo_stateOf_66 : decode b_Mo_stateOf 66 = .ok (.ifCond .lt 22, 3) := by decide +kernel
theorem d_Mo_stateOf_69 : decode b_Mo_stateOf 69 = .ok (.aload_n 0, 1) := by decide +kernel
theorem d_Mo_stateOf_70 : decode b_Mo_stateOf 70 = .ok (.getfield 16, 3) := by decide +kernel
theorem d_Mo_stateOf_73 : decode b_Mo_stateOf 73 = .ok (.aload_n 0, 1) := by decide +kernel
theorem d_Mo_stateOf_74 : decode b_Mo_stateOf 74 = .ok (.getfield 53, 3) := by decide +kernel
theorem d_Mo_stateOf_77 : decode b_Mo_stateOf 77 = .ok (.iload_n 1, 1) := by decide +kernel
theorem d_Mo_stateOf_78 : decode b_Mo_stateOf 78 = .ok (.iaload, 1) := by decide +kernel
theorem d_Mo_stateOf_79 : decode b_Mo_stateOf 79 = .ok (.iaload, 1) := by decide +kernel
theorem d_Mo_stateOf_80 : decode b_Mo_stateOf 80 = .ok (.iconst 1, 1) := by decide +kernel
theorem d_Mo_stateOf_81 : decode b_Mo_stateOf 81 = .ok (.if_icmp .ne 7, 3) := by decide +kernel
theorem d_Mo_stateOf_84 : decode b_Mo_stateOf 84 = .ok (.iconst 1, 1) := by decide +kernel
theorem d_Mo_stateOf_85 : decode b_Mo_stateOf 85 = .ok (.goto 4, 3) := by decide +kernel
theorem d_Mo_stateOf_88 : decode b_Mo_stateOf 88 = .ok (.iconst 0, 1) := by decide +kernel
theorem d_Mo_stateOf_89 : decode b_Mo_stateOf 89 = .ok (.istore_n 3, 1) := by decide +kernel
theorem d_Mo_stateOf_90 : decode b_Mo_stateOf 90 = .ok (.iload_n 2, 1) := by decide +kernel
theorem d_Mo_stateOf_91 : decode b_Mo_stateOf 91 = .ok (.ifCond .eq 7, 3) := by decide +kernel
theorem d_Mo_stateOf_94 : decode b_Mo_stateOf 94 = .ok (.iconst 3, 1) := by decide +kernel
theorem d_Mo_stateOf_95 : decode b_Mo_stateOf 95 = .ok (.goto 12, 3) := by decide +kernel
theorem d_Mo_stateOf_98 : decode b_Mo_stateOf 98 = .ok (.iload_n 3, 1) := by decide +kernel
theorem d_Mo_stateOf_99 : decode b_Mo_stateOf 99 = .ok (.ifCond .eq 7, 3) := by decide +kernel
theorem d_Mo_stateOf_102 : decode b_Mo_stateOf 102 = .ok (.iconst 1, 1) := by decide +kernel
theorem d_Mo_stateOf_103 : decode b_Mo_stateOf 103 = .ok (.goto 4, 3) := by decide +kernel
theorem d_Mo_stateOf_106 : decode b_Mo_stateOf 106 = .ok (.iconst 2, 1) := by decide +kernel
theorem d_Mo_stateOf_107 : decode b_Mo_stateOf 107 = .ok (.ireturn, 1) := by decide +kernel
theorem d_Mo_compare_0 : decode b_Mo_compare 0 = .ok (.iconst 0, 1) := by decide +kernel
theorem d_Mo_compare_1 : decode b_Mo_compare 1 = .ok (.istore_n 1, 1) := by decide +kernel
theorem d_Mo_compare_2 : decode b_Mo_compare 2 = .ok (.iload_n 1, 1) := by decide +kernel
theorem d_Mo_compare_3 : decode b_Mo_compare 3 = .ok (.iconst 4, 1) := by decide +kernel
theorem d_Mo_compare_4 : decode b_Mo_compare 4 = .ok (.if_icmp .ge 80, 3) := by decide +kernel
theorem d_Mo_compare_7 : decode b_Mo_compare 7 = .ok (.aload_n 0, 1) := by decide +kernel
theorem d_Mo_compare_8 : decode b_Mo_compare 8 = .ok (.getfield 46, 3) := by decide +kernel
theorem d_Mo_compare_11 : decode b_Mo_compare 11 = .ok (.iload_n 1, 1) := by decide +kernel
theorem d_Mo_compare_12 : decode b_Mo_compare 12 = .ok (.baload, 1) := by decide +kernel
theorem d_Mo_compare_13 : decode b_Mo_compare 13 = .ok (.ifCond .eq 65, 3) := by decide +kernel
theorem d_Mo_compare_16 : decode b_Mo_compare 16 = .ok (.aload_n 0, 1) := by decide +kernel
theorem d_Mo_compare_17 : decode b_Mo_compare 17 = .ok (.iload_n 1, 1) := by decide +kernel
theorem d_Mo_compare_18 : decode b_Mo_compare 18 = .ok (.invokevirtual 87, 3) := by decide +kernel
theorem d_Mo_compare_21 : decode b_Mo_compare 21 = .ok (.aload_n 0, 1) := by decide +kernel
theorem d_Mo_compare_22 : decode b_Mo_compare 22 = .ok (.getfield 56, 3) := by decide +kernel
theorem d_Mo_compare_25 : decode b_Mo_compare 25 = .ok (.iload_n 1, 1) := by decide +kernel
theorem d_Mo_compare_26 : decode b_Mo_compare 26 = .ok (.iaload, 1) := by decide +kernel
theorem d_Mo_compare_27 : decode b_Mo_compare 27 = .ok (.if_icmp .eq 51, 3) := by decide +kernel
theorem d_Mo_compare_30 : decode b_Mo_compare 30 = .ok (.aload_n 0, 1) := by decide +kernel
theorem d_Mo_compare_31 : decode b_Mo_compare 31 = .ok (.getfield 56, 3) := by decide +kernel
theorem d_Mo_compare_34 : decode b_Mo_compare 34 = .ok (.iload_n 1, 1) := by decide +kernel
theorem d_Mo_compare_35 : decode b_Mo_compare 35 = .ok (.aload_n 0, 1) := by decide +kernel
theorem d_Mo_compare_36 : decode b_Mo_compare 36 = .ok (.iload_n 1, 1) := by decide +kernel
theorem d_Mo_compare_37 : decode b_Mo_compare 37 = .ok (.invokevirtual 87, 3) := by decide +kernel
theorem d_Mo_compare_40 : decode b_Mo_compare 40 = .ok (.iastore, 1) := by decide +kernel
theorem d_Mo_compare_41 : decode b_Mo_compare 41 = .ok (.aload_n 0, 1) := by decide +kernel
theorem d_Mo_compare_42 : decode b_Mo_compare 42 = .ok (.getfield 59, 3) := by decide +kernel
theorem d_Mo_compare_45 : decode b_Mo_compare 45 = .ok (.iload_n 1, 1) := by decide +kernel
theorem d_Mo_compare_46 : decode b_Mo_compare 46 = .ok (.iconst 1, 1) := by decide +kernel
theorem d_Mo_compare_47 : decode b_Mo_compare 47 = .ok (.bastore, 1) := by decide +kernel
theorem d_Mo_compare_48 : decode b_Mo_compare 48 = .ok (.aload_n 0, 1) := by decide +kernel
theorem d_Mo_compare_49 : decode b_Mo_compare 49 = .ok (.aload_n 0, 1) := by decide +kernel
theorem d_Mo_compare_50 : decode b_Mo_compare 50 = .ok (.getfield 56, 3) := by decide +kernel
theorem d_Mo_compare_53 : decode b_Mo_compare 53 = .ok (.iload_n 1, 1) := by decide +kernel
theorem d_Mo_compare_54 : decode b_Mo_compare 54 = .ok (.iaload, 1) := by decide +kernel
theorem d_Mo_compare_55 : decode b_Mo_compare 55 = .ok (.iconst 1, 1) := by decide +kernel
theorem d_Mo_compare_56 : decode b_Mo_compare 56 = .ok (.if_icmp .le 15, 3) := by decide +kernel
theorem d_Mo_compare_59 : decode b_Mo_compare 59 = .ok (.aload_n 0, 1) := by decide +kernel
theorem d_Mo_compare_60 : decode b_Mo_compare 60 = .ok (.getfield 68, 3) := by decide +kernel
theorem d_Mo_compare_63 : decode b_Mo_compare 63 = .ok (.iload_n 1, 1) := by decide +kernel
theorem d_Mo_compare_64 : decode b_Mo_compare 64 = .ok (.if_icmp .ne 7, 3) := by decide +kernel
theorem d_Mo_compare_67 : decode b_Mo_compare 67 = .ok (.iconst (-1), 1) := by decide +kernel
theorem d_Mo_compare_68 : decode b_Mo_compare 68 = .ok (.goto 7, 3) := by decide +kernel
theorem d_Mo_compare_71 : decode b_Mo_compare 71 = .ok (.aload_n 0, 1) := by decide +kernel
theorem d_Mo_compare_72 : decode b_Mo_compare 72 = .ok (.getfield 68, 3) := by decide +kernel
theorem d_Mo_compare_75 : decode b_Mo_compare 75 = .ok (.putfield 68, 3) := by decide +kernel
theorem d_Mo_compare_78 : decode b_Mo_compare 78 = .ok (.iinc 1 1, 3) := by decide +kernel
theorem d_Mo_compare_81 : decode b_Mo_compare 81 = .ok (.goto (-79), 3) := by decide +kernel
theorem d_Mo_compare_84 : decode b_Mo_compare 84 = .ok (.return_, 1) := by decide +kernel
theorem d_Mo_has_0 : decode b_Mo_has 0 = .ok (.iload_n 0, 1) := by decide +kernel
theorem d_Mo_has_1 : decode b_Mo_has 1 = .ok (.iload_n 1, 1) := by decide +kernel
theorem d_Mo_has_2 : decode b_Mo_has 2 = .ok (.ishr, 1) := by decide +kernel
theorem d_Mo_has_3 : decode b_Mo_has 3 = .ok (.iconst 1, 1) := by decide +kernel
theorem d_Mo_has_4 : decode b_Mo_has 4 = .ok (.iand, 1) := by decide +kernel
theorem d_Mo_has_5 : decode b_Mo_has 5 = .ok (.iconst 1, 1) := by decide +kernel
theorem d_Mo_has_6 : decode b_Mo_has 6 = .ok (.if_icmp .ne 7, 3) := by decide +kernel
theorem d_Mo_has_9 : decode b_Mo_has 9 = .ok (.iconst 1, 1) := by decide +kernel
theorem d_Mo_has_10 : decode b_Mo_has 10 = .ok (.goto 4, 3) := by decide +kernel
theorem d_Mo_has_13 : decode b_Mo_has 13 = .ok (.iconst 0, 1) := by decide +kernel
theorem d_Mo_has_14 : decode b_Mo_has 14 = .ok (.ireturn, 1) := by decide +kernel
theorem d_Mo_act_0 : decode b_Mo_act 0 = .ok (.aload_n 0, 1) := by decide +kernel
theorem d_Mo_act_1 : decode b_Mo_act 1 = .ok (.getfield 34, 3) := by decide +kernel
theorem d_Mo_act_4 : decode b_Mo_act 4 = .ok (.iload_n 1, 1) := by decide +kernel
theorem d_Mo_act_5 : decode b_Mo_act 5 = .ok (.aload_n 0, 1) := by decide +kernel
theorem d_Mo_act_6 : decode b_Mo_act 6 = .ok (.getfield 34, 3) := by decide +kernel
theorem d_Mo_act_9 : decode b_Mo_act 9 = .ok (.iload_n 1, 1) := by decide +kernel
theorem d_Mo_act_10 : decode b_Mo_act 10 = .ok (.iaload, 1) := by decide +kernel
theorem d_Mo_act_11 : decode b_Mo_act 11 = .ok (.iconst 1, 1) := by decide +kernel
theorem d_Mo_act_12 : decode b_Mo_act 12 = .ok (.iload_n 2, 1) := by decide +kernel
theorem d_Mo_act_13 : decode b_Mo_act 13 = .ok (.ishl, 1) := by decide +kernel
theorem d_Mo_act_14 : decode b_Mo_act 14 = .ok (.iconst (-1), 1) := by decide +kernel
theorem d_Mo_act_15 : decode b_Mo_act 15 = .ok (.ixor, 1) := by decide +kernel
theorem d_Mo_act_16 : decode b_Mo_act 16 = .ok (.iand, 1) := by decide +kernel
theorem d_Mo_act_17 : decode b_Mo_act 17 = .ok (.iastore, 1) := by decide +kernel
theorem d_Mo_act_18 : decode b_Mo_act 18 = .ok (.iload_n 2, 1) := by decide +kernel
theorem d_Mo_act_19 : decode b_Mo_act 19 = .ok (.iconst 5, 1) := by decide +kernel
theorem d_Mo_act_20 : decode b_Mo_act 20 = .ok (.if_icmp .ge 24, 3) := by decide +kernel
theorem d_Mo_act_23 : decode b_Mo_act 23 = .ok (.aload_n 0, 1) := by decide +kernel
theorem d_Mo_act_24 : decode b_Mo_act 24 = .ok (.getfield 16, 3) := by decide +kernel
theorem d_Mo_act_27 : decode b_Mo_act 27 = .ok (.iload_n 1, 1) := by decide +kernel
theorem d_Mo_act_28 : decode b_Mo_act 28 = .ok (.iconst 3, 1) := by decide +kernel
theorem d_Mo_act_29 : decode b_Mo_act 29 = .ok (.iastore, 1) := by decide +kernel
theorem d_Mo_act_30 : decode b_Mo_act 30 = .ok (.aload_n 0, 1) := by decide +kernel
theorem d_Mo_act_31 : decode b_Mo_act 31 = .ok (.getfield 31, 3) := by decide +kernel
theorem d_Mo_act_34 : decode b_Mo_act 34 = .ok (.iload_n 1, 1) := by decide +kernel
theorem d_Mo_act_35 : decode b_Mo_act 35 = .ok (.sipush 128, 3) := by decide +kernel
theorem d_Mo_act_38 : decode b_Mo_act 38 = .ok (.iload_n 2, 1) := by decide +kernel
theorem d_Mo_act_39 : decode b_Mo_act 39 = .ok (.iadd, 1) := by decide +kernel
theorem d_Mo_act_40 : decode b_Mo_act 40 = .ok (.iastore, 1) := by decide +kernel
theorem d_Mo_act_41 : decode b_Mo_act 41 = .ok (.goto 10, 3) := by decide +kernel
theorem d_Mo_act_44 : decode b_Mo_act 44 = .ok (.aload_n 0, 1) := by decide +kernel
theorem d_Mo_act_45 : decode b_Mo_act 45 = .ok (.getfield 16, 3) := by decide +kernel
theorem d_Mo_act_48 : decode b_Mo_act 48 = .ok (.iload_n 1, 1) := by decide +kernel
theorem d_Mo_act_49 : decode b_Mo_act 49 = .ok (.iconst 2, 1) := by decide +kernel
theorem d_Mo_act_50 : decode b_Mo_act 50 = .ok (.iastore, 1) := by decide +kernel
theorem d_Mo_act_51 : decode b_Mo_act 51 = .ok (.return_, 1) := by decide +kernel
theorem d_Mo_actPending_0 : decode b_Mo_actPending 0 = .ok (.iconst 0, 1) := by decide +kernel
theorem d_Mo_actPending_1 : decode b_Mo_actPending 1 = .ok (.istore_n 2, 1) := by decide +kernel
theorem d_Mo_actPending_2 : decode b_Mo_actPending 2 = .ok (.iload_n 2, 1) := by decide +kernel
theorem d_Mo_actPending_3 : decode b_Mo_actPending 3 = .ok (.bipush 10, 2) := by decide +kernel
theorem d_Mo_actPending_5 : decode b_Mo_actPending 5 = .ok (.if_icmp .ge 51, 3) := by decide +kernel
theorem d_Mo_actPending_8 : decode b_Mo_actPending 8 = .ok (.aload_n 0, 1) := by decide +kernel
theorem d_Mo_actPending_9 : decode b_Mo_actPending 9 = .ok (.getfield 16, 3) := by decide +kernel
theorem d_Mo_actPending_12 : decode b_Mo_actPending 12 = .ok (.iload_n 1, 1) := by decide +kernel
theorem d_Mo_actPending_13 : decode b_Mo_actPending 13 = .ok (.iaload, 1) := by decide +kernel
theorem d_Mo_actPending_14 : decode b_Mo_actPending 14 = .ok (.iconst 1, 1) := by decide +kernel
theorem d_Mo_actPending_15 : decode b_Mo_actPending 15 = .ok (.if_icmp .ne 35, 3) := by decide +kernel
theorem d_Mo_actPending_18 : decode b_Mo_actPending 18 = .ok (.aload_n 0, 1) := by decide +kernel
theorem d_Mo_actPending_19 : decode b_Mo_actPending 19 = .ok (.getfield 34, 3) := by decide +kernel
theorem d_Mo_actPending_22 : decode b_Mo_actPending 22 = .ok (.iload_n 1, 1) := by decide +kernel
theorem d_Mo_actPending_23 : decode b_Mo_actPending 23 = .ok (.iaload, 1) := by decide +kernel
theorem d_Mo_actPending_24 : decode b_Mo_actPending 24 = .ok (.iload_n 2, 1) := by decide +kernel
theorem d_Mo_actPending_25 : decode b_Mo_actPending 25 = .ok (.invokestatic 91, 3) := by decide +kernel
theorem d_Mo_actPending_28 : decode b_Mo_actPending 28 = .ok (.ifCond .eq 22, 3) := by decide +kernel
theorem d_Mo_actPending_31 : decode b_Mo_actPending 31 = .ok (.aload_n 0, 1) := by decide +kernel
theorem d_Mo_actPending_32 : decode b_Mo_actPending 32 = .ok (.getfield 37, 3) := by decide +kernel
theorem d_Mo_actPending_35 : decode b_Mo_actPending 35 = .ok (.iload_n 1, 1) := by decide +kernel
theorem d_Mo_actPending_36 : decode b_Mo_actPending 36 = .ok (.iaload, 1) := by decide +kernel
theorem d_Mo_actPending_37 : decode b_Mo_actPending 37 = .ok (.iload_n 2, 1) := by decide +kernel
theorem d_Mo_actPending_38 : decode b_Mo_actPending 38 = .ok (.invokestatic 91, 3) := by decide +kernel
theorem d_Mo_actPending_41 : decode b_Mo_actPending 41 = .ok (.ifCond .ne 9, 3) := by decide +kernel
theorem d_Mo_actPending_44 : decode b_Mo_actPending 44 = .ok (.aload_n 0, 1) := by decide +kernel
theorem d_Mo_actPending_45 : decode b_Mo_actPending 45 = .ok (.iload_n 1, 1) := by decide +kernel
theorem d_Mo_actPending_46 : decode b_Mo_actPending 46 = .ok (.iload_n 2, 1) := by decide +kernel
theorem d_Mo_actPending_47 : decode b_Mo_actPending 47 = .ok (.invokevirtual 95, 3) := by decide +kernel
theorem d_Mo_actPending_50 : decode b_Mo_actPending 50 = .ok (.iinc 2 1, 3) := by decide +kernel
theorem d_Mo_actPending_53 : decode b_Mo_actPending 53 = .ok (.goto (-51), 3) := by decide +kernel
theorem d_Mo_actPending_56 : decode b_Mo_actPending 56 = .ok (.return_, 1) := by decide +kernel
theorem d_Mo_sendTo_0 : decode b_Mo_sendTo 0 = .ok (.iload_n 1, 1) := by decide +kernel
theorem d_Mo_sendTo_1 : decode b_Mo_sendTo 1 = .ok (.ifCond .lt 19, 3) := by decide +kernel
theorem d_Mo_sendTo_4 : decode b_Mo_sendTo 4 = .ok (.aload_n 0, 1) := by decide +kernel
theorem d_Mo_sendTo_5 : decode b_Mo_sendTo 5 = .ok (.getfield 16, 3) := by decide +kernel
theorem d_Mo_sendTo_8 : decode b_Mo_sendTo 8 = .ok (.iload_n 1, 1) := by decide +kernel
theorem d_Mo_sendTo_9 : decode b_Mo_sendTo 9 = .ok (.iaload, 1) := by decide +kernel
theorem d_Mo_sendTo_10 : decode b_Mo_sendTo 10 = .ok (.iconst 3, 1) := by decide +kernel
theorem d_Mo_sendTo_11 : decode b_Mo_sendTo 11 = .ok (.if_icmp .eq 9, 3) := by decide +kernel
theorem d_Mo_sendTo_14 : decode b_Mo_sendTo 14 = .ok (.iload_n 2, 1) := by decide +kernel
theorem d_Mo_sendTo_15 : decode b_Mo_sendTo 15 = .ok (.bipush 9, 2) := by decide +kernel
theorem d_Mo_sendTo_17 : decode b_Mo_sendTo 17 = .ok (.if_icmp .le 4, 3) := by decide +kernel
theorem d_Mo_sendTo_20 : decode b_Mo_sendTo 20 = .ok (.return_, 1) := by decide +kernel
theorem d_Mo_sendTo_21 : decode b_Mo_sendTo 21 = .ok (.iload_n 2, 1) := by decide +kernel
theorem d_Mo_sendTo_22 : decode b_Mo_sendTo 22 = .ok (.iconst 5, 1) := by decide +kernel
theorem d_Mo_sendTo_23 : decode b_Mo_sendTo 23 = .ok (.if_icmp .ne 43, 3) := by decide +kernel
theorem d_Mo_sendTo_26 : decode b_Mo_sendTo 26 = .ok (.aload_n 0, 1) := by decide +kernel
theorem d_Mo_sendTo_27 : decode b_Mo_sendTo 27 = .ok (.getfield 34, 3) := by decide +kernel
theorem d_Mo_sendTo_30 : decode b_Mo_sendTo 30 = .ok (.iload_n 1, 1) := by decide +kernel
theorem d_Mo_sendTo_31 : decode b_Mo_sendTo 31 = .ok (.aload_n 0, 1) := by decide +kernel
theorem d_Mo_sendTo_32 : decode b_Mo_sendTo 32 = .ok (.getfield 34, 3) := by decide +kernel
theorem d_Mo_sendTo_35 : decode b_Mo_sendTo 35 = .ok (.iload_n 1, 1) := by decide +kernel
theorem d_Mo_sendTo_36 : decode b_Mo_sendTo 36 = .ok (.iaload, 1) := by decide +kernel
theorem d_Mo_sendTo_37 : decode b_Mo_sendTo 37 = .ok (.bipush 63, 2) := by decide +kernel
theorem d_Mo_sendTo_39 : decode b_Mo_sendTo 39 = .ok (.iand, 1) := by decide +kernel
theorem d_Mo_sendTo_40 : decode b_Mo_sendTo 40 = .ok (.iastore, 1) := by decide +kernel
theorem d_Mo_sendTo_41 : decode b_Mo_sendTo 41 = .ok (.aload_n 0, 1) := by decide +kernel
theorem d_Mo_sendTo_42 : decode b_Mo_sendTo 42 = .ok (.getfield 16, 3) := by decide +kernel
theorem d_Mo_sendTo_45 : decode b_Mo_sendTo 45 = .ok (.iload_n 1, 1) := by decide +kernel
theorem d_Mo_sendTo_46 : decode b_Mo_sendTo 46 = .ok (.iaload, 1) := by decide +kernel
theorem d_Mo_sendTo_47 : decode b_Mo_sendTo 47 = .ok (.iconst 2, 1) := by decide +kernel
theorem d_Mo_sendTo_48 : decode b_Mo_sendTo 48 = .ok (.if_icmp .ne 99, 3) := by decide +kernel
theorem d_Mo_sendTo_51 : decode b_Mo_sendTo 51 = .ok (.aload_n 0, 1) := by decide +kernel
theorem d_Mo_sendTo_52 : decode b_Mo_sendTo 52 = .ok (.getfield 16, 3) := by decide +kernel
theorem d_Mo_sendTo_55 : decode b_Mo_sendTo 55 = .ok (.iload_n 1, 1) := by decide +kernel
theorem d_Mo_sendTo_56 : decode b_Mo_sendTo 56 = .ok (.iconst 1, 1) := by decide +kernel
theorem d_Mo_sendTo_57 : decode b_Mo_sendTo 57 = .ok (.iastore, 1) := by decide +kernel
theorem d_Mo_sendTo_58 : decode b_Mo_sendTo 58 = .ok (.aload_n 0, 1) := by decide +kernel
theorem d_Mo_sendTo_59 : decode b_Mo_sendTo 59 = .ok (.iload_n 1, 1) := by decide +kernel
theorem d_Mo_sendTo_60 : decode b_Mo_sendTo 60 = .ok (.invokevirtual 99, 3) := by decide +kernel
theorem d_Mo_sendTo_63 : decode b_Mo_sendTo 63 = .ok (.goto 84, 3) := by decide +kernel
theorem d_Mo_sendTo_66 : decode b_Mo_sendTo 66 = .ok (.iload_n 2, 1) := by decide +kernel
theorem d_Mo_sendTo_67 : decode b_Mo_sendTo 67 = .ok (.iconst 3, 1) := by decide +kernel
theorem d_Mo_sendTo_68 : decode b_Mo_sendTo 68 = .ok (.if_icmp .eq 9, 3) := by decide +kernel
theorem d_Mo_sendTo_71 : decode b_Mo_sendTo 71 = .ok (.iload_n 2, 1) := by decide +kernel
theorem d_Mo_sendTo_72 : decode b_Mo_sendTo 72 = .ok (.bipush 6, 2) := by decide +kernel
theorem d_Mo_sendTo_74 : decode b_Mo_sendTo 74 = .ok (.if_icmp .ne 12, 3) := by decide +kernel
theorem d_Mo_sendTo_77 : decode b_Mo_sendTo 77 = .ok (.aload_n 0, 1) := by decide +kernel
theorem d_Mo_sendTo_78 : decode b_Mo_sendTo 78 = .ok (.iload_n 1, 1) := by decide +kernel
theorem d_Mo_sendTo_79 : decode b_Mo_sendTo 79 = .ok (.iload_n 2, 1) := by decide +kernel
theorem d_Mo_sendTo_80 : decode b_Mo_sendTo 80 = .ok (.invokevirtual 95, 3) := by decide +kernel
theorem d_Mo_sendTo_83 : decode b_Mo_sendTo 83 = .ok (.goto 64, 3) := by decide +kernel
theorem d_Mo_sendTo_86 : decode b_Mo_sendTo 86 = .ok (.aload_n 0, 1) := by decide +kernel
theorem d_Mo_sendTo_87 : decode b_Mo_sendTo 87 = .ok (.getfield 40, 3) := by decide +kernel
theorem d_Mo_sendTo_90 : decode b_Mo_sendTo 90 = .ok (.iload_n 1, 1) := by decide +kernel
theorem d_Mo_sendTo_91 : decode b_Mo_sendTo 91 = .ok (.iaload, 1) := by decide +kernel
theorem d_Mo_sendTo_92 : decode b_Mo_sendTo 92 = .ok (.iload_n 2, 1) := by decide +kernel
theorem d_Mo_sendTo_93 : decode b_Mo_sendTo 93 = .ok (.invokestatic 91, 3) := by decide +kernel
theorem d_Mo_sendTo_96 : decode b_Mo_sendTo 96 = .ok (.ifCond .ne 51, 3) := by decide +kernel
theorem d_Mo_sendTo_99 : decode b_Mo_sendTo 99 = .ok (.aload_n 0, 1) := by decide +kernel
theorem d_Mo_sendTo_100 : decode b_Mo_sendTo 100 = .ok (.getfield 37, 3) := by decide +kernel
theorem d_Mo_sendTo_103 : decode b_Mo_sendTo 103 = .ok (.iload_n 1, 1) := by decide +kernel
theorem d_Mo_sendTo_104 : decode b_Mo_sendTo 104 = .ok (.iaload, 1) := by decide +kernel
theorem d_Mo_sendTo_105 : decode b_Mo_sendTo 105 = .ok (.iload_n 2, 1) := by decide +kernel
theorem d_Mo_sendTo_106 : decode b_Mo_sendTo 106 = .ok (.invokestatic 91, 3) := by decide +kernel
theorem d_Mo_sendTo_109 : decode b_Mo_sendTo 109 = .ok (.ifCond .ne 13, 3) := by decide +kernel
theorem d_Mo_sendTo_112 : decode b_Mo_sendTo 112 = .ok (.aload_n 0, 1) := by decide +kernel
theorem d_Mo_sendTo_113 : decode b_Mo_sendTo 113 = .ok (.getfield 16, 3) := by decide +kernel
theorem d_Mo_sendTo_116 : decode b_Mo_sendTo 116 = .ok (.iload_n 1, 1) := by decide +kernel
theorem d_Mo_sendTo_117 : decode b_Mo_sendTo 117 = .ok (.iaload, 1) := by decide +kernel
theorem d_Mo_sendTo_118 : decode b_Mo_sendTo 118 = .ok (.iconst 2, 1) := by decide +kernel
theorem d_Mo_sendTo_119 : decode b_Mo_sendTo 119 = .ok (.if_icmp .ne 22, 3) := by decide +kernel
theorem d_Mo_sendTo_122 : decode b_Mo_sendTo 122 = .ok (.aload_n 0, 1) := by decide +kernel
theorem d_Mo_sendTo_123 : decode b_Mo_sendTo 123 = .ok (.getfield 34, 3) := by decide +kernel
theorem d_Mo_sendTo_126 : decode b_Mo_sendTo 126 = .ok (.iload_n 1, 1) := by decide +kernel
theorem d_Mo_sendTo_127 : decode b_Mo_sendTo 127 = .ok (.aload_n 0, 1) := by decide +kernel
theorem d_Mo_sendTo_128 : decode b_Mo_sendTo 128 = .ok (.getfield 34, 3) := by decide +kernel
theorem d_Mo_sendTo_131 : decode b_Mo_sendTo 131 = .ok (.iload_n 1, 1) := by decide +kernel
theorem d_Mo_sendTo_132 : decode b_Mo_sendTo 132 = .ok (.iaload, 1) := by decide +kernel
theorem d_Mo_sendTo_133 : decode b_Mo_sendTo 133 = .ok (.iconst 1, 1) := by decide +kernel
theorem d_Mo_sendTo_134 : decode b_Mo_sendTo 134 = .ok (.iload_n 2, 1) := by decide +kernel
theorem d_Mo_sendTo_135 : decode b_Mo_sendTo 135 = .ok (.ishl, 1) := by decide +kernel
theorem d_Mo_sendTo_136 : decode b_Mo_sendTo 136 = .ok (.ior, 1) := by decide +kernel
theorem d_Mo_sendTo_137 : decode b_Mo_sendTo 137 = .ok (.iastore, 1) := by decide +kernel
theorem d_Mo_sendTo_138 : decode b_Mo_sendTo 138 = .ok (.goto 9, 3) := by decide +kernel
theorem d_Mo_sendTo_141 : decode b_Mo_sendTo 141 = .ok (.aload_n 0, 1) := by decide +kernel
theorem d_Mo_sendTo_142 : decode b_Mo_sendTo 142 = .ok (.iload_n 1, 1) := by decide +kernel
theorem d_Mo_sendTo_143 : decode b_Mo_sendTo 143 = .ok (.iload_n 2, 1) := by decide +kernel
theorem d_Mo_sendTo_144 : decode b_Mo_sendTo 144 = .ok (.invokevirtual 95, 3) := by decide +kernel
theorem d_Mo_sendTo_147 : decode b_Mo_sendTo 147 = .ok (.return_, 1) := by decide +kernel
theorem d_Mo_sendJob_0 : decode b_Mo_sendJob 0 = .ok (.aload_n 0, 1) := by decide +kernel
theorem d_Mo_sendJob_1 : decode b_Mo_sendJob 1 = .ok (.aload_n 0, 1) := by decide +kernel
theorem d_Mo_sendJob_2 : decode b_Mo_sendJob 2 = .ok (.getfield 50, 3) := by decide +kernel
theorem d_Mo_sendJob_5 : decode b_Mo_sendJob 5 = .ok (.iload_n 1, 1) := by decide +kernel
theorem d_Mo_sendJob_6 : decode b_Mo_sendJob 6 = .ok (.iaload, 1) := by decide +kernel
theorem d_Mo_sendJob_7 : decode b_Mo_sendJob 7 = .ok (.iload_n 2, 1) := by decide +kernel
theorem d_Mo_sendJob_8 : decode b_Mo_sendJob 8 = .ok (.invokevirtual 103, 3) := by decide +kernel
theorem d_Mo_sendJob_11 : decode b_Mo_sendJob 11 = .ok (.aload_n 0, 1) := by decide +kernel
theorem d_Mo_sendJob_12 : decode b_Mo_sendJob 12 = .ok (.aload_n 0, 1) := by decide +kernel
theorem d_Mo_sendJob_13 : decode b_Mo_sendJob 13 = .ok (.getfield 53, 3) := by decide +kernel
theorem d_Mo_sendJob_16 : decode b_Mo_sendJob 16 = .ok (.iload_n 1, 1) := by decide +kernel
theorem d_Mo_sendJob_17 : decode b_Mo_sendJob 17 = .ok (.iaload, 1) := by decide +kernel
theorem d_Mo_sendJob_18 : decode b_Mo_sendJob 18 = .ok (.iload_n 2, 1) := by decide +kernel
theorem d_Mo_sendJob_19 : decode b_Mo_sendJob 19 = .ok (.invokevirtual 103, 3) := by decide +kernel
theorem d_Mo_sendJob_22 : decode b_Mo_sendJob 22 = .ok (.return_, 1) := by decide +kernel
theorem d_Mo_flagged_0 : decode b_Mo_flagged 0 = .ok (.aload_n 0, 1) := by decide +kernel
theorem d_Mo_flagged_1 : decode b_Mo_flagged 1 = .ok (.getfield 72, 3) := by decide +kernel
theorem d_Mo_flagged_4 : decode b_Mo_flagged 4 = .ok (.iload_n 1, 1) := by decide +kernel
theorem d_Mo_flagged_5 : decode b_Mo_flagged 5 = .ok (.iand, 1) := by decide +kernel
theorem d_Mo_flagged_6 : decode b_Mo_flagged 6 = .ok (.ifCond .eq 7, 3) := by decide +kernel
theorem d_Mo_flagged_9 : decode b_Mo_flagged 9 = .ok (.iconst 1, 1) := by decide +kernel
theorem d_Mo_flagged_10 : decode b_Mo_flagged 10 = .ok (.goto 4, 3) := by decide +kernel
theorem d_Mo_flagged_13 : decode b_Mo_flagged 13 = .ok (.iconst 0, 1) := by decide +kernel
theorem d_Mo_flagged_14 : decode b_Mo_flagged 14 = .ok (.ireturn, 1) := by decide +kernel
theorem d_Mo_put_0 : decode b_Mo_put 0 = .ok (.aload_n 0, 1) := by decide +kernel
theorem d_Mo_put_1 : decode b_Mo_put 1 = .ok (.getfield 81, 3) := by decide +kernel
theorem d_Mo_put_4 : decode b_Mo_put 4 = .ok (.aload_n 0, 1) := by decide +kernel
theorem d_Mo_put_5 : decode b_Mo_put 5 = .ok (.getfield 106, 3) := by decide +kernel
theorem d_Mo_put_8 : decode b_Mo_put 8 = .ok (.bipush 100, 2) := by decide +kernel
theorem d_Mo_put_10 : decode b_Mo_put 10 = .ok (.irem, 1) := by decide +kernel
theorem d_Mo_put_11 : decode b_Mo_put 11 = .ok (.iload_n 1, 1) := by decide +kernel
theorem d_Mo_put_12 : decode b_Mo_put 12 = .ok (.iastore, 1) := by decide +kernel
theorem d_Mo_put_13 : decode b_Mo_put 13 = .ok (.aload_n 0, 1) := by decide +kernel
theorem d_Mo_put_14 : decode b_Mo_put 14 = .ok (.dup, 1) := by decide +kernel
theorem d_Mo_put_15 : decode b_Mo_put 15 = .ok (.getfield 106, 3) := by decide +kernel
theorem d_Mo_put_18 : decode b_Mo_put 18 = .ok (.iconst 1, 1) := by decide +kernel
theorem d_Mo_put_19 : decode b_Mo_put 19 = .ok (.iadd, 1) := by decide +kernel
theorem d_Mo_put_20 : decode b_Mo_put 20 = .ok (.putfield 106, 3) := by decide +kernel
theorem d_Mo_put_23 : decode b_Mo_put 23 = .ok (.return_, 1) := by decide +kernel
theorem d_Mo_show_0 : decode b_Mo_show 0 = .ok (.iload_n 1, 1) := by decide +kernel
theorem d_Mo_show_1 : decode b_Mo_show 1 = .ok (.bipush 10, 2) := by decide +kernel
theorem d_Mo_show_3 : decode b_Mo_show 3 = .ok (.if_icmp .ne 18, 3) := by decide +kernel
theorem d_Mo_show_6 : decode b_Mo_show 6 = .ok (.aload_n 0, 1) := by decide +kernel
theorem d_Mo_show_7 : decode b_Mo_show 7 = .ok (.bipush 32, 2) := by decide +kernel
theorem d_Mo_show_9 : decode b_Mo_show 9 = .ok (.invokevirtual 109, 3) := by decide +kernel
theorem d_Mo_show_12 : decode b_Mo_show 12 = .ok (.ifCond .eq 9, 3) := by decide +kernel
theorem d_Mo_show_15 : decode b_Mo_show 15 = .ok (.aload_n 0, 1) := by decide +kernel
theorem d_Mo_show_16 : decode b_Mo_show 16 = .ok (.bipush 13, 2) := by decide +kernel
theorem d_Mo_show_18 : decode b_Mo_show 18 = .ok (.invokevirtual 113, 3) := by decide +kernel
theorem d_Mo_show_21 : decode b_Mo_show 21 = .ok (.aload_n 0, 1) := by decide +kernel
theorem d_Mo_show_22 : decode b_Mo_show 22 = .ok (.iload_n 1, 1) := by decide +kernel
theorem d_Mo_show_23 : decode b_Mo_show 23 = .ok (.invokevirtual 113, 3) := by decide +kernel
theorem d_Mo_show_26 : decode b_Mo_show 26 = .ok (.return_, 1) := by decide +kernel
theorem d_Mo_echo_0 : decode b_Mo_echo 0 = .ok (.aload_n 0, 1) := by decide +kernel
theorem d_Mo_echo_1 : decode b_Mo_echo 1 = .ok (.iconst 2, 1) := by decide +kernel
theorem d_Mo_echo_2 : decode b_Mo_echo 2 = .ok (.invokevirtual 109, 3) := by decide +kernel
theorem d_Mo_echo_5 : decode b_Mo_echo 5 = .ok (.ifCond .ne 4, 3) := by decide +kernel
theorem d_Mo_echo_8 : decode b_Mo_echo 8 = .ok (.return_, 1) := by decide +kernel
theorem d_Mo_echo_9 : decode b_Mo_echo 9 = .ok (.iload_n 1, 1) := by decide +kernel
theorem d_Mo_echo_10 : decode b_Mo_echo 10 = .ok (.bipush 10, 2) := by decide +kernel
theorem d_Mo_echo_12 : decode b_Mo_echo 12 = .ok (.if_icmp .eq 9, 3) := by decide +kernel
theorem d_Mo_echo_15 : decode b_Mo_echo 15 = .ok (.iload_n 1, 1) := by decide +kernel
theorem d_Mo_echo_16 : decode b_Mo_echo 16 = .ok (.bipush 32, 2) := by decide +kernel
theorem d_Mo_echo_18 : decode b_Mo_echo 18 = .ok (.if_icmp .lt 9, 3) := by decide +kernel
theorem d_Mo_echo_21 : decode b_Mo_echo 21 = .ok (.iload_n 1, 1) := by decide +kernel
theorem d_Mo_echo_22 : decode b_Mo_echo 22 = .ok (.bipush 127, 2) := by decide +kernel
theorem d_Mo_echo_24 : decode b_Mo_echo 24 = .ok (.if_icmp .ne 31, 3) := by decide +kernel
theorem d_Mo_echo_27 : decode b_Mo_echo 27 = .ok (.aload_n 0, 1) := by decide +kernel
theorem d_Mo_echo_28 : decode b_Mo_echo 28 = .ok (.bipush 94, 2) := by decide +kernel
theorem d_Mo_echo_30 : decode b_Mo_echo 30 = .ok (.invokevirtual 116, 3) := by decide +kernel
theorem d_Mo_echo_33 : decode b_Mo_echo 33 = .ok (.aload_n 0, 1) := by decide +kernel
theorem d_Mo_echo_34 : decode b_Mo_echo 34 = .ok (.iload_n 1, 1) := by decide +kernel
theorem d_Mo_echo_35 : decode b_Mo_echo 35 = .ok (.bipush 127, 2) := by decide +kernel
theorem d_Mo_echo_37 : decode b_Mo_echo 37 = .ok (.if_icmp .ne 8, 3) := by decide +kernel
theorem d_Mo_echo_40 : decode b_Mo_echo 40 = .ok (.bipush 63, 2) := by decide +kernel
theorem d_Mo_echo_42 : decode b_Mo_echo 42 = .ok (.goto 7, 3) := by decide +kernel
theorem d_Mo_echo_45 : decode b_Mo_echo 45 = .ok (.bipush 64, 2) := by decide +kernel
theorem d_Mo_echo_47 : decode b_Mo_echo 47 = .ok (.iload_n 1, 1) := by decide +kernel
theorem d_Mo_echo_48 : decode b_Mo_echo 48 = .ok (.iadd, 1) := by decide +kernel
theorem d_Mo_echo_49 : decode b_Mo_echo 49 = .ok (.invokevirtual 116, 3) := by decide +kernel
theorem d_Mo_echo_52 : decode b_Mo_echo 52 = .ok (.goto 8, 3) := by decide +kernel
theorem d_Mo_echo_55 : decode b_Mo_echo 55 = .ok (.aload_n 0, 1) := by decide +kernel
theorem d_Mo_echo_56 : decode b_Mo_echo 56 = .ok (.iload_n 1, 1) := by decide +kernel
theorem d_Mo_echo_57 : decode b_Mo_echo 57 = .ok (.invokevirtual 116, 3) := by decide +kernel
theorem d_Mo_echo_60 : decode b_Mo_echo 60 = .ok (.return_, 1) := by decide +kernel
theorem d_Mo_rubOut_0 : decode b_Mo_rubOut 0 = .ok (.aload_n 0, 1) := by decide +kernel
theorem d_Mo_rubOut_1 : decode b_Mo_rubOut 1 = .ok (.dup, 1) := by decide +kernel
theorem d_Mo_rubOut_2 : decode b_Mo_rubOut 2 = .ok (.getfield 119, 3) := by decide +kernel
theorem d_Mo_rubOut_5 : decode b_Mo_rubOut 5 = .ok (.iconst 1, 1) := by decide +kernel
theorem d_Mo_rubOut_6 : decode b_Mo_rubOut 6 = .ok (.isub, 1) := by decide +kernel
theorem d_Mo_rubOut_7 : decode b_Mo_rubOut 7 = .ok (.putfield 119, 3) := by decide +kernel
theorem d_Mo_rubOut_10 : decode b_Mo_rubOut 10 = .ok (.aload_n 0, 1) := by decide +kernel
theorem d_Mo_rubOut_11 : decode b_Mo_rubOut 11 = .ok (.getfield 75, 3) := by decide +kernel
theorem d_Mo_rubOut_14 : decode b_Mo_rubOut 14 = .ok (.aload_n 0, 1) := by decide +kernel
theorem d_Mo_rubOut_15 : decode b_Mo_rubOut 15 = .ok (.getfield 119, 3) := by decide +kernel
theorem d_Mo_rubOut_18 : decode b_Mo_rubOut 18 = .ok (.iaload, 1) := by decide +kernel
theorem d_Mo_rubOut_19 : decode b_Mo_rubOut 19 = .ok (.bipush 32, 2) := by decide +kernel
theorem d_Mo_rubOut_21 : decode b_Mo_rubOut 21 = .ok (.if_icmp .ge 7, 3) := by decide +kernel
theorem d_Mo_rubOut_24 : decode b_Mo_rubOut 24 = .ok (.iconst 2, 1) := by decide +kernel
theorem d_Mo_rubOut_25 : decode b_Mo_rubOut 25 = .ok (.goto 4, 3) := by decide +kernel
theorem d_Mo_rubOut_28 : decode b_Mo_rubOut 28 = .ok (.iconst 1, 1) := by decide +kernel
theorem d_Mo_rubOut_29 : decode b_Mo_rubOut 29 = .ok (.istore_n 1, 1) := by decide +kernel
theorem d_Mo_rubOut_30 : decode b_Mo_rubOut 30 = .ok (.iconst 0, 1) := by decide +kernel
theorem d_Mo_rubOut_31 : decode b_Mo_rubOut 31 = .ok (.istore_n 2, 1) := by decide +kernel
theorem d_Mo_rubOut_32 : decode b_Mo_rubOut 32 = .ok (.iload_n 2, 1) := by decide +kernel
theorem d_Mo_rubOut_33 : decode b_Mo_rubOut 33 = .ok (.iload_n 1, 1) := by decide +kernel
theorem d_Mo_rubOut_34 : decode b_Mo_rubOut 34 = .ok (.if_icmp .ge 35, 3) := by decide +kernel
theorem d_Mo_rubOut_37 : decode b_Mo_rubOut 37 = .ok (.aload_n 0, 1) := by decide +kernel
theorem d_Mo_rubOut_38 : decode b_Mo_rubOut 38 = .ok (.iconst 2, 1) := by decide +kernel
theorem d_Mo_rubOut_39 : decode b_Mo_rubOut 39 = .ok (.invokevirtual 109, 3) := by decide +kernel
theorem d_Mo_rubOut_42 : decode b_Mo_rubOut 42 = .ok (.ifCond .eq 27, 3) := by decide +kernel
theorem d_Mo_rubOut_45 : decode b_Mo_rubOut 45 = .ok (.aload_n 0, 1) := by decide +kernel
theorem d_Mo_rubOut_46 : decode b_Mo_rubOut 46 = .ok (.bipush 8, 2) := by decide +kernel
theorem d_Mo_rubOut_48 : decode b_Mo_rubOut 48 = .ok (.invokevirtual 116, 3) := by decide +kernel
theorem d_Mo_rubOut_51 : decode b_Mo_rubOut 51 = .ok (.aload_n 0, 1) := by decide +kernel
theorem d_Mo_rubOut_52 : decode b_Mo_rubOut 52 = .ok (.bipush 32, 2) := by decide +kernel
theorem d_Mo_rubOut_54 : decode b_Mo_rubOut 54 = .ok (.invokevirtual 116, 3) := by decide +kernel
theorem d_Mo_rubOut_57 : decode b_Mo_rubOut 57 = .ok (.aload_n 0, 1) := by decide +kernel
theorem d_Mo_rubOut_58 : decode b_Mo_rubOut 58 = .ok (.bipush 8, 2) := by decide +kernel
theorem d_Mo_rubOut_60 : decode b_Mo_rubOut 60 = .ok (.invokevirtual 116, 3) := by decide +kernel
theorem d_Mo_rubOut_63 : decode b_Mo_rubOut 63 = .ok (.iinc 2 1, 3) := by decide +kernel
theorem d_Mo_rubOut_66 : decode b_Mo_rubOut 66 = .ok (.goto (-34), 3) := by decide +kernel
theorem d_Mo_rubOut_69 : decode b_Mo_rubOut 69 = .ok (.return_, 1) := by decide +kernel
theorem d_Mo_enter_0 : decode b_Mo_enter 0 = .ok (.aload_n 0, 1) := by decide +kernel
theorem d_Mo_enter_1 : decode b_Mo_enter 1 = .ok (.getfield 122, 3) := by decide +kernel
theorem d_Mo_enter_4 : decode b_Mo_enter 4 = .ok (.aload_n 0, 1) := by decide +kernel
theorem d_Mo_enter_5 : decode b_Mo_enter 5 = .ok (.getfield 119, 3) := by decide +kernel
theorem d_Mo_enter_8 : decode b_Mo_enter 8 = .ok (.iadd, 1) := by decide +kernel
theorem d_Mo_enter_9 : decode b_Mo_enter 9 = .ok (.iload_n 1, 1) := by decide +kernel
theorem d_Mo_enter_10 : decode b_Mo_enter 10 = .ok (.iadd, 1) := by decide +kernel
theorem d_Mo_enter_11 : decode b_Mo_enter 11 = .ok (.bipush 40, 2) := by decide +kernel
theorem d_Mo_enter_13 : decode b_Mo_enter 13 = .ok (.if_icmp .le 5, 3) := by decide +kernel
theorem d_Mo_enter_16 : decode b_Mo_enter 16 = .ok (.iconst 0, 1) := by decide +kernel
theorem d_Mo_enter_17 : decode b_Mo_enter 17 = .ok (.ireturn, 1) := by decide +kernel
theorem d_Mo_enter_18 : decode b_Mo_enter 18 = .ok (.iconst 0, 1) := by decide +kernel
theorem d_Mo_enter_19 : decode b_Mo_enter 19 = .ok (.istore_n 3, 1) := by decide +kernel
theorem d_Mo_enter_20 : decode b_Mo_enter 20 = .ok (.iload_n 3, 1) := by decide +kernel
theorem d_Mo_enter_21 : decode b_Mo_enter 21 = .ok (.aload_n 0, 1) := by decide +kernel
theorem d_Mo_enter_22 : decode b_Mo_enter 22 = .ok (.getfield 119, 3) := by decide +kernel
theorem d_Mo_enter_25 : decode b_Mo_enter 25 = .ok (.if_icmp .ge 34, 3) := by decide +kernel
theorem d_Mo_enter_28 : decode b_Mo_enter 28 = .ok (.aload_n 0, 1) := by decide +kernel
theorem d_Mo_enter_29 : decode b_Mo_enter 29 = .ok (.getfield 78, 3) := by decide +kernel
theorem d_Mo_enter_32 : decode b_Mo_enter 32 = .ok (.aload_n 0, 1) := by decide +kernel
theorem d_Mo_enter_33 : decode b_Mo_enter 33 = .ok (.getfield 122, 3) := by decide +kernel
theorem d_Mo_enter_36 : decode b_Mo_enter 36 = .ok (.aload_n 0, 1) := by decide +kernel
theorem d_Mo_enter_37 : decode b_Mo_enter 37 = .ok (.getfield 75, 3) := by decide +kernel
theorem d_Mo_enter_40 : decode b_Mo_enter 40 = .ok (.iload_n 3, 1) := by decide +kernel
theorem d_Mo_enter_41 : decode b_Mo_enter 41 = .ok (.iaload, 1) := by decide +kernel
theorem d_Mo_enter_42 : decode b_Mo_enter 42 = .ok (.iastore, 1) := by decide +kernel
theorem d_Mo_enter_43 : decode b_Mo_enter 43 = .ok (.aload_n 0, 1) := by decide +kernel
theorem d_Mo_enter_44 : decode b_Mo_enter 44 = .ok (.dup, 1) := by decide +kernel
theorem d_Mo_enter_45 : decode b_Mo_enter 45 = .ok (.getfield 122, 3) := by decide +kernel
theorem d_Mo_enter_48 : decode b_Mo_enter 48 = .ok (.iconst 1, 1) := by decide +kernel
theorem d_Mo_enter_49 : decode b_Mo_enter 49 = .ok (.iadd, 1) := by decide +kernel
theorem d_Mo_enter_50 : decode b_Mo_enter 50 = .ok (.putfield 122, 3) := by decide +kernel
theorem d_Mo_enter_53 : decode b_Mo_enter 53 = .ok (.iinc 3 1, 3) := by decide +kernel
theorem d_Mo_enter_56 : decode b_Mo_enter 56 = .ok (.goto (-36), 3) := by decide +kernel
theorem d_Mo_enter_59 : decode b_Mo_enter 59 = .ok (.aload_n 0, 1) := by decide +kernel
theorem d_Mo_enter_60 : decode b_Mo_enter 60 = .ok (.iconst 0, 1) := by decide +kernel
theorem d_Mo_enter_61 : decode b_Mo_enter 61 = .ok (.putfield 119, 3) := by decide +kernel
theorem d_Mo_enter_64 : decode b_Mo_enter 64 = .ok (.iload_n 1, 1) := by decide +kernel
theorem d_Mo_enter_65 : decode b_Mo_enter 65 = .ok (.iconst 1, 1) := by decide +kernel
theorem d_Mo_enter_66 : decode b_Mo_enter 66 = .ok (.if_icmp .ne 23, 3) := by decide +kernel
theorem d_Mo_enter_69 : decode b_Mo_enter 69 = .ok (.aload_n 0, 1) := by decide +kernel
theorem d_Mo_enter_70 : decode b_Mo_enter 70 = .ok (.getfield 78, 3) := by decide +kernel
theorem d_Mo_enter_73 : decode b_Mo_enter 73 = .ok (.aload_n 0, 1) := by decide +kernel
theorem d_Mo_enter_74 : decode b_Mo_enter 74 = .ok (.getfield 122, 3) := by decide +kernel
theorem d_Mo_enter_77 : decode b_Mo_enter 77 = .ok (.iload_n 2, 1) := by decide +kernel
theorem d_Mo_enter_78 : decode b_Mo_enter 78 = .ok (.iastore, 1) := by decide +kernel
theorem d_Mo_enter_79 : decode b_Mo_enter 79 = .ok (.aload_n 0, 1) := by decide +kernel
theorem d_Mo_enter_80 : decode b_Mo_enter 80 = .ok (.dup, 1) := by decide +kernel
theorem d_Mo_enter_81 : decode b_Mo_enter 81 = .ok (.getfield 122, 3) := by decide +kernel
theorem d_Mo_enter_84 : decode b_Mo_enter 84 = .ok (.iconst 1, 1) := by decide +kernel
theorem d_Mo_enter_85 : decode b_Mo_enter 85 = .ok (.iadd, 1) := by decide +kernel
theorem d_Mo_enter_86 : decode b_Mo_enter 86 = .ok (.putfield 122, 3) := by decide +kernel
theorem d_Mo_enter_89 : decode b_Mo_enter 89 = .ok (.iconst 1, 1) := by decide +kernel
theorem d_Mo_enter_90 : decode b_Mo_enter 90 = .ok (.ireturn, 1) := by decide +kernel
theorem d_Mo_key_0 : decode b_Mo_key 0 = .ok (.aload_n 0, 1) := by decide +kernel
theorem d_Mo_key_1 : decode b_Mo_key 1 = .ok (.iconst 0, 1) := by decide +kernel
theorem d_Mo_key_2 : decode b_Mo_key 2 = .ok (.putfield 84, 3) := by decide +kernel
theorem d_Mo_key_5 : decode b_Mo_key 5 = .ok (.iload_n 1, 1) := by decide +kernel
theorem d_Mo_key_6 : decode b_Mo_key 6 = .ok (.bipush 127, 2) := by decide +kernel
theorem d_Mo_key_8 : decode b_Mo_key 8 = .ok (.if_icmp .le 5, 3) := by decide +kernel
theorem d_Mo_key_11 : decode b_Mo_key 11 = .ok (.iconst 0, 1) := by decide +kernel
theorem d_Mo_key_12 : decode b_Mo_key 12 = .ok (.ireturn, 1) := by decide +kernel
theorem d_Mo_key_13 : decode b_Mo_key 13 = .ok (.aload_n 0, 1) := by decide +kernel
theorem d_Mo_key_14 : decode b_Mo_key 14 = .ok (.bipush 8, 2) := by decide +kernel
theorem d_Mo_key_16 : decode b_Mo_key 16 = .ok (.invokevirtual 109, 3) := by decide +kernel
theorem d_Mo_key_19 : decode b_Mo_key 19 = .ok (.ifCond .eq 14, 3) := by decide +kernel
theorem d_Mo_key_22 : decode b_Mo_key 22 = .ok (.iload_n 1, 1) := by decide +kernel
theorem d_Mo_key_23 : decode b_Mo_key 23 = .ok (.bipush 13, 2) := by decide +kernel
theorem d_Mo_key_25 : decode b_Mo_key 25 = .ok (.if_icmp .ne 8, 3) := by decide +kernel
theorem d_Mo_key_28 : decode b_Mo_key 28 = .ok (.bipush 10, 2) := by decide +kernel
theorem d_Mo_key_30 : decode b_Mo_key 30 = .ok (.goto 4, 3) := by decide +kernel
theorem d_Mo_key_33 : decode b_Mo_key 33 = .ok (.iload_n 1, 1) := by decide +kernel
theorem d_Mo_key_34 : decode b_Mo_key 34 = .ok (.istore_n 2, 1) := by decide +kernel
theorem d_Mo_key_35 : decode b_Mo_key 35 = .ok (.iconst 1, 1) := by decide +kernel
theorem d_Mo_key_36 : decode b_Mo_key 36 = .ok (.istore_n 3, 1) := by decide +kernel
theorem d_Mo_key_37 : decode b_Mo_key 37 = .ok (.aload_n 0, 1) := by decide +kernel
theorem d_Mo_key_38 : decode b_Mo_key 38 = .ok (.iconst 4, 1) := by decide +kernel
theorem d_Mo_key_39 : decode b_Mo_key 39 = .ok (.invokevirtual 109, 3) := by decide +kernel
theorem d_Mo_key_42 : decode b_Mo_key 42 = .ok (.ifCond .eq 69, 3) := by decide +kernel
theorem d_Mo_key_45 : decode b_Mo_key 45 = .ok (.iload_n 2, 1) := by decide +kernel
theorem d_Mo_key_46 : decode b_Mo_key 46 = .ok (.iconst 3, 1) := by decide +kernel
theorem d_Mo_key_47 : decode b_Mo_key 47 = .ok (.if_icmp .eq 15, 3) := by decide +kernel
theorem d_Mo_key_50 : decode b_Mo_key 50 = .ok (.iload_n 2, 1) := by decide +kernel
theorem d_Mo_key_51 : decode b_Mo_key 51 = .ok (.bipush 28, 2) := by decide +kernel
theorem d_Mo_key_53 : decode b_Mo_key 53 = .ok (.if_icmp .eq 9, 3) := by decide +kernel
theorem d_Mo_key_56 : decode b_Mo_key 56 = .ok (.iload_n 2, 1) := by decide +kernel
theorem d_Mo_key_57 : decode b_Mo_key 57 = .ok (.bipush 26, 2) := by decide +kernel
theorem d_Mo_key_59 : decode b_Mo_key 59 = .ok (.if_icmp .ne 52, 3) := by decide +kernel
theorem d_Mo_key_62 : decode b_Mo_key 62 = .ok (.aload_n 0, 1) := by decide +kernel
theorem d_Mo_key_63 : decode b_Mo_key 63 = .ok (.getfield 68, 3) := by decide +kernel
theorem d_Mo_key_66 : decode b_Mo_key 66 = .ok (.ifCond .lt 32, 3) := by decide +kernel
theorem d_Mo_key_69 : decode b_Mo_key 69 = .ok (.aload_n 0, 1) := by decide +kernel
theorem d_Mo_key_70 : decode b_Mo_key 70 = .ok (.aload_n 0, 1) := by decide +kernel
theorem d_Mo_key_71 : decode b_Mo_key 71 = .ok (.getfield 68, 3) := by decide +kernel
theorem d_Mo_key_74 : decode b_Mo_key 74 = .ok (.iload_n 2, 1) := by decide +kernel
theorem d_Mo_key_75 : decode b_Mo_key 75 = .ok (.iconst 3, 1) := by decide +kernel
theorem d_Mo_key_76 : decode b_Mo_key 76 = .ok (.if_icmp .ne 7, 3) := by decide +kernel
theorem d_Mo_key_79 : decode b_Mo_key 79 = .ok (.iconst 1, 1) := by decide +kernel
theorem d_Mo_key_80 : decode b_Mo_key 80 = .ok (.goto 15, 3) := by decide +kernel
theorem d_Mo_key_83 : decode b_Mo_key 83 = .ok (.iload_n 2, 1) := by decide +kernel
theorem d_Mo_key_84 : decode b_Mo_key 84 = .ok (.bipush 28, 2) := by decide +kernel
theorem d_Mo_key_86 : decode b_Mo_key 86 = .ok (.if_icmp .ne 7, 3) := by decide +kernel
theorem d_Mo_key_89 : decode b_Mo_key 89 = .ok (.iconst 2, 1) := by decide +kernel
theorem d_Mo_key_90 : decode b_Mo_key 90 = .ok (.goto 5, 3) := by decide +kernel
theorem d_Mo_key_93 : decode b_Mo_key 93 = .ok (.bipush 7, 2) := by decide +kernel
theorem d_Mo_key_95 : decode b_Mo_key 95 = .ok (.invokevirtual 125, 3) := by decide +kernel
theorem d_Mo_key_98 : decode b_Mo_key 98 = .ok (.aload_n 0, 1) := by decide +kernel
theorem d_Mo_key_99 : decode b_Mo_key 99 = .ok (.iload_n 2, 1) := by decide +kernel
theorem d_Mo_key_100 : decode b_Mo_key 100 = .ok (.invokevirtual 128, 3) := by decide +kernel
theorem d_Mo_key_103 : decode b_Mo_key 103 = .ok (.aload_n 0, 1) := by decide +kernel
theorem d_Mo_key_104 : decode b_Mo_key 104 = .ok (.iconst 0, 1) := by decide +kernel
theorem d_Mo_key_105 : decode b_Mo_key 105 = .ok (.putfield 119, 3) := by decide +kernel
theorem d_Mo_key_108 : decode b_Mo_key 108 = .ok (.goto 64, 3) := by decide +kernel
theorem d_Mo_key_111 : decode b_Mo_key 111 = .ok (.aload_n 0, 1) := by decide +kernel
theorem d_Mo_key_112 : decode b_Mo_key 112 = .ok (.iconst 1, 1) := by decide +kernel
theorem d_Mo_key_113 : decode b_Mo_key 113 = .ok (.invokevirtual 109, 3) := by decide +kernel
theorem d_Mo_key_116 : decode b_Mo_key 116 = .ok (.ifCond .eq 12, 3) := by decide +kernel
theorem d_Mo_key_119 : decode b_Mo_key 119 = .ok (.aload_n 0, 1) := by decide +kernel
theorem d_Mo_key_120 : decode b_Mo_key 120 = .ok (.iload_n 2, 1) := by decide +kernel
theorem d_Mo_key_121 : decode b_Mo_key 121 = .ok (.invokevirtual 131, 3) := by decide +kernel
theorem d_Mo_key_124 : decode b_Mo_key 124 = .ok (.istore_n 3, 1) := by decide +kernel
theorem d_Mo_key_125 : decode b_Mo_key 125 = .ok (.goto 47, 3) := by decide +kernel
theorem d_Mo_key_128 : decode b_Mo_key 128 = .ok (.aload_n 0, 1) := by decide +kernel
theorem d_Mo_key_129 : decode b_Mo_key 129 = .ok (.getfield 122, 3) := by decide +kernel
theorem d_Mo_key_132 : decode b_Mo_key 132 = .ok (.bipush 40, 2) := by decide +kernel
theorem d_Mo_key_134 : decode b_Mo_key 134 = .ok (.if_icmp .ge 7, 3) := by decide +kernel
theorem d_Mo_key_137 : decode b_Mo_key 137 = .ok (.iconst 1, 1) := by decide +kernel
theorem d_Mo_key_138 : decode b_Mo_key 138 = .ok (.goto 4, 3) := by decide +kernel
theorem d_Mo_key_141 : decode b_Mo_key 141 = .ok (.iconst 0, 1) := by decide +kernel
theorem d_Mo_key_142 : decode b_Mo_key 142 = .ok (.istore_n 3, 1) := by decide +kernel
theorem d_Mo_key_143 : decode b_Mo_key 143 = .ok (.iload_n 3, 1) := by decide +kernel
theorem d_Mo_key_144 : decode b_Mo_key 144 = .ok (.ifCond .eq 28, 3) := by decide +kernel
theorem d_Mo_key_147 : decode b_Mo_key 147 = .ok (.aload_n 0, 1) := by decide +kernel
theorem d_Mo_key_148 : decode b_Mo_key 148 = .ok (.getfield 78, 3) := by decide +kernel
theorem d_Mo_key_151 : decode b_Mo_key 151 = .ok (.aload_n 0, 1) := by decide +kernel
theorem d_Mo_key_152 : decode b_Mo_key 152 = .ok (.getfield 122, 3) := by decide +kernel
theorem d_Mo_key_155 : decode b_Mo_key 155 = .ok (.iload_n 2, 1) := by decide +kernel
theorem d_Mo_key_156 : decode b_Mo_key 156 = .ok (.iastore, 1) := by decide +kernel
theorem d_Mo_key_157 : decode b_Mo_key 157 = .ok (.aload_n 0, 1) := by decide +kernel
theorem d_Mo_key_158 : decode b_Mo_key 158 = .ok (.dup, 1) := by decide +kernel
theorem d_Mo_key_159 : decode b_Mo_key 159 = .ok (.getfield 122, 3) := by decide +kernel
theorem d_Mo_key_162 : decode b_Mo_key 162 = .ok (.iconst 1, 1) := by decide +kernel
theorem d_Mo_key_163 : decode b_Mo_key 163 = .ok (.iadd, 1) := by decide +kernel
theorem d_Mo_key_164 : decode b_Mo_key 164 = .ok (.putfield 122, 3) := by decide +kernel
theorem d_Mo_key_167 : decode b_Mo_key 167 = .ok (.aload_n 0, 1) := by decide +kernel
theorem d_Mo_key_168 : decode b_Mo_key 168 = .ok (.iload_n 2, 1) := by decide +kernel
theorem d_Mo_key_169 : decode b_Mo_key 169 = .ok (.invokevirtual 128, 3) := by decide +kernel
theorem d_Mo_key_172 : decode b_Mo_key 172 = .ok (.aload_n 0, 1) := by decide +kernel
theorem d_Mo_key_173 : decode b_Mo_key 173 = .ok (.invokevirtual 134, 3) := by decide +kernel
theorem d_Mo_key_176 : decode b_Mo_key 176 = .ok (.iload_n 3, 1) := by decide +kernel
theorem d_Mo_key_177 : decode b_Mo_key 177 = .ok (.ireturn, 1) := by decide +kernel
theorem d_Mo_keyOfLine_0 : decode b_Mo_keyOfLine 0 = .ok (.iload_n 1, 1) := by decide +kernel
theorem d_Mo_keyOfLine_1 : decode b_Mo_keyOfLine 1 = .ok (.bipush 127, 2) := by decide +kernel
theorem d_Mo_keyOfLine_3 : decode b_Mo_keyOfLine 3 = .ok (.if_icmp .eq 9, 3) := by decide +kernel
theorem d_Mo_keyOfLine_6 : decode b_Mo_keyOfLine 6 = .ok (.iload_n 1, 1) := by decide +kernel
theorem d_Mo_keyOfLine_7 : decode b_Mo_keyOfLine 7 = .ok (.bipush 21, 2) := by decide +kernel
theorem d_Mo_keyOfLine_9 : decode b_Mo_keyOfLine 9 = .ok (.if_icmp .ne 44, 3) := by decide +kernel
theorem d_Mo_keyOfLine_12 : decode b_Mo_keyOfLine 12 = .ok (.iload_n 1, 1) := by decide +kernel
theorem d_Mo_keyOfLine_13 : decode b_Mo_keyOfLine 13 = .ok (.bipush 21, 2) := by decide +kernel
theorem d_Mo_keyOfLine_15 : decode b_Mo_keyOfLine 15 = .ok (.if_icmp .eq 10, 3) := by decide +kernel
theorem d_Mo_keyOfLine_18 : decode b_Mo_keyOfLine 18 = .ok (.aload_n 0, 1) := by decide +kernel
theorem d_Mo_keyOfLine_19 : decode b_Mo_keyOfLine 19 = .ok (.getfield 119, 3) := by decide +kernel
theorem d_Mo_keyOfLine_22 : decode b_Mo_keyOfLine 22 = .ok (.ifCond .ne 7, 3) := by decide +kernel
theorem d_Mo_keyOfLine_25 : decode b_Mo_keyOfLine 25 = .ok (.iconst 0, 1) := by decide +kernel
theorem d_Mo_keyOfLine_26 : decode b_Mo_keyOfLine 26 = .ok (.goto 9, 3) := by decide +kernel
theorem d_Mo_keyOfLine_29 : decode b_Mo_keyOfLine 29 = .ok (.aload_n 0, 1) := by decide +kernel
theorem d_Mo_keyOfLine_30 : decode b_Mo_keyOfLine 30 = .ok (.getfield 119, 3) := by decide +kernel
theorem d_Mo_keyOfLine_33 : decode b_Mo_keyOfLine 33 = .ok (.iconst 1, 1) := by decide +kernel
theorem d_Mo_keyOfLine_34 : decode b_Mo_keyOfLine 34 = .ok (.isub, 1) := by decide +kernel
theorem d_Mo_keyOfLine_35 : decode b_Mo_keyOfLine 35 = .ok (.istore_n 2, 1) := by decide +kernel
theorem d_Mo_keyOfLine_36 : decode b_Mo_keyOfLine 36 = .ok (.aload_n 0, 1) := by decide +kernel
theorem d_Mo_keyOfLine_37 : decode b_Mo_keyOfLine 37 = .ok (.getfield 119, 3) := by decide +kernel
theorem d_Mo_keyOfLine_40 : decode b_Mo_keyOfLine 40 = .ok (.iload_n 2, 1) := by decide +kernel
theorem d_Mo_keyOfLine_41 : decode b_Mo_keyOfLine 41 = .ok (.if_icmp .le 10, 3) := by decide +kernel
theorem d_Mo_keyOfLine_44 : decode b_Mo_keyOfLine 44 = .ok (.aload_n 0, 1) := by decide +kernel
theorem d_Mo_keyOfLine_45 : decode b_Mo_keyOfLine 45 = .ok (.invokevirtual 137, 3) := by decide +kernel
theorem d_Mo_keyOfLine_48 : decode b_Mo_keyOfLine 48 = .ok (.goto (-12), 3) := by decide +kernel
theorem d_Mo_keyOfLine_51 : decode b_Mo_keyOfLine 51 = .ok (.iconst 1, 1) := by decide +kernel
theorem d_Mo_keyOfLine_52 : decode b_Mo_keyOfLine 52 = .ok (.ireturn, 1) := by decide +kernel
theorem d_Mo_keyOfLine_53 : decode b_Mo_keyOfLine 53 = .ok (.iload_n 1, 1) := by decide +kernel
theorem d_Mo_keyOfLine_54 : decode b_Mo_keyOfLine 54 = .ok (.iconst 4, 1) := by decide +kernel
theorem d_Mo_keyOfLine_55 : decode b_Mo_keyOfLine 55 = .ok (.if_icmp .ne 26, 3) := by decide +kernel
theorem d_Mo_keyOfLine_58 : decode b_Mo_keyOfLine 58 = .ok (.aload_n 0, 1) := by decide +kernel
theorem d_Mo_keyOfLine_59 : decode b_Mo_keyOfLine 59 = .ok (.getfield 119, 3) := by decide +kernel
theorem d_Mo_keyOfLine_62 : decode b_Mo_keyOfLine 62 = .ok (.ifCond .ne 12, 3) := by decide +kernel
theorem d_Mo_keyOfLine_65 : decode b_Mo_keyOfLine 65 = .ok (.aload_n 0, 1) := by decide +kernel
theorem d_Mo_keyOfLine_66 : decode b_Mo_keyOfLine 66 = .ok (.iconst 1, 1) := by decide +kernel
theorem d_Mo_keyOfLine_67 : decode b_Mo_keyOfLine 67 = .ok (.iconst (-1), 1) := by decide +kernel
theorem d_Mo_keyOfLine_68 : decode b_Mo_keyOfLine 68 = .ok (.invokevirtual 140, 3) := by decide +kernel
theorem d_Mo_keyOfLine_71 : decode b_Mo_keyOfLine 71 = .ok (.goto 9, 3) := by decide +kernel
theorem d_Mo_keyOfLine_74 : decode b_Mo_keyOfLine 74 = .ok (.aload_n 0, 1) := by decide +kernel
theorem d_Mo_keyOfLine_75 : decode b_Mo_keyOfLine 75 = .ok (.iconst 0, 1) := by decide +kernel
theorem d_Mo_keyOfLine_76 : decode b_Mo_keyOfLine 76 = .ok (.iconst 0, 1) := by decide +kernel
theorem d_Mo_keyOfLine_77 : decode b_Mo_keyOfLine 77 = .ok (.invokevirtual 140, 3) := by decide +kernel
theorem d_Mo_keyOfLine_80 : decode b_Mo_keyOfLine 80 = .ok (.ireturn, 1) := by decide +kernel
theorem d_Mo_keyOfLine_81 : decode b_Mo_keyOfLine 81 = .ok (.iload_n 1, 1) := by decide +kernel
theorem d_Mo_keyOfLine_82 : decode b_Mo_keyOfLine 82 = .ok (.bipush 10, 2) := by decide +kernel
theorem d_Mo_keyOfLine_84 : decode b_Mo_keyOfLine 84 = .ok (.if_icmp .ne 23, 3) := by decide +kernel
theorem d_Mo_keyOfLine_87 : decode b_Mo_keyOfLine 87 = .ok (.aload_n 0, 1) := by decide +kernel
theorem d_Mo_keyOfLine_88 : decode b_Mo_keyOfLine 88 = .ok (.iconst 1, 1) := by decide +kernel
theorem d_Mo_keyOfLine_89 : decode b_Mo_keyOfLine 89 = .ok (.bipush 10, 2) := by decide +kernel
theorem d_Mo_keyOfLine_91 : decode b_Mo_keyOfLine 91 = .ok (.invokevirtual 140, 3) := by decide +kernel
theorem d_Mo_keyOfLine_94 : decode b_Mo_keyOfLine 94 = .ok (.istore_n 2, 1) := by decide +kernel
theorem d_Mo_keyOfLine_95 : decode b_Mo_keyOfLine 95 = .ok (.iload_n 2, 1) := by decide +kernel
theorem d_Mo_keyOfLine_96 : decode b_Mo_keyOfLine 96 = .ok (.ifCond .eq 9, 3) := by decide +kernel
theorem d_Mo_keyOfLine_99 : decode b_Mo_keyOfLine 99 = .ok (.aload_n 0, 1) := by decide +kernel
theorem d_Mo_keyOfLine_100 : decode b_Mo_keyOfLine 100 = .ok (.bipush 10, 2) := by decide +kernel
theorem d_Mo_keyOfLine_102 : decode b_Mo_keyOfLine 102 = .ok (.invokevirtual 128, 3) := by decide +kernel
theorem d_Mo_keyOfLine_105 : decode b_Mo_keyOfLine 105 = .ok (.iload_n 2, 1) := by decide +kernel
theorem d_Mo_keyOfLine_106 : decode b_Mo_keyOfLine 106 = .ok (.ireturn, 1) := by decide +kernel
theorem d_Mo_keyOfLine_107 : decode b_Mo_keyOfLine 107 = .ok (.aload_n 0, 1) := by decide +kernel
theorem d_Mo_keyOfLine_108 : decode b_Mo_keyOfLine 108 = .ok (.getfield 119, 3) := by decide +kernel
theorem d_Mo_keyOfLine_111 : decode b_Mo_keyOfLine 111 = .ok (.bipush 20, 2) := by decide +kernel
theorem d_Mo_keyOfLine_113 : decode b_Mo_keyOfLine 113 = .ok (.if_icmp .ne 5, 3) := by decide +kernel
theorem d_Mo_keyOfLine_116 : decode b_Mo_keyOfLine 116 = .ok (.iconst 0, 1) := by decide +kernel
theorem d_Mo_keyOfLine_117 : decode b_Mo_keyOfLine 117 = .ok (.ireturn, 1) := by decide +kernel
theorem d_Mo_keyOfLine_118 : decode b_Mo_keyOfLine 118 = .ok (.aload_n 0, 1) := by decide +kernel
theorem d_Mo_keyOfLine_119 : decode b_Mo_keyOfLine 119 = .ok (.getfield 75, 3) := by decide +kernel
theorem d_Mo_keyOfLine_122 : decode b_Mo_keyOfLine 122 = .ok (.aload_n 0, 1) := by decide +kernel
theorem d_Mo_keyOfLine_123 : decode b_Mo_keyOfLine 123 = .ok (.getfield 119, 3) := by decide +kernel
theorem d_Mo_keyOfLine_126 : decode b_Mo_keyOfLine 126 = .ok (.iload_n 1, 1) := by decide +kernel
theorem d_Mo_keyOfLine_127 : decode b_Mo_keyOfLine 127 = .ok (.iastore, 1) := by decide +kernel
theorem d_Mo_keyOfLine_128 : decode b_Mo_keyOfLine 128 = .ok (.aload_n 0, 1) := by decide +kernel
theorem d_Mo_keyOfLine_129 : decode b_Mo_keyOfLine 129 = .ok (.dup, 1) := by decide +kernel
theorem d_Mo_keyOfLine_130 : decode b_Mo_keyOfLine 130 = .ok (.getfield 119, 3) := by decide +kernel
theorem d_Mo_keyOfLine_133 : decode b_Mo_keyOfLine 133 = .ok (.iconst 1, 1) := by decide +kernel
theorem d_Mo_keyOfLine_134 : decode b_Mo_keyOfLine 134 = .ok (.iadd, 1) := by decide +kernel
theorem d_Mo_keyOfLine_135 : decode b_Mo_keyOfLine 135 = .ok (.putfield 119, 3) := by decide +kernel
theorem d_Mo_keyOfLine_138 : decode b_Mo_keyOfLine 138 = .ok (.aload_n 0, 1) := by decide +kernel
theorem d_Mo_keyOfLine_139 : decode b_Mo_keyOfLine 139 = .ok (.iload_n 1, 1) := by decide +kernel
theorem d_Mo_keyOfLine_140 : decode b_Mo_keyOfLine 140 = .ok (.invokevirtual 128, 3) := by decide +kernel
theorem d_Mo_keyOfLine_143 : decode b_Mo_keyOfLine 143 = .ok (.iconst 1, 1) := by decide +kernel
theorem d_Mo_keyOfLine_144 : decode b_Mo_keyOfLine 144 = .ok (.ireturn, 1) := by decide +kernel
theorem d_Mo_flags_0 : decode b_Mo_flags 0 = .ok (.aload_n 0, 1) := by decide +kernel
theorem d_Mo_flags_1 : decode b_Mo_flags 1 = .ok (.iconst 0, 1) := by decide +kernel
theorem d_Mo_flags_2 : decode b_Mo_flags 2 = .ok (.putfield 84, 3) := by decide +kernel
theorem d_Mo_flags_5 : decode b_Mo_flags 5 = .ok (.iload_n 1, 1) := by decide +kernel
theorem d_Mo_flags_6 : decode b_Mo_flags 6 = .ok (.ifCond .lt 9, 3) := by decide +kernel
theorem d_Mo_flags_9 : decode b_Mo_flags 9 = .ok (.iload_n 1, 1) := by decide +kernel
theorem d_Mo_flags_10 : decode b_Mo_flags 10 = .ok (.bipush 63, 2) := by decide +kernel
theorem d_Mo_flags_12 : decode b_Mo_flags 12 = .ok (.if_icmp .le 5, 3) := by decide +kernel
theorem d_Mo_flags_15 : decode b_Mo_flags 15 = .ok (.iconst (-1), 1) := by decide +kernel
theorem d_Mo_flags_16 : decode b_Mo_flags 16 = .ok (.ireturn, 1) := by decide +kernel
theorem d_Mo_flags_17 : decode b_Mo_flags 17 = .ok (.aload_n 0, 1) := by decide +kernel
theorem d_Mo_flags_18 : decode b_Mo_flags 18 = .ok (.getfield 72, 3) := by decide +kernel
theorem d_Mo_flags_21 : decode b_Mo_flags 21 = .ok (.istore_n 2, 1) := by decide +kernel
theorem d_Mo_flags_22 : decode b_Mo_flags 22 = .ok (.aload_n 0, 1) := by decide +kernel
theorem d_Mo_flags_23 : decode b_Mo_flags 23 = .ok (.iload_n 1, 1) := by decide +kernel
theorem d_Mo_flags_24 : decode b_Mo_flags 24 = .ok (.putfield 72, 3) := by decide +kernel
theorem d_Mo_flags_27 : decode b_Mo_flags 27 = .ok (.iload_n 2, 1) := by decide +kernel
theorem d_Mo_flags_28 : decode b_Mo_flags 28 = .ok (.ireturn, 1) := by decide +kernel
theorem d_Mo_program_0 : decode b_Mo_program 0 = .ok (.aload_n 0, 1) := by decide +kernel
theorem d_Mo_program_1 : decode b_Mo_program 1 = .ok (.iconst 0, 1) := by decide +kernel
theorem d_Mo_program_2 : decode b_Mo_program 2 = .ok (.putfield 84, 3) := by decide +kernel
theorem d_Mo_program_5 : decode b_Mo_program 5 = .ok (.iload_n 1, 1) := by decide +kernel
theorem d_Mo_program_6 : decode b_Mo_program 6 = .ok (.ifCond .lt 18, 3) := by decide +kernel
theorem d_Mo_program_9 : decode b_Mo_program 9 = .ok (.iload_n 1, 1) := by decide +kernel
theorem d_Mo_program_10 : decode b_Mo_program 10 = .ok (.iconst 3, 1) := by decide +kernel
theorem d_Mo_program_11 : decode b_Mo_program 11 = .ok (.if_icmp .gt 13, 3) := by decide +kernel
theorem d_Mo_program_14 : decode b_Mo_program 14 = .ok (.iload_n 2, 1) := by decide +kernel
theorem d_Mo_program_15 : decode b_Mo_program 15 = .ok (.ifCond .lt 9, 3) := by decide +kernel
theorem d_Mo_program_18 : decode b_Mo_program 18 = .ok (.iload_n 2, 1) := by decide +kernel
theorem d_Mo_program_19 : decode b_Mo_program 19 = .ok (.bipush 15, 2) := by decide +kernel
theorem d_Mo_program_21 : decode b_Mo_program 21 = .ok (.if_icmp .le 5, 3) := by decide +kernel
theorem d_Mo_program_24 : decode b_Mo_program 24 = .ok (.iconst 0, 1) := by decide +kernel
theorem d_Mo_program_25 : decode b_Mo_program 25 = .ok (.ireturn, 1) := by decide +kernel
theorem d_Mo_program_26 : decode b_Mo_program 26 = .ok (.aload_n 0, 1) := by decide +kernel
theorem d_Mo_program_27 : decode b_Mo_program 27 = .ok (.getfield 7, 3) := by decide +kernel
theorem d_Mo_program_30 : decode b_Mo_program 30 = .ok (.bipush 16, 2) := by decide +kernel
theorem d_Mo_program_32 : decode b_Mo_program 32 = .ok (.iload_n 1, 1) := by decide +kernel
theorem d_Mo_program_33 : decode b_Mo_program 33 = .ok (.imul, 1) := by decide +kernel
theorem d_Mo_program_34 : decode b_Mo_program 34 = .ok (.iload_n 2, 1) := by decide +kernel
theorem d_Mo_program_35 : decode b_Mo_program 35 = .ok (.iadd, 1) := by decide +kernel
theorem d_Mo_program_36 : decode b_Mo_program 36 = .ok (.iload_n 3, 1) := by decide +kernel
theorem d_Mo_program_37 : decode b_Mo_program 37 = .ok (.iastore, 1) := by decide +kernel
theorem d_Mo_program_38 : decode b_Mo_program 38 = .ok (.aload_n 0, 1) := by decide +kernel
theorem d_Mo_program_39 : decode b_Mo_program 39 = .ok (.getfield 13, 3) := by decide +kernel
theorem d_Mo_program_42 : decode b_Mo_program 42 = .ok (.bipush 16, 2) := by decide +kernel
theorem d_Mo_program_44 : decode b_Mo_program 44 = .ok (.iload_n 1, 1) := by decide +kernel
theorem d_Mo_program_45 : decode b_Mo_program 45 = .ok (.imul, 1) := by decide +kernel
theorem d_Mo_program_46 : decode b_Mo_program 46 = .ok (.iload_n 2, 1) := by decide +kernel
theorem d_Mo_program_47 : decode b_Mo_program 47 = .ok (.iadd, 1) := by decide +kernel
theorem d_Mo_program_48 : decode b_Mo_program 48 = .ok (.iload 4, 2) := by decide +kernel
theorem d_Mo_program_50 : decode b_Mo_program 50 = .ok (.iastore, 1) := by decide +kernel
theorem d_Mo_program_51 : decode b_Mo_program 51 = .ok (.iconst 1, 1) := by decide +kernel
theorem d_Mo_program_52 : decode b_Mo_program 52 = .ok (.ireturn, 1) := by decide +kernel
theorem d_Mo_begin_0 : decode b_Mo_begin 0 = .ok (.iconst 0, 1) := by decide +kernel
theorem d_Mo_begin_1 : decode b_Mo_begin 1 = .ok (.istore_n 3, 1) := by decide +kernel
theorem d_Mo_begin_2 : decode b_Mo_begin 2 = .ok (.aload_n 0, 1) := by decide +kernel
theorem d_Mo_begin_3 : decode b_Mo_begin 3 = .ok (.getfield 16, 3) := by decide +kernel
theorem d_Mo_begin_6 : decode b_Mo_begin 6 = .ok (.iload_n 3, 1) := by decide +kernel
theorem d_Mo_begin_7 : decode b_Mo_begin 7 = .ok (.iaload, 1) := by decide +kernel
theorem d_Mo_begin_8 : decode b_Mo_begin 8 = .ok (.ifCond .eq 9, 3) := by decide +kernel
theorem d_Mo_begin_11 : decode b_Mo_begin 11 = .ok (.iinc 3 1, 3) := by decide +kernel
theorem d_Mo_begin_14 : decode b_Mo_begin 14 = .ok (.goto (-12), 3) := by decide +kernel
theorem d_Mo_begin_17 : decode b_Mo_begin 17 = .ok (.aload_n 0, 1) := by decide +kernel
theorem d_Mo_begin_18 : decode b_Mo_begin 18 = .ok (.getfield 16, 3) := by decide +kernel
theorem d_Mo_begin_21 : decode b_Mo_begin 21 = .ok (.iload_n 3, 1) := by decide +kernel
theorem d_Mo_begin_22 : decode b_Mo_begin 22 = .ok (.iconst 1, 1) := by decide +kernel
theorem d_Mo_begin_23 : decode b_Mo_begin 23 = .ok (.iastore, 1) := by decide +kernel
theorem d_Mo_begin_24 : decode b_Mo_begin 24 = .ok (.aload_n 0, 1) := by decide +kernel
theorem d_Mo_begin_25 : decode b_Mo_begin 25 = .ok (.getfield 19, 3) := by decide +kernel
theorem d_Mo_begin_28 : decode b_Mo_begin 28 = .ok (.iload_n 3, 1) := by decide +kernel
theorem d_Mo_begin_29 : decode b_Mo_begin 29 = .ok (.iload_n 2, 1) := by decide +kernel
theorem d_Mo_begin_30 : decode b_Mo_begin 30 = .ok (.iastore, 1) := by decide +kernel
theorem d_Mo_begin_31 : decode b_Mo_begin 31 = .ok (.aload_n 0, 1) := by decide +kernel
theorem d_Mo_begin_32 : decode b_Mo_begin 32 = .ok (.getfield 22, 3) := by decide +kernel
theorem d_Mo_begin_35 : decode b_Mo_begin 35 = .ok (.iload_n 3, 1) := by decide +kernel
theorem d_Mo_begin_36 : decode b_Mo_begin 36 = .ok (.iload_n 1, 1) := by decide +kernel
theorem d_Mo_begin_37 : decode b_Mo_begin 37 = .ok (.iastore, 1) := by decide +kernel
theorem d_Mo_begin_38 : decode b_Mo_begin 38 = .ok (.aload_n 0, 1) := by decide +kernel
theorem d_Mo_begin_39 : decode b_Mo_begin 39 = .ok (.getfield 25, 3) := by decide +kernel
theorem d_Mo_begin_42 : decode b_Mo_begin 42 = .ok (.iload_n 3, 1) := by decide +kernel
theorem d_Mo_begin_43 : decode b_Mo_begin 43 = .ok (.iconst 0, 1) := by decide +kernel
theorem d_Mo_begin_44 : decode b_Mo_begin 44 = .ok (.iastore, 1) := by decide +kernel
theorem d_Mo_begin_45 : decode b_Mo_begin 45 = .ok (.aload_n 0, 1) := by decide +kernel
theorem d_Mo_begin_46 : decode b_Mo_begin 46 = .ok (.getfield 28, 3) := by decide +kernel
theorem d_Mo_begin_49 : decode b_Mo_begin 49 = .ok (.iload_n 3, 1) := by decide +kernel
theorem d_Mo_begin_50 : decode b_Mo_begin 50 = .ok (.iconst 0, 1) := by decide +kernel
theorem d_Mo_begin_51 : decode b_Mo_begin 51 = .ok (.iastore, 1) := by decide +kernel
theorem d_Mo_begin_52 : decode b_Mo_begin 52 = .ok (.aload_n 0, 1) := by decide +kernel
theorem d_Mo_begin_53 : decode b_Mo_begin 53 = .ok (.getfield 31, 3) := by decide +kernel
theorem d_Mo_begin_56 : decode b_Mo_begin 56 = .ok (.iload_n 3, 1) := by decide +kernel
theorem d_Mo_begin_57 : decode b_Mo_begin 57 = .ok (.iconst 0, 1) := by decide +kernel
theorem d_Mo_begin_58 : decode b_Mo_begin 58 = .ok (.iastore, 1) := by decide +kernel
theorem d_Mo_begin_59 : decode b_Mo_begin 59 = .ok (.aload_n 0, 1) := by decide +kernel
theorem d_Mo_begin_60 : decode b_Mo_begin 60 = .ok (.getfield 34, 3) := by decide +kernel
theorem d_Mo_begin_63 : decode b_Mo_begin 63 = .ok (.iload_n 3, 1) := by decide +kernel
theorem d_Mo_begin_64 : decode b_Mo_begin 64 = .ok (.iconst 0, 1) := by decide +kernel
theorem d_Mo_begin_65 : decode b_Mo_begin 65 = .ok (.iastore, 1) := by decide +kernel
theorem d_Mo_begin_66 : decode b_Mo_begin 66 = .ok (.aload_n 0, 1) := by decide +kernel
theorem d_Mo_begin_67 : decode b_Mo_begin 67 = .ok (.getfield 37, 3) := by decide +kernel
theorem d_Mo_begin_70 : decode b_Mo_begin 70 = .ok (.iload_n 3, 1) := by decide +kernel
theorem d_Mo_begin_71 : decode b_Mo_begin 71 = .ok (.iconst 0, 1) := by decide +kernel
theorem d_Mo_begin_72 : decode b_Mo_begin 72 = .ok (.iastore, 1) := by decide +kernel
theorem d_Mo_begin_73 : decode b_Mo_begin 73 = .ok (.aload_n 0, 1) := by decide +kernel
theorem d_Mo_begin_74 : decode b_Mo_begin 74 = .ok (.getfield 40, 3) := by decide +kernel
theorem d_Mo_begin_77 : decode b_Mo_begin 77 = .ok (.iload_n 3, 1) := by decide +kernel
theorem d_Mo_begin_78 : decode b_Mo_begin 78 = .ok (.iconst 0, 1) := by decide +kernel
theorem d_Mo_begin_79 : decode b_Mo_begin 79 = .ok (.iastore, 1) := by decide +kernel
theorem d_Mo_begin_80 : decode b_Mo_begin 80 = .ok (.aload_n 0, 1) := by decide +kernel
theorem d_Mo_begin_81 : decode b_Mo_begin 81 = .ok (.getfield 43, 3) := by decide +kernel
theorem d_Mo_begin_84 : decode b_Mo_begin 84 = .ok (.iload_n 3, 1) := by decide +kernel
theorem d_Mo_begin_85 : decode b_Mo_begin 85 = .ok (.iconst 0, 1) := by decide +kernel
theorem d_Mo_begin_86 : decode b_Mo_begin 86 = .ok (.iastore, 1) := by decide +kernel
theorem d_Mo_begin_87 : decode b_Mo_begin 87 = .ok (.iload_n 3, 1) := by decide +kernel
theorem d_Mo_begin_88 : decode b_Mo_begin 88 = .ok (.ireturn, 1) := by decide +kernel
theorem d_Mo_launch_0 : decode b_Mo_launch 0 = .ok (.aload_n 0, 1) := by decide +kernel
theorem d_Mo_launch_1 : decode b_Mo_launch 1 = .ok (.iconst 0, 1) := by decide +kernel
theorem d_Mo_launch_2 : decode b_Mo_launch 2 = .ok (.putfield 84, 3) := by decide +kernel
theorem d_Mo_launch_5 : decode b_Mo_launch 5 = .ok (.iconst 0, 1) := by decide +kernel
theorem d_Mo_launch_6 : decode b_Mo_launch 6 = .ok (.istore 4, 2) := by decide +kernel
theorem d_Mo_launch_8 : decode b_Mo_launch 8 = .ok (.iconst 0, 1) := by decide +kernel
theorem d_Mo_launch_9 : decode b_Mo_launch 9 = .ok (.istore 5, 2) := by decide +kernel
theorem d_Mo_launch_11 : decode b_Mo_launch 11 = .ok (.iload 5, 2) := by decide +kernel
theorem d_Mo_launch_13 : decode b_Mo_launch 13 = .ok (.bipush 8, 2) := by decide +kernel
theorem d_Mo_launch_15 : decode b_Mo_launch 15 = .ok (.if_icmp .ge 30, 3) := by decide +kernel
theorem d_Mo_launch_18 : decode b_Mo_launch 18 = .ok (.aload_n 0, 1) := by decide +kernel
theorem d_Mo_launch_19 : decode b_Mo_launch 19 = .ok (.getfield 16, 3) := by decide +kernel
theorem d_Mo_launch_22 : decode b_Mo_launch 22 = .ok (.iload 5, 2) := by decide +kernel
theorem d_Mo_launch_24 : decode b_Mo_launch 24 = .ok (.iaload, 1) := by decide +kernel
theorem d_Mo_launch_25 : decode b_Mo_launch 25 = .ok (.ifCond .ne 10, 3) := by decide +kernel
theorem d_Mo_launch_28 : decode b_Mo_launch 28 = .ok (.iload 4, 2) := by decide +kernel
theorem d_Mo_launch_30 : decode b_Mo_launch 30 = .ok (.iconst 1, 1) := by decide +kernel
theorem d_Mo_launch_31 : decode b_Mo_launch 31 = .ok (.iadd, 1) := by decide +kernel
theorem d_Mo_launch_32 : decode b_Mo_launch 32 = .ok (.goto 5, 3) := by decide +kernel
theorem d_Mo_launch_35 : decode b_Mo_launch 35 = .ok (.iload 4, 2) := by decide +kernel
theorem d_Mo_launch_37 : decode b_Mo_launch 37 = .ok (.istore 4, 2) := by decide +kernel
theorem d_Mo_launch_39 : decode b_Mo_launch 39 = .ok (.iinc 5 1, 3) := by decide +kernel
theorem d_Mo_launch_42 : decode b_Mo_launch 42 = .ok (.goto (-31), 3) := by decide +kernel
theorem d_Mo_launch_45 : decode b_Mo_launch 45 = .ok (.iconst 0, 1) := by decide +kernel
theorem d_Mo_launch_46 : decode b_Mo_launch 46 = .ok (.istore 5, 2) := by decide +kernel
theorem d_Mo_launch_48 : decode b_Mo_launch 48 = .ok (.iload 5, 2) := by decide +kernel
theorem d_Mo_launch_50 : decode b_Mo_launch 50 = .ok (.iconst 4, 1) := by decide +kernel
theorem d_Mo_launch_51 : decode b_Mo_launch 51 = .ok (.if_icmp .ge 19, 3) := by decide +kernel
theorem d_Mo_launch_54 : decode b_Mo_launch 54 = .ok (.aload_n 0, 1) := by decide +kernel
theorem d_Mo_launch_55 : decode b_Mo_launch 55 = .ok (.getfield 46, 3) := by decide +kernel
theorem d_Mo_launch_58 : decode b_Mo_launch 58 = .ok (.iload 5, 2) := by decide +kernel
theorem d_Mo_launch_60 : decode b_Mo_launch 60 = .ok (.baload, 1) := by decide +kernel
theorem d_Mo_launch_61 : decode b_Mo_launch 61 = .ok (.ifCond .eq 9, 3) := by decide +kernel
theorem d_Mo_launch_64 : decode b_Mo_launch 64 = .ok (.iinc 5 1, 3) := by decide +kernel
theorem d_Mo_launch_67 : decode b_Mo_launch 67 = .ok (.goto (-19), 3) := by decide +kernel
theorem d_Mo_launch_70 : decode b_Mo_launch 70 = .ok (.iload_n 1, 1) := by decide +kernel
theorem d_Mo_launch_71 : decode b_Mo_launch 71 = .ok (.ifCond .lt 18, 3) := by decide +kernel
theorem d_Mo_launch_74 : decode b_Mo_launch 74 = .ok (.iload_n 1, 1) := by decide +kernel
theorem d_Mo_launch_75 : decode b_Mo_launch 75 = .ok (.iconst 3, 1) := by decide +kernel
theorem d_Mo_launch_76 : decode b_Mo_launch 76 = .ok (.if_icmp .gt 13, 3) := by decide +kernel
theorem d_Mo_launch_79 : decode b_Mo_launch 79 = .ok (.iload_n 2, 1) := by decide +kernel
theorem d_Mo_launch_80 : decode b_Mo_launch 80 = .ok (.iconst (-1), 1) := by decide +kernel
theorem d_Mo_launch_81 : decode b_Mo_launch 81 = .ok (.if_icmp .lt 8, 3) := by decide +kernel
theorem d_Mo_launch_84 : decode b_Mo_launch 84 = .ok (.iload_n 2, 1) := by decide +kernel
theorem d_Mo_launch_85 : decode b_Mo_launch 85 = .ok (.iconst 3, 1) := by decide +kernel
theorem d_Mo_launch_86 : decode b_Mo_launch 86 = .ok (.if_icmp .le 11, 3) := by decide +kernel
theorem d_Mo_launch_89 : decode b_Mo_launch 89 = .ok (.aload_n 0, 1) := by decide +kernel
theorem d_Mo_launch_90 : decode b_Mo_launch 90 = .ok (.iconst 1, 1) := by decide +kernel
theorem d_Mo_launch_91 : decode b_Mo_launch 91 = .ok (.putfield 84, 3) := by decide +kernel
theorem d_Mo_launch_94 : decode b_Mo_launch 94 = .ok (.goto 39, 3) := by decide +kernel
theorem d_Mo_launch_97 : decode b_Mo_launch 97 = .ok (.aload_n 0, 1) := by decide +kernel
theorem d_Mo_launch_98 : decode b_Mo_launch 98 = .ok (.getfield 68, 3) := by decide +kernel
theorem d_Mo_launch_101 : decode b_Mo_launch 101 = .ok (.ifCond .lt 7, 3) := by decide +kernel
theorem d_Mo_launch_104 : decode b_Mo_launch 104 = .ok (.iload_n 3, 1) := by decide +kernel
theorem d_Mo_launch_105 : decode b_Mo_launch 105 = .ok (.ifCond .eq 23, 3) := by decide +kernel
theorem d_Mo_launch_108 : decode b_Mo_launch 108 = .ok (.iload 5, 2) := by decide +kernel
theorem d_Mo_launch_110 : decode b_Mo_launch 110 = .ok (.iconst 4, 1) := by decide +kernel
theorem d_Mo_launch_111 : decode b_Mo_launch 111 = .ok (.if_icmp .eq 17, 3) := by decide +kernel
theorem d_Mo_launch_114 : decode b_Mo_launch 114 = .ok (.iload 4, 2) := by decide +kernel
theorem d_Mo_launch_116 : decode b_Mo_launch 116 = .ok (.iload_n 2, 1) := by decide +kernel
theorem d_Mo_launch_117 : decode b_Mo_launch 117 = .ok (.ifCond .ge 7, 3) := by decide +kernel
theorem d_Mo_launch_120 : decode b_Mo_launch 120 = .ok (.iconst 1, 1) := by decide +kernel
theorem d_Mo_launch_121 : decode b_Mo_launch 121 = .ok (.goto 4, 3) := by decide +kernel
theorem d_Mo_launch_124 : decode b_Mo_launch 124 = .ok (.iconst 2, 1) := by decide +kernel
theorem d_Mo_launch_125 : decode b_Mo_launch 125 = .ok (.if_icmp .ge 8, 3) := by decide +kernel
theorem d_Mo_launch_128 : decode b_Mo_launch 128 = .ok (.aload_n 0, 1) := by decide +kernel
theorem d_Mo_launch_129 : decode b_Mo_launch 129 = .ok (.iconst 2, 1) := by decide +kernel
theorem d_Mo_launch_130 : decode b_Mo_launch 130 = .ok (.putfield 84, 3) := by decide +kernel
theorem d_Mo_launch_133 : decode b_Mo_launch 133 = .ok (.aload_n 0, 1) := by decide +kernel
theorem d_Mo_launch_134 : decode b_Mo_launch 134 = .ok (.getfield 84, 3) := by decide +kernel
theorem d_Mo_launch_137 : decode b_Mo_launch 137 = .ok (.ifCond .le 5, 3) := by decide +kernel
theorem d_Mo_launch_140 : decode b_Mo_launch 140 = .ok (.iconst 0, 1) := by decide +kernel
theorem d_Mo_launch_141 : decode b_Mo_launch 141 = .ok (.ireturn, 1) := by decide +kernel
theorem d_Mo_launch_142 : decode b_Mo_launch 142 = .ok (.aload_n 0, 1) := by decide +kernel
theorem d_Mo_launch_143 : decode b_Mo_launch 143 = .ok (.getfield 46, 3) := by decide +kernel
theorem d_Mo_launch_146 : decode b_Mo_launch 146 = .ok (.iload 5, 2) := by decide +kernel
theorem d_Mo_launch_148 : decode b_Mo_launch 148 = .ok (.iconst 1, 1) := by decide +kernel
theorem d_Mo_launch_149 : decode b_Mo_launch 149 = .ok (.bastore, 1) := by decide +kernel
theorem d_Mo_launch_150 : decode b_Mo_launch 150 = .ok (.aload_n 0, 1) := by decide +kernel
theorem d_Mo_launch_151 : decode b_Mo_launch 151 = .ok (.getfield 50, 3) := by decide +kernel
theorem d_Mo_launch_154 : decode b_Mo_launch 154 = .ok (.iload 5, 2) := by decide +kernel
theorem d_Mo_launch_156 : decode b_Mo_launch 156 = .ok (.aload_n 0, 1) := by decide +kernel
theorem d_Mo_launch_157 : decode b_Mo_launch 157 = .ok (.iload_n 1, 1) := by decide +kernel
theorem d_Mo_launch_158 : decode b_Mo_launch 158 = .ok (.iload 5, 2) := by decide +kernel
theorem d_Mo_launch_160 : decode b_Mo_launch 160 = .ok (.invokevirtual 143, 3) := by decide +kernel
theorem d_Mo_launch_163 : decode b_Mo_launch 163 = .ok (.iastore, 1) := by decide +kernel
theorem d_Mo_launch_164 : decode b_Mo_launch 164 = .ok (.aload_n 0, 1) := by decide +kernel
theorem d_Mo_launch_165 : decode b_Mo_launch 165 = .ok (.getfield 53, 3) := by decide +kernel
theorem d_Mo_launch_168 : decode b_Mo_launch 168 = .ok (.iload 5, 2) := by decide +kernel
theorem d_Mo_launch_170 : decode b_Mo_launch 170 = .ok (.iload_n 2, 1) := by decide +kernel
theorem d_Mo_launch_171 : decode b_Mo_launch 171 = .ok (.ifCond .ge 7, 3) := by decide +kernel
theorem d_Mo_launch_174 : decode b_Mo_launch 174 = .ok (.iconst (-1), 1) := by decide +kernel
theorem d_Mo_launch_175 : decode b_Mo_launch 175 = .ok (.goto 10, 3) := by decide +kernel
theorem d_Mo_launch_178 : decode b_Mo_launch 178 = .ok (.aload_n 0, 1) := by decide +kernel
theorem d_Mo_launch_179 : decode b_Mo_launch 179 = .ok (.iload_n 2, 1) := by decide +kernel
theorem d_Mo_launch_180 : decode b_Mo_launch 180 = .ok (.iload 5, 2) := by decide +kernel
theorem d_Mo_launch_182 : decode b_Mo_launch 182 = .ok (.invokevirtual 143, 3) := by decide +kernel
theorem d_Mo_launch_185 : decode b_Mo_launch 185 = .ok (.iastore, 1) := by decide +kernel
theorem d_Mo_launch_186 : decode b_Mo_launch 186 = .ok (.aload_n 0, 1) := by decide +kernel
theorem d_Mo_launch_187 : decode b_Mo_launch 187 = .ok (.getfield 56, 3) := by decide +kernel
theorem d_Mo_launch_190 : decode b_Mo_launch 190 = .ok (.iload 5, 2) := by decide +kernel
theorem d_Mo_launch_192 : decode b_Mo_launch 192 = .ok (.iconst 1, 1) := by decide +kernel
theorem d_Mo_launch_193 : decode b_Mo_launch 193 = .ok (.iastore, 1) := by decide +kernel
theorem d_Mo_launch_194 : decode b_Mo_launch 194 = .ok (.aload_n 0, 1) := by decide +kernel
theorem d_Mo_launch_195 : decode b_Mo_launch 195 = .ok (.getfield 59, 3) := by decide +kernel
theorem d_Mo_launch_198 : decode b_Mo_launch 198 = .ok (.iload 5, 2) := by decide +kernel
theorem d_Mo_launch_200 : decode b_Mo_launch 200 = .ok (.iconst 0, 1) := by decide +kernel
theorem d_Mo_launch_201 : decode b_Mo_launch 201 = .ok (.bastore, 1) := by decide +kernel
theorem d_Mo_launch_202 : decode b_Mo_launch 202 = .ok (.aload_n 0, 1) := by decide +kernel
theorem d_Mo_launch_203 : decode b_Mo_launch 203 = .ok (.getfield 62, 3) := by decide +kernel
theorem d_Mo_launch_206 : decode b_Mo_launch 206 = .ok (.iload 5, 2) := by decide +kernel
theorem d_Mo_launch_208 : decode b_Mo_launch 208 = .ok (.iconst 0, 1) := by decide +kernel
theorem d_Mo_launch_209 : decode b_Mo_launch 209 = .ok (.iastore, 1) := by decide +kernel
theorem d_Mo_launch_210 : decode b_Mo_launch 210 = .ok (.aload_n 0, 1) := by decide +kernel
theorem d_Mo_launch_211 : decode b_Mo_launch 211 = .ok (.iload_n 3, 1) := by decide +kernel
theorem d_Mo_launch_212 : decode b_Mo_launch 212 = .ok (.ifCond .eq 10, 3) := by decide +kernel
theorem d_Mo_launch_215 : decode b_Mo_launch 215 = .ok (.aload_n 0, 1) := by decide +kernel
theorem d_Mo_launch_216 : decode b_Mo_launch 216 = .ok (.getfield 68, 3) := by decide +kernel
theorem d_Mo_launch_219 : decode b_Mo_launch 219 = .ok (.goto 5, 3) := by decide +kernel
theorem d_Mo_launch_222 : decode b_Mo_launch 222 = .ok (.iload 5, 2) := by decide +kernel
theorem d_Mo_launch_224 : decode b_Mo_launch 224 = .ok (.putfield 68, 3) := by decide +kernel
theorem d_Mo_launch_227 : decode b_Mo_launch 227 = .ok (.iload 5, 2) := by decide +kernel
theorem d_Mo_launch_229 : decode b_Mo_launch 229 = .ok (.ireturn, 1) := by decide +kernel
theorem d_Mo_goOn_0 : decode b_Mo_goOn 0 = .ok (.aload_n 0, 1) := by decide +kernel
theorem d_Mo_goOn_1 : decode b_Mo_goOn 1 = .ok (.iload_n 1, 1) := by decide +kernel
theorem d_Mo_goOn_2 : decode b_Mo_goOn 2 = .ok (.iconst 5, 1) := by decide +kernel
theorem d_Mo_goOn_3 : decode b_Mo_goOn 3 = .ok (.invokevirtual 125, 3) := by decide +kernel
theorem d_Mo_goOn_6 : decode b_Mo_goOn 6 = .ok (.aload_n 0, 1) := by decide +kernel
theorem d_Mo_goOn_7 : decode b_Mo_goOn 7 = .ok (.invokevirtual 134, 3) := by decide +kernel
theorem d_Mo_goOn_10 : decode b_Mo_goOn 10 = .ok (.aload_n 0, 1) := by decide +kernel
theorem d_Mo_goOn_11 : decode b_Mo_goOn 11 = .ok (.iload_n 1, 1) := by decide +kernel
theorem d_Mo_goOn_12 : decode b_Mo_goOn 12 = .ok (.invokevirtual 87, 3) := by decide +kernel
theorem d_Mo_goOn_15 : decode b_Mo_goOn 15 = .ok (.ireturn, 1) := by decide +kernel
theorem d_Mo_front_0 : decode b_Mo_front 0 = .ok (.aload_n 0, 1) := by decide +kernel
theorem d_Mo_front_1 : decode b_Mo_front 1 = .ok (.aload_n 0, 1) := by decide +kernel
theorem d_Mo_front_2 : decode b_Mo_front 2 = .ok (.iload_n 1, 1) := by decide +kernel
theorem d_Mo_front_3 : decode b_Mo_front 3 = .ok (.invokevirtual 147, 3) := by decide +kernel
theorem d_Mo_front_6 : decode b_Mo_front 6 = .ok (.ifCond .ne 7, 3) := by decide +kernel
theorem d_Mo_front_9 : decode b_Mo_front 9 = .ok (.iconst 1, 1) := by decide +kernel
theorem d_Mo_front_10 : decode b_Mo_front 10 = .ok (.goto 32, 3) := by decide +kernel
theorem d_Mo_front_13 : decode b_Mo_front 13 = .ok (.aload_n 0, 1) := by decide +kernel
theorem d_Mo_front_14 : decode b_Mo_front 14 = .ok (.getfield 68, 3) := by decide +kernel
theorem d_Mo_front_17 : decode b_Mo_front 17 = .ok (.ifCond .lt 11, 3) := by decide +kernel
theorem d_Mo_front_20 : decode b_Mo_front 20 = .ok (.aload_n 0, 1) := by decide +kernel
theorem d_Mo_front_21 : decode b_Mo_front 21 = .ok (.getfield 68, 3) := by decide +kernel
theorem d_Mo_front_24 : decode b_Mo_front 24 = .ok (.iload_n 1, 1) := by decide +kernel
theorem d_Mo_front_25 : decode b_Mo_front 25 = .ok (.if_icmp .ne 12, 3) := by decide +kernel
theorem d_Mo_front_28 : decode b_Mo_front 28 = .ok (.aload_n 0, 1) := by decide +kernel
theorem d_Mo_front_29 : decode b_Mo_front 29 = .ok (.iload_n 1, 1) := by decide +kernel
theorem d_Mo_front_30 : decode b_Mo_front 30 = .ok (.invokevirtual 87, 3) := by decide +kernel
theorem d_Mo_front_33 : decode b_Mo_front 33 = .ok (.iconst 3, 1) := by decide +kernel
theorem d_Mo_front_34 : decode b_Mo_front 34 = .ok (.if_icmp .ne 7, 3) := by decide +kernel
theorem d_Mo_front_37 : decode b_Mo_front 37 = .ok (.iconst 2, 1) := by decide +kernel
theorem d_Mo_front_38 : decode b_Mo_front 38 = .ok (.goto 4, 3) := by decide +kernel
theorem d_Mo_front_41 : decode b_Mo_front 41 = .ok (.iconst 0, 1) := by decide +kernel
theorem d_Mo_front_42 : decode b_Mo_front 42 = .ok (.putfield 84, 3) := by decide +kernel
theorem d_Mo_front_45 : decode b_Mo_front 45 = .ok (.aload_n 0, 1) := by decide +kernel
theorem d_Mo_front_46 : decode b_Mo_front 46 = .ok (.getfield 84, 3) := by decide +kernel
theorem d_Mo_front_49 : decode b_Mo_front 49 = .ok (.ifCond .le 5, 3) := by decide +kernel
theorem d_Mo_front_52 : decode b_Mo_front 52 = .ok (.iconst 0, 1) := by decide +kernel
theorem d_Mo_front_53 : decode b_Mo_front 53 = .ok (.ireturn, 1) := by decide +kernel
theorem d_Mo_front_54 : decode b_Mo_front 54 = .ok (.aload_n 0, 1) := by decide +kernel
theorem d_Mo_front_55 : decode b_Mo_front 55 = .ok (.iload_n 1, 1) := by decide +kernel
theorem d_Mo_front_56 : decode b_Mo_front 56 = .ok (.putfield 68, 3) := by decide +kernel
theorem d_Mo_front_59 : decode b_Mo_front 59 = .ok (.aload_n 0, 1) := by decide +kernel
theorem d_Mo_front_60 : decode b_Mo_front 60 = .ok (.iload_n 1, 1) := by decide +kernel
theorem d_Mo_front_61 : decode b_Mo_front 61 = .ok (.invokevirtual 150, 3) := by decide +kernel
theorem d_Mo_front_64 : decode b_Mo_front 64 = .ok (.ireturn, 1) := by decide +kernel
