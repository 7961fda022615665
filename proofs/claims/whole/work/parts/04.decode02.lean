/-! decode rows (written by names.py) -/
theorem dM_storeList_0 : decode cM_storeList 0 = .ok (.iload_n 2, 1) := by decide +kernel
theorem dM_storeList_1 : decode cM_storeList 1 = .ok (.bipush 8, 2) := by decide +kernel
theorem dM_storeList_3 : decode cM_storeList 3 = .ok (.idiv, 1) := by decide +kernel
theorem dM_storeList_4 : decode cM_storeList 4 = .ok (.istore 4, 2) := by decide +kernel
theorem dM_storeList_6 : decode cM_storeList 6 = .ok (.iconst 1, 1) := by decide +kernel
theorem dM_storeList_7 : decode cM_storeList 7 = .ok (.iload_n 1, 1) := by decide +kernel
theorem dM_storeList_8 : decode cM_storeList 8 = .ok (.isub, 1) := by decide +kernel
theorem dM_storeList_9 : decode cM_storeList 9 = .ok (.istore 5, 2) := by decide +kernel
theorem dM_storeList_11 : decode cM_storeList 11 = .ok (.aload_n 0, 1) := by decide +kernel
theorem dM_storeList_12 : decode cM_storeList 12 = .ok (.iload 5, 2) := by decide +kernel
theorem dM_storeList_14 : decode cM_storeList 14 = .ok (.iload 4, 2) := by decide +kernel
theorem dM_storeList_16 : decode cM_storeList 16 = .ok (.invokevirtual 68, 3) := by decide +kernel
theorem dM_storeList_19 : decode cM_storeList 19 = .ok (.istore 6, 2) := by decide +kernel
theorem dM_storeList_21 : decode cM_storeList 21 = .ok (.aload_n 0, 1) := by decide +kernel
theorem dM_storeList_22 : decode cM_storeList 22 = .ok (.iload_n 1, 1) := by decide +kernel
theorem dM_storeList_23 : decode cM_storeList 23 = .ok (.iload 4, 2) := by decide +kernel
theorem dM_storeList_25 : decode cM_storeList 25 = .ok (.invokevirtual 68, 3) := by decide +kernel
theorem dM_storeList_28 : decode cM_storeList 28 = .ok (.istore 7, 2) := by decide +kernel
theorem dM_storeList_30 : decode cM_storeList 30 = .ok (.iconst 0, 1) := by decide +kernel
theorem dM_storeList_31 : decode cM_storeList 31 = .ok (.istore 8, 2) := by decide +kernel
theorem dM_storeList_33 : decode cM_storeList 33 = .ok (.iload 8, 2) := by decide +kernel
theorem dM_storeList_35 : decode cM_storeList 35 = .ok (.bipush 8, 2) := by decide +kernel
theorem dM_storeList_37 : decode cM_storeList 37 = .ok (.if_icmp .ge 68, 3) := by decide +kernel
theorem dM_storeList_40 : decode cM_storeList 40 = .ok (.aload_n 0, 1) := by decide +kernel
theorem dM_storeList_41 : decode cM_storeList 41 = .ok (.getfield 44, 3) := by decide +kernel
theorem dM_storeList_44 : decode cM_storeList 44 = .ok (.iload 8, 2) := by decide +kernel
theorem dM_storeList_46 : decode cM_storeList 46 = .ok (.iload 6, 2) := by decide +kernel
theorem dM_storeList_48 : decode cM_storeList 48 = .ok (.ifCond .eq 24, 3) := by decide +kernel
theorem dM_storeList_51 : decode cM_storeList 51 = .ok (.aload_n 0, 1) := by decide +kernel
theorem dM_storeList_52 : decode cM_storeList 52 = .ok (.getfield 7, 3) := by decide +kernel
theorem dM_storeList_55 : decode cM_storeList 55 = .ok (.iload 5, 2) := by decide +kernel
theorem dM_storeList_57 : decode cM_storeList 57 = .ok (.bipush 64, 2) := by decide +kernel
theorem dM_storeList_59 : decode cM_storeList 59 = .ok (.iload 4, 2) := by decide +kernel
theorem dM_storeList_61 : decode cM_storeList 61 = .ok (.iadd, 1) := by decide +kernel
theorem dM_storeList_62 : decode cM_storeList 62 = .ok (.invokestatic 50, 3) := by decide +kernel
theorem dM_storeList_65 : decode cM_storeList 65 = .ok (.iload 8, 2) := by decide +kernel
theorem dM_storeList_67 : decode cM_storeList 67 = .ok (.iadd, 1) := by decide +kernel
theorem dM_storeList_68 : decode cM_storeList 68 = .ok (.iaload, 1) := by decide +kernel
theorem dM_storeList_69 : decode cM_storeList 69 = .ok (.goto 29, 3) := by decide +kernel
theorem dM_storeList_72 : decode cM_storeList 72 = .ok (.iload 7, 2) := by decide +kernel
theorem dM_storeList_74 : decode cM_storeList 74 = .ok (.ifCond .eq 23, 3) := by decide +kernel
theorem dM_storeList_77 : decode cM_storeList 77 = .ok (.aload_n 0, 1) := by decide +kernel
theorem dM_storeList_78 : decode cM_storeList 78 = .ok (.getfield 7, 3) := by decide +kernel
theorem dM_storeList_81 : decode cM_storeList 81 = .ok (.iload_n 1, 1) := by decide +kernel
theorem dM_storeList_82 : decode cM_storeList 82 = .ok (.bipush 64, 2) := by decide +kernel
theorem dM_storeList_84 : decode cM_storeList 84 = .ok (.iload 4, 2) := by decide +kernel
theorem dM_storeList_86 : decode cM_storeList 86 = .ok (.iadd, 1) := by decide +kernel
theorem dM_storeList_87 : decode cM_storeList 87 = .ok (.invokestatic 50, 3) := by decide +kernel
theorem dM_storeList_90 : decode cM_storeList 90 = .ok (.iload 8, 2) := by decide +kernel
theorem dM_storeList_92 : decode cM_storeList 92 = .ok (.iadd, 1) := by decide +kernel
theorem dM_storeList_93 : decode cM_storeList 93 = .ok (.iaload, 1) := by decide +kernel
theorem dM_storeList_94 : decode cM_storeList 94 = .ok (.goto 4, 3) := by decide +kernel
theorem dM_storeList_97 : decode cM_storeList 97 = .ok (.iconst 0, 1) := by decide +kernel
theorem dM_storeList_98 : decode cM_storeList 98 = .ok (.iastore, 1) := by decide +kernel
theorem dM_storeList_99 : decode cM_storeList 99 = .ok (.iinc 8 1, 3) := by decide +kernel
theorem dM_storeList_102 : decode cM_storeList 102 = .ok (.goto (-69), 3) := by decide +kernel
theorem dM_storeList_105 : decode cM_storeList 105 = .ok (.aload_n 0, 1) := by decide +kernel
theorem dM_storeList_106 : decode cM_storeList 106 = .ok (.getfield 44, 3) := by decide +kernel
theorem dM_storeList_109 : decode cM_storeList 109 = .ok (.iload_n 2, 1) := by decide +kernel
theorem dM_storeList_110 : decode cM_storeList 110 = .ok (.bipush 8, 2) := by decide +kernel
theorem dM_storeList_112 : decode cM_storeList 112 = .ok (.irem, 1) := by decide +kernel
theorem dM_storeList_113 : decode cM_storeList 113 = .ok (.iload_n 3, 1) := by decide +kernel
theorem dM_storeList_114 : decode cM_storeList 114 = .ok (.iastore, 1) := by decide +kernel
theorem dM_storeList_115 : decode cM_storeList 115 = .ok (.aload_n 0, 1) := by decide +kernel
theorem dM_storeList_116 : decode cM_storeList 116 = .ok (.getfield 13, 3) := by decide +kernel
theorem dM_storeList_119 : decode cM_storeList 119 = .ok (.bipush 8, 2) := by decide +kernel
theorem dM_storeList_121 : decode cM_storeList 121 = .ok (.iload 5, 2) := by decide +kernel
theorem dM_storeList_123 : decode cM_storeList 123 = .ok (.imul, 1) := by decide +kernel
theorem dM_storeList_124 : decode cM_storeList 124 = .ok (.iload 4, 2) := by decide +kernel
theorem dM_storeList_126 : decode cM_storeList 126 = .ok (.iadd, 1) := by decide +kernel
theorem dM_storeList_127 : decode cM_storeList 127 = .ok (.iaload, 1) := by decide +kernel
theorem dM_storeList_128 : decode cM_storeList 128 = .ok (.iconst 1, 1) := by decide +kernel
theorem dM_storeList_129 : decode cM_storeList 129 = .ok (.iadd, 1) := by decide +kernel
theorem dM_storeList_130 : decode cM_storeList 130 = .ok (.istore 8, 2) := by decide +kernel
theorem dM_storeList_132 : decode cM_storeList 132 = .ok (.aload_n 0, 1) := by decide +kernel
theorem dM_storeList_133 : decode cM_storeList 133 = .ok (.iload 5, 2) := by decide +kernel
theorem dM_storeList_135 : decode cM_storeList 135 = .ok (.bipush 64, 2) := by decide +kernel
theorem dM_storeList_137 : decode cM_storeList 137 = .ok (.iload 4, 2) := by decide +kernel
theorem dM_storeList_139 : decode cM_storeList 139 = .ok (.iadd, 1) := by decide +kernel
theorem dM_storeList_140 : decode cM_storeList 140 = .ok (.iload 8, 2) := by decide +kernel
theorem dM_storeList_142 : decode cM_storeList 142 = .ok (.invokevirtual 95, 3) := by decide +kernel
theorem dM_storeList_145 : decode cM_storeList 145 = .ok (.ifCond .ne 5, 3) := by decide +kernel
theorem dM_storeList_148 : decode cM_storeList 148 = .ok (.iconst 0, 1) := by decide +kernel
theorem dM_storeList_149 : decode cM_storeList 149 = .ok (.ireturn, 1) := by decide +kernel
theorem dM_storeList_150 : decode cM_storeList 150 = .ok (.aload_n 0, 1) := by decide +kernel
theorem dM_storeList_151 : decode cM_storeList 151 = .ok (.getfield 13, 3) := by decide +kernel
theorem dM_storeList_154 : decode cM_storeList 154 = .ok (.bipush 8, 2) := by decide +kernel
theorem dM_storeList_156 : decode cM_storeList 156 = .ok (.iload 5, 2) := by decide +kernel
theorem dM_storeList_158 : decode cM_storeList 158 = .ok (.imul, 1) := by decide +kernel
theorem dM_storeList_159 : decode cM_storeList 159 = .ok (.iload 4, 2) := by decide +kernel
theorem dM_storeList_161 : decode cM_storeList 161 = .ok (.iadd, 1) := by decide +kernel
theorem dM_storeList_162 : decode cM_storeList 162 = .ok (.iload 8, 2) := by decide +kernel
theorem dM_storeList_164 : decode cM_storeList 164 = .ok (.iastore, 1) := by decide +kernel
theorem dM_storeList_165 : decode cM_storeList 165 = .ok (.iconst 1, 1) := by decide +kernel
theorem dM_storeList_166 : decode cM_storeList 166 = .ok (.ireturn, 1) := by decide +kernel
theorem dM_read_0 : decode cM_read 0 = .ok (.aload_n 0, 1) := by decide +kernel
theorem dM_read_1 : decode cM_read 1 = .ok (.iload_n 1, 1) := by decide +kernel
theorem dM_read_2 : decode cM_read 2 = .ok (.bipush 64, 2) := by decide +kernel
theorem dM_read_4 : decode cM_read 4 = .ok (.invokestatic 114, 3) := by decide +kernel
theorem dM_read_7 : decode cM_read 7 = .ok (.ifCond .eq 12, 3) := by decide +kernel
theorem dM_read_10 : decode cM_read 10 = .ok (.iload_n 2, 1) := by decide +kernel
theorem dM_read_11 : decode cM_read 11 = .ok (.bipush 8, 2) := by decide +kernel
theorem dM_read_13 : decode cM_read 13 = .ok (.invokestatic 114, 3) := by decide +kernel
theorem dM_read_16 : decode cM_read 16 = .ok (.ifCond .ne 7, 3) := by decide +kernel
theorem dM_read_19 : decode cM_read 19 = .ok (.iconst 1, 1) := by decide +kernel
theorem dM_read_20 : decode cM_read 20 = .ok (.goto 15, 3) := by decide +kernel
theorem dM_read_23 : decode cM_read 23 = .ok (.aload_n 0, 1) := by decide +kernel
theorem dM_read_24 : decode cM_read 24 = .ok (.getfield 80, 3) := by decide +kernel
theorem dM_read_27 : decode cM_read 27 = .ok (.ifCond .eq 7, 3) := by decide +kernel
theorem dM_read_30 : decode cM_read 30 = .ok (.iconst 2, 1) := by decide +kernel
theorem dM_read_31 : decode cM_read 31 = .ok (.goto 4, 3) := by decide +kernel
theorem dM_read_34 : decode cM_read 34 = .ok (.iconst 0, 1) := by decide +kernel
theorem dM_read_35 : decode cM_read 35 = .ok (.putfield 58, 3) := by decide +kernel
theorem dM_read_38 : decode cM_read 38 = .ok (.aload_n 0, 1) := by decide +kernel
theorem dM_read_39 : decode cM_read 39 = .ok (.getfield 58, 3) := by decide +kernel
theorem dM_read_42 : decode cM_read 42 = .ok (.ifCond .le 5, 3) := by decide +kernel
theorem dM_read_45 : decode cM_read 45 = .ok (.iconst 0, 1) := by decide +kernel
theorem dM_read_46 : decode cM_read 46 = .ok (.ireturn, 1) := by decide +kernel
theorem dM_read_47 : decode cM_read 47 = .ok (.aload_n 0, 1) := by decide +kernel
theorem dM_read_48 : decode cM_read 48 = .ok (.aload_n 0, 1) := by decide +kernel
theorem dM_read_49 : decode cM_read 49 = .ok (.iload_n 1, 1) := by decide +kernel
theorem dM_read_50 : decode cM_read 50 = .ok (.invokevirtual 117, 3) := by decide +kernel
theorem dM_read_53 : decode cM_read 53 = .ok (.putfield 120, 3) := by decide +kernel
theorem dM_read_56 : decode cM_read 56 = .ok (.aload_n 0, 1) := by decide +kernel
theorem dM_read_57 : decode cM_read 57 = .ok (.getfield 120, 3) := by decide +kernel
theorem dM_read_60 : decode cM_read 60 = .ok (.iconst 2, 1) := by decide +kernel
theorem dM_read_61 : decode cM_read 61 = .ok (.if_icmp .ne 7, 3) := by decide +kernel
theorem dM_read_64 : decode cM_read 64 = .ok (.iconst 0, 1) := by decide +kernel
theorem dM_read_65 : decode cM_read 65 = .ok (.goto 18, 3) := by decide +kernel
theorem dM_read_68 : decode cM_read 68 = .ok (.aload_n 0, 1) := by decide +kernel
theorem dM_read_69 : decode cM_read 69 = .ok (.getfield 7, 3) := by decide +kernel
theorem dM_read_72 : decode cM_read 72 = .ok (.aload_n 0, 1) := by decide +kernel
theorem dM_read_73 : decode cM_read 73 = .ok (.getfield 120, 3) := by decide +kernel
theorem dM_read_76 : decode cM_read 76 = .ok (.iload_n 1, 1) := by decide +kernel
theorem dM_read_77 : decode cM_read 77 = .ok (.invokestatic 50, 3) := by decide +kernel
theorem dM_read_80 : decode cM_read 80 = .ok (.iload_n 2, 1) := by decide +kernel
theorem dM_read_81 : decode cM_read 81 = .ok (.iadd, 1) := by decide +kernel
theorem dM_read_82 : decode cM_read 82 = .ok (.iaload, 1) := by decide +kernel
theorem dM_read_83 : decode cM_read 83 = .ok (.ireturn, 1) := by decide +kernel
theorem dM_code_0 : decode cM_code 0 = .ok (.aload_n 0, 1) := by decide +kernel
theorem dM_code_1 : decode cM_code 1 = .ok (.iconst 0, 1) := by decide +kernel
theorem dM_code_2 : decode cM_code 2 = .ok (.putfield 58, 3) := by decide +kernel
theorem dM_code_5 : decode cM_code 5 = .ok (.aload_n 0, 1) := by decide +kernel
theorem dM_code_6 : decode cM_code 6 = .ok (.getfield 120, 3) := by decide +kernel
theorem dM_code_9 : decode cM_code 9 = .ok (.ireturn, 1) := by decide +kernel
theorem dM_plan_0 : decode cM_plan 0 = .ok (.iload_n 2, 1) := by decide +kernel
theorem dM_plan_1 : decode cM_plan 1 = .ok (.iconst 1, 1) := by decide +kernel
theorem dM_plan_2 : decode cM_plan 2 = .ok (.if_icmp .lt 54, 3) := by decide +kernel
theorem dM_plan_5 : decode cM_plan 5 = .ok (.iload_n 2, 1) := by decide +kernel
theorem dM_plan_6 : decode cM_plan 6 = .ok (.bipush 50, 2) := by decide +kernel
theorem dM_plan_8 : decode cM_plan 8 = .ok (.if_icmp .gt 48, 3) := by decide +kernel
theorem dM_plan_11 : decode cM_plan 11 = .ok (.iload_n 3, 1) := by decide +kernel
theorem dM_plan_12 : decode cM_plan 12 = .ok (.iconst 3, 1) := by decide +kernel
theorem dM_plan_13 : decode cM_plan 13 = .ok (.invokestatic 114, 3) := by decide +kernel
theorem dM_plan_16 : decode cM_plan 16 = .ok (.ifCond .eq 40, 3) := by decide +kernel
theorem dM_plan_19 : decode cM_plan 19 = .ok (.iload_n 3, 1) := by decide +kernel
theorem dM_plan_20 : decode cM_plan 20 = .ok (.iconst 1, 1) := by decide +kernel
theorem dM_plan_21 : decode cM_plan 21 = .ok (.if_icmp .ne 13, 3) := by decide +kernel
theorem dM_plan_24 : decode cM_plan 24 = .ok (.iload 4, 2) := by decide +kernel
theorem dM_plan_26 : decode cM_plan 26 = .ok (.bipush 72, 2) := by decide +kernel
theorem dM_plan_28 : decode cM_plan 28 = .ok (.invokestatic 114, 3) := by decide +kernel
theorem dM_plan_31 : decode cM_plan 31 = .ok (.ifCond .eq 25, 3) := by decide +kernel
theorem dM_plan_34 : decode cM_plan 34 = .ok (.iload_n 3, 1) := by decide +kernel
theorem dM_plan_35 : decode cM_plan 35 = .ok (.iconst 2, 1) := by decide +kernel
theorem dM_plan_36 : decode cM_plan 36 = .ok (.if_icmp .ne 16, 3) := by decide +kernel
theorem dM_plan_39 : decode cM_plan 39 = .ok (.iload 4, 2) := by decide +kernel
theorem dM_plan_41 : decode cM_plan 41 = .ok (.iconst 1, 1) := by decide +kernel
theorem dM_plan_42 : decode cM_plan 42 = .ok (.if_icmp .lt 14, 3) := by decide +kernel
theorem dM_plan_45 : decode cM_plan 45 = .ok (.iload 4, 2) := by decide +kernel
theorem dM_plan_47 : decode cM_plan 47 = .ok (.bipush 10, 2) := by decide +kernel
theorem dM_plan_49 : decode cM_plan 49 = .ok (.if_icmp .gt 7, 3) := by decide +kernel
theorem dM_plan_52 : decode cM_plan 52 = .ok (.iconst 1, 1) := by decide +kernel
theorem dM_plan_53 : decode cM_plan 53 = .ok (.goto 4, 3) := by decide +kernel
theorem dM_plan_56 : decode cM_plan 56 = .ok (.iconst 0, 1) := by decide +kernel
theorem dM_plan_57 : decode cM_plan 57 = .ok (.istore 5, 2) := by decide +kernel
theorem dM_plan_59 : decode cM_plan 59 = .ok (.iconst 0, 1) := by decide +kernel
theorem dM_plan_60 : decode cM_plan 60 = .ok (.istore 6, 2) := by decide +kernel
theorem dM_plan_62 : decode cM_plan 62 = .ok (.iload_n 1, 1) := by decide +kernel
theorem dM_plan_63 : decode cM_plan 63 = .ok (.iconst 2, 1) := by decide +kernel
theorem dM_plan_64 : decode cM_plan 64 = .ok (.invokestatic 114, 3) := by decide +kernel
theorem dM_plan_67 : decode cM_plan 67 = .ok (.ifCond .eq 55, 3) := by decide +kernel
theorem dM_plan_70 : decode cM_plan 70 = .ok (.iload 6, 2) := by decide +kernel
theorem dM_plan_72 : decode cM_plan 72 = .ok (.aload_n 0, 1) := by decide +kernel
theorem dM_plan_73 : decode cM_plan 73 = .ok (.getfield 29, 3) := by decide +kernel
theorem dM_plan_76 : decode cM_plan 76 = .ok (.iload_n 1, 1) := by decide +kernel
theorem dM_plan_77 : decode cM_plan 77 = .ok (.iaload, 1) := by decide +kernel
theorem dM_plan_78 : decode cM_plan 78 = .ok (.if_icmp .ge 44, 3) := by decide +kernel
theorem dM_plan_81 : decode cM_plan 81 = .ok (.iload 5, 2) := by decide +kernel
theorem dM_plan_83 : decode cM_plan 83 = .ok (.ifCond .eq 30, 3) := by decide +kernel
theorem dM_plan_86 : decode cM_plan 86 = .ok (.aload_n 0, 1) := by decide +kernel
theorem dM_plan_87 : decode cM_plan 87 = .ok (.getfield 32, 3) := by decide +kernel
theorem dM_plan_90 : decode cM_plan 90 = .ok (.bipush 8, 2) := by decide +kernel
theorem dM_plan_92 : decode cM_plan 92 = .ok (.iload_n 1, 1) := by decide +kernel
theorem dM_plan_93 : decode cM_plan 93 = .ok (.imul, 1) := by decide +kernel
theorem dM_plan_94 : decode cM_plan 94 = .ok (.iload 6, 2) := by decide +kernel
theorem dM_plan_96 : decode cM_plan 96 = .ok (.iadd, 1) := by decide +kernel
theorem dM_plan_97 : decode cM_plan 97 = .ok (.iaload, 1) := by decide +kernel
theorem dM_plan_98 : decode cM_plan 98 = .ok (.aload_n 0, 1) := by decide +kernel
theorem dM_plan_99 : decode cM_plan 99 = .ok (.getfield 26, 3) := by decide +kernel
theorem dM_plan_102 : decode cM_plan 102 = .ok (.iload_n 1, 1) := by decide +kernel
theorem dM_plan_103 : decode cM_plan 103 = .ok (.iaload, 1) := by decide +kernel
theorem dM_plan_104 : decode cM_plan 104 = .ok (.iload_n 2, 1) := by decide +kernel
theorem dM_plan_105 : decode cM_plan 105 = .ok (.iadd, 1) := by decide +kernel
theorem dM_plan_106 : decode cM_plan 106 = .ok (.if_icmp .eq 7, 3) := by decide +kernel
theorem dM_plan_109 : decode cM_plan 109 = .ok (.iconst 1, 1) := by decide +kernel
theorem dM_plan_110 : decode cM_plan 110 = .ok (.goto 4, 3) := by decide +kernel
theorem dM_plan_113 : decode cM_plan 113 = .ok (.iconst 0, 1) := by decide +kernel
theorem dM_plan_114 : decode cM_plan 114 = .ok (.istore 5, 2) := by decide +kernel
theorem dM_plan_116 : decode cM_plan 116 = .ok (.iinc 6 1, 3) := by decide +kernel
theorem dM_plan_119 : decode cM_plan 119 = .ok (.goto (-57), 3) := by decide +kernel
theorem dM_plan_122 : decode cM_plan 122 = .ok (.aload_n 0, 1) := by decide +kernel
theorem dM_plan_123 : decode cM_plan 123 = .ok (.iload_n 1, 1) := by decide +kernel
theorem dM_plan_124 : decode cM_plan 124 = .ok (.iconst 2, 1) := by decide +kernel
theorem dM_plan_125 : decode cM_plan 125 = .ok (.invokestatic 114, 3) := by decide +kernel
theorem dM_plan_128 : decode cM_plan 128 = .ok (.ifCond .ne 7, 3) := by decide +kernel
theorem dM_plan_131 : decode cM_plan 131 = .ok (.iconst 1, 1) := by decide +kernel
theorem dM_plan_132 : decode cM_plan 132 = .ok (.goto 28, 3) := by decide +kernel
theorem dM_plan_135 : decode cM_plan 135 = .ok (.iload 5, 2) := by decide +kernel
theorem dM_plan_137 : decode cM_plan 137 = .ok (.ifCond .ne 7, 3) := by decide +kernel
theorem dM_plan_140 : decode cM_plan 140 = .ok (.iconst 2, 1) := by decide +kernel
theorem dM_plan_141 : decode cM_plan 141 = .ok (.goto 19, 3) := by decide +kernel
theorem dM_plan_144 : decode cM_plan 144 = .ok (.aload_n 0, 1) := by decide +kernel
theorem dM_plan_145 : decode cM_plan 145 = .ok (.getfield 29, 3) := by decide +kernel
theorem dM_plan_148 : decode cM_plan 148 = .ok (.iload_n 1, 1) := by decide +kernel
theorem dM_plan_149 : decode cM_plan 149 = .ok (.iaload, 1) := by decide +kernel
theorem dM_plan_150 : decode cM_plan 150 = .ok (.bipush 8, 2) := by decide +kernel
theorem dM_plan_152 : decode cM_plan 152 = .ok (.if_icmp .ne 7, 3) := by decide +kernel
theorem dM_plan_155 : decode cM_plan 155 = .ok (.iconst 3, 1) := by decide +kernel
theorem dM_plan_156 : decode cM_plan 156 = .ok (.goto 4, 3) := by decide +kernel
theorem dM_plan_159 : decode cM_plan 159 = .ok (.iconst 0, 1) := by decide +kernel
theorem dM_plan_160 : decode cM_plan 160 = .ok (.putfield 58, 3) := by decide +kernel
theorem dM_plan_163 : decode cM_plan 163 = .ok (.aload_n 0, 1) := by decide +kernel
theorem dM_plan_164 : decode cM_plan 164 = .ok (.getfield 58, 3) := by decide +kernel
theorem dM_plan_167 : decode cM_plan 167 = .ok (.ifCond .le 4, 3) := by decide +kernel
theorem dM_plan_170 : decode cM_plan 170 = .ok (.return_, 1) := by decide +kernel
theorem dM_plan_171 : decode cM_plan 171 = .ok (.bipush 8, 2) := by decide +kernel
theorem dM_plan_173 : decode cM_plan 173 = .ok (.iload_n 1, 1) := by decide +kernel
theorem dM_plan_174 : decode cM_plan 174 = .ok (.imul, 1) := by decide +kernel
theorem dM_plan_175 : decode cM_plan 175 = .ok (.aload_n 0, 1) := by decide +kernel
theorem dM_plan_176 : decode cM_plan 176 = .ok (.getfield 29, 3) := by decide +kernel
theorem dM_plan_179 : decode cM_plan 179 = .ok (.iload_n 1, 1) := by decide +kernel
theorem dM_plan_180 : decode cM_plan 180 = .ok (.iaload, 1) := by decide +kernel
theorem dM_plan_181 : decode cM_plan 181 = .ok (.iadd, 1) := by decide +kernel
theorem dM_plan_182 : decode cM_plan 182 = .ok (.istore 6, 2) := by decide +kernel
theorem dM_plan_184 : decode cM_plan 184 = .ok (.aload_n 0, 1) := by decide +kernel
theorem dM_plan_185 : decode cM_plan 185 = .ok (.getfield 32, 3) := by decide +kernel
theorem dM_plan_188 : decode cM_plan 188 = .ok (.iload 6, 2) := by decide +kernel
theorem dM_plan_190 : decode cM_plan 190 = .ok (.aload_n 0, 1) := by decide +kernel
theorem dM_plan_191 : decode cM_plan 191 = .ok (.getfield 26, 3) := by decide +kernel
theorem dM_plan_194 : decode cM_plan 194 = .ok (.iload_n 1, 1) := by decide +kernel
theorem dM_plan_195 : decode cM_plan 195 = .ok (.iaload, 1) := by decide +kernel
theorem dM_plan_196 : decode cM_plan 196 = .ok (.iload_n 2, 1) := by decide +kernel
theorem dM_plan_197 : decode cM_plan 197 = .ok (.iadd, 1) := by decide +kernel
theorem dM_plan_198 : decode cM_plan 198 = .ok (.iastore, 1) := by decide +kernel
theorem dM_plan_199 : decode cM_plan 199 = .ok (.aload_n 0, 1) := by decide +kernel
theorem dM_plan_200 : decode cM_plan 200 = .ok (.getfield 35, 3) := by decide +kernel
theorem dM_plan_203 : decode cM_plan 203 = .ok (.iload 6, 2) := by decide +kernel
theorem dM_plan_205 : decode cM_plan 205 = .ok (.iload_n 3, 1) := by decide +kernel
theorem dM_plan_206 : decode cM_plan 206 = .ok (.iastore, 1) := by decide +kernel
theorem dM_plan_207 : decode cM_plan 207 = .ok (.aload_n 0, 1) := by decide +kernel
theorem dM_plan_208 : decode cM_plan 208 = .ok (.getfield 38, 3) := by decide +kernel
theorem dM_plan_211 : decode cM_plan 211 = .ok (.iload 6, 2) := by decide +kernel
theorem dM_plan_213 : decode cM_plan 213 = .ok (.iload 4, 2) := by decide +kernel
theorem dM_plan_215 : decode cM_plan 215 = .ok (.iastore, 1) := by decide +kernel
theorem dM_plan_216 : decode cM_plan 216 = .ok (.aload_n 0, 1) := by decide +kernel
theorem dM_plan_217 : decode cM_plan 217 = .ok (.getfield 29, 3) := by decide +kernel
theorem dM_plan_220 : decode cM_plan 220 = .ok (.iload_n 1, 1) := by decide +kernel
theorem dM_plan_221 : decode cM_plan 221 = .ok (.dup2, 1) := by decide +kernel
theorem dM_plan_222 : decode cM_plan 222 = .ok (.iaload, 1) := by decide +kernel
theorem dM_plan_223 : decode cM_plan 223 = .ok (.iconst 1, 1) := by decide +kernel
theorem dM_plan_224 : decode cM_plan 224 = .ok (.iadd, 1) := by decide +kernel
theorem dM_plan_225 : decode cM_plan 225 = .ok (.iastore, 1) := by decide +kernel
theorem dM_plan_226 : decode cM_plan 226 = .ok (.return_, 1) := by decide +kernel
theorem dM_cutAfter_0 : decode cM_cutAfter 0 = .ok (.aload_n 0, 1) := by decide +kernel
theorem dM_cutAfter_1 : decode cM_cutAfter 1 = .ok (.iload_n 1, 1) := by decide +kernel
theorem dM_cutAfter_2 : decode cM_cutAfter 2 = .ok (.iconst (-1), 1) := by decide +kernel
theorem dM_cutAfter_3 : decode cM_cutAfter 3 = .ok (.if_icmp .lt 9, 3) := by decide +kernel
theorem dM_cutAfter_6 : decode cM_cutAfter 6 = .ok (.iload_n 1, 1) := by decide +kernel
theorem dM_cutAfter_7 : decode cM_cutAfter 7 = .ok (.bipush 100, 2) := by decide +kernel
theorem dM_cutAfter_9 : decode cM_cutAfter 9 = .ok (.if_icmp .le 7, 3) := by decide +kernel
theorem dM_cutAfter_12 : decode cM_cutAfter 12 = .ok (.iconst 1, 1) := by decide +kernel
theorem dM_cutAfter_13 : decode cM_cutAfter 13 = .ok (.goto 15, 3) := by decide +kernel
theorem dM_cutAfter_16 : decode cM_cutAfter 16 = .ok (.aload_n 0, 1) := by decide +kernel
theorem dM_cutAfter_17 : decode cM_cutAfter 17 = .ok (.getfield 80, 3) := by decide +kernel
theorem dM_cutAfter_20 : decode cM_cutAfter 20 = .ok (.ifCond .eq 7, 3) := by decide +kernel
theorem dM_cutAfter_23 : decode cM_cutAfter 23 = .ok (.iconst 2, 1) := by decide +kernel
theorem dM_cutAfter_24 : decode cM_cutAfter 24 = .ok (.goto 4, 3) := by decide +kernel
theorem dM_cutAfter_27 : decode cM_cutAfter 27 = .ok (.iconst 0, 1) := by decide +kernel
theorem dM_cutAfter_28 : decode cM_cutAfter 28 = .ok (.putfield 58, 3) := by decide +kernel
theorem dM_cutAfter_31 : decode cM_cutAfter 31 = .ok (.aload_n 0, 1) := by decide +kernel
theorem dM_cutAfter_32 : decode cM_cutAfter 32 = .ok (.aload_n 0, 1) := by decide +kernel
theorem dM_cutAfter_33 : decode cM_cutAfter 33 = .ok (.getfield 58, 3) := by decide +kernel
theorem dM_cutAfter_36 : decode cM_cutAfter 36 = .ok (.ifCond .le 10, 3) := by decide +kernel
theorem dM_cutAfter_39 : decode cM_cutAfter 39 = .ok (.aload_n 0, 1) := by decide +kernel
theorem dM_cutAfter_40 : decode cM_cutAfter 40 = .ok (.getfield 23, 3) := by decide +kernel
theorem dM_cutAfter_43 : decode cM_cutAfter 43 = .ok (.goto 4, 3) := by decide +kernel
theorem dM_cutAfter_46 : decode cM_cutAfter 46 = .ok (.iload_n 1, 1) := by decide +kernel
theorem dM_cutAfter_47 : decode cM_cutAfter 47 = .ok (.putfield 23, 3) := by decide +kernel
theorem dM_cutAfter_50 : decode cM_cutAfter 50 = .ok (.return_, 1) := by decide +kernel
theorem dM_start_0 : decode cM_start 0 = .ok (.aload_n 0, 1) := by decide +kernel
theorem dM_start_1 : decode cM_start 1 = .ok (.aload_n 0, 1) := by decide +kernel
theorem dM_start_2 : decode cM_start 2 = .ok (.getfield 80, 3) := by decide +kernel
theorem dM_start_5 : decode cM_start 5 = .ok (.ifCond .eq 7, 3) := by decide +kernel
theorem dM_start_8 : decode cM_start 8 = .ok (.iconst 0, 1) := by decide +kernel
theorem dM_start_9 : decode cM_start 9 = .ok (.goto 4, 3) := by decide +kernel
theorem dM_start_12 : decode cM_start 12 = .ok (.iconst 1, 1) := by decide +kernel
theorem dM_start_13 : decode cM_start 13 = .ok (.putfield 58, 3) := by decide +kernel
theorem dM_start_16 : decode cM_start 16 = .ok (.aload_n 0, 1) := by decide +kernel
theorem dM_start_17 : decode cM_start 17 = .ok (.getfield 58, 3) := by decide +kernel
theorem dM_start_20 : decode cM_start 20 = .ok (.ifCond .le 5, 3) := by decide +kernel
theorem dM_start_23 : decode cM_start 23 = .ok (.iconst 0, 1) := by decide +kernel
theorem dM_start_24 : decode cM_start 24 = .ok (.ireturn, 1) := by decide +kernel
theorem dM_start_25 : decode cM_start 25 = .ok (.aload_n 0, 1) := by decide +kernel
theorem dM_start_26 : decode cM_start 26 = .ok (.iconst 0, 1) := by decide +kernel
theorem dM_start_27 : decode cM_start 27 = .ok (.putfield 80, 3) := by decide +kernel
theorem dM_start_30 : decode cM_start 30 = .ok (.aload_n 0, 1) := by decide +kernel
theorem dM_start_31 : decode cM_start 31 = .ok (.iconst (-1), 1) := by decide +kernel
theorem dM_start_32 : decode cM_start 32 = .ok (.putfield 23, 3) := by decide +kernel
theorem dM_start_35 : decode cM_start 35 = .ok (.aload_n 0, 1) := by decide +kernel
theorem dM_start_36 : decode cM_start 36 = .ok (.getfield 26, 3) := by decide +kernel
theorem dM_start_39 : decode cM_start 39 = .ok (.iconst 0, 1) := by decide +kernel
theorem dM_start_40 : decode cM_start 40 = .ok (.iaload, 1) := by decide +kernel
theorem dM_start_41 : decode cM_start 41 = .ok (.aload_n 0, 1) := by decide +kernel
theorem dM_start_42 : decode cM_start 42 = .ok (.getfield 26, 3) := by decide +kernel
theorem dM_start_45 : decode cM_start 45 = .ok (.iconst 1, 1) := by decide +kernel
theorem dM_start_46 : decode cM_start 46 = .ok (.iaload, 1) := by decide +kernel
theorem dM_start_47 : decode cM_start 47 = .ok (.iadd, 1) := by decide +kernel
theorem dM_start_48 : decode cM_start 48 = .ok (.istore_n 1, 1) := by decide +kernel
theorem dM_start_49 : decode cM_start 49 = .ok (.aload_n 0, 1) := by decide +kernel
theorem dM_start_50 : decode cM_start 50 = .ok (.getfield 16, 3) := by decide +kernel
theorem dM_start_53 : decode cM_start 53 = .ok (.iconst (-1), 1) := by decide +kernel
theorem dM_start_54 : decode cM_start 54 = .ok (.if_icmp .eq 42, 3) := by decide +kernel
theorem dM_start_57 : decode cM_start 57 = .ok (.iconst 0, 1) := by decide +kernel
theorem dM_start_58 : decode cM_start 58 = .ok (.istore_n 2, 1) := by decide +kernel
theorem dM_start_59 : decode cM_start 59 = .ok (.iload_n 2, 1) := by decide +kernel
theorem dM_start_60 : decode cM_start 60 = .ok (.bipush 8, 2) := by decide +kernel
theorem dM_start_62 : decode cM_start 62 = .ok (.if_icmp .ge 21, 3) := by decide +kernel
theorem dM_start_65 : decode cM_start 65 = .ok (.aload_n 0, 1) := by decide +kernel
theorem dM_start_66 : decode cM_start 66 = .ok (.getfield 47, 3) := by decide +kernel
theorem dM_start_69 : decode cM_start 69 = .ok (.iload_n 2, 1) := by decide +kernel
theorem dM_start_70 : decode cM_start 70 = .ok (.aload_n 0, 1) := by decide +kernel
theorem dM_start_71 : decode cM_start 71 = .ok (.getfield 20, 3) := by decide +kernel
theorem dM_start_74 : decode cM_start 74 = .ok (.iload_n 2, 1) := by decide +kernel
theorem dM_start_75 : decode cM_start 75 = .ok (.iaload, 1) := by decide +kernel
theorem dM_start_76 : decode cM_start 76 = .ok (.iastore, 1) := by decide +kernel
theorem dM_start_77 : decode cM_start 77 = .ok (.iinc 2 1, 3) := by decide +kernel
theorem dM_start_80 : decode cM_start 80 = .ok (.goto (-21), 3) := by decide +kernel
theorem dM_start_83 : decode cM_start 83 = .ok (.aload_n 0, 1) := by decide +kernel
theorem dM_start_84 : decode cM_start 84 = .ok (.aload_n 0, 1) := by decide +kernel
theorem dM_start_85 : decode cM_start 85 = .ok (.getfield 16, 3) := by decide +kernel
theorem dM_start_88 : decode cM_start 88 = .ok (.aload_n 0, 1) := by decide +kernel
theorem dM_start_89 : decode cM_start 89 = .ok (.getfield 105, 3) := by decide +kernel
theorem dM_start_92 : decode cM_start 92 = .ok (.invokevirtual 126, 3) := by decide +kernel
theorem dM_start_95 : decode cM_start 95 = .ok (.istore_n 2, 1) := by decide +kernel
theorem dM_start_96 : decode cM_start 96 = .ok (.aload_n 0, 1) := by decide +kernel
theorem dM_start_97 : decode cM_start 97 = .ok (.getfield 26, 3) := by decide +kernel
theorem dM_start_100 : decode cM_start 100 = .ok (.iconst 0, 1) := by decide +kernel
theorem dM_start_101 : decode cM_start 101 = .ok (.iaload, 1) := by decide +kernel
theorem dM_start_102 : decode cM_start 102 = .ok (.aload_n 0, 1) := by decide +kernel
theorem dM_start_103 : decode cM_start 103 = .ok (.getfield 26, 3) := by decide +kernel
theorem dM_start_106 : decode cM_start 106 = .ok (.iconst 1, 1) := by decide +kernel
theorem dM_start_107 : decode cM_start 107 = .ok (.iaload, 1) := by decide +kernel
theorem dM_start_108 : decode cM_start 108 = .ok (.iadd, 1) := by decide +kernel
theorem dM_start_109 : decode cM_start 109 = .ok (.iload_n 1, 1) := by decide +kernel
theorem dM_start_110 : decode cM_start 110 = .ok (.isub, 1) := by decide +kernel
theorem dM_start_111 : decode cM_start 111 = .ok (.ireturn, 1) := by decide +kernel
theorem dM_scrub_0 : decode cM_scrub 0 = .ok (.aload_n 0, 1) := by decide +kernel
theorem dM_scrub_1 : decode cM_scrub 1 = .ok (.aload_n 0, 1) := by decide +kernel
theorem dM_scrub_2 : decode cM_scrub 2 = .ok (.getfield 80, 3) := by decide +kernel
theorem dM_scrub_5 : decode cM_scrub 5 = .ok (.ifCond .eq 7, 3) := by decide +kernel
theorem dM_scrub_8 : decode cM_scrub 8 = .ok (.iconst 1, 1) := by decide +kernel
theorem dM_scrub_9 : decode cM_scrub 9 = .ok (.goto 18, 3) := by decide +kernel
theorem dM_scrub_12 : decode cM_scrub 12 = .ok (.iload_n 1, 1) := by decide +kernel
theorem dM_scrub_13 : decode cM_scrub 13 = .ok (.ifCond .lt 9, 3) := by decide +kernel
theorem dM_scrub_16 : decode cM_scrub 16 = .ok (.iload_n 1, 1) := by decide +kernel
theorem dM_scrub_17 : decode cM_scrub 17 = .ok (.bipush 64, 2) := by decide +kernel
theorem dM_scrub_19 : decode cM_scrub 19 = .ok (.if_icmp .le 7, 3) := by decide +kernel
theorem dM_scrub_22 : decode cM_scrub 22 = .ok (.iconst 2, 1) := by decide +kernel
theorem dM_scrub_23 : decode cM_scrub 23 = .ok (.goto 4, 3) := by decide +kernel
theorem dM_scrub_26 : decode cM_scrub 26 = .ok (.iconst 0, 1) := by decide +kernel
theorem dM_scrub_27 : decode cM_scrub 27 = .ok (.putfield 58, 3) := by decide +kernel
theorem dM_scrub_30 : decode cM_scrub 30 = .ok (.aload_n 0, 1) := by decide +kernel
theorem dM_scrub_31 : decode cM_scrub 31 = .ok (.iconst 0, 1) := by decide +kernel
theorem dM_scrub_32 : decode cM_scrub 32 = .ok (.putfield 129, 3) := by decide +kernel
theorem dM_scrub_35 : decode cM_scrub 35 = .ok (.iconst 0, 1) := by decide +kernel
theorem dM_scrub_36 : decode cM_scrub 36 = .ok (.istore_n 2, 1) := by decide +kernel
theorem dM_scrub_37 : decode cM_scrub 37 = .ok (.iload_n 2, 1) := by decide +kernel
theorem dM_scrub_38 : decode cM_scrub 38 = .ok (.iload_n 1, 1) := by decide +kernel
theorem dM_scrub_39 : decode cM_scrub 39 = .ok (.if_icmp .ge 47, 3) := by decide +kernel
theorem dM_scrub_42 : decode cM_scrub 42 = .ok (.aload_n 0, 1) := by decide +kernel
theorem dM_scrub_43 : decode cM_scrub 43 = .ok (.getfield 58, 3) := by decide +kernel
theorem dM_scrub_46 : decode cM_scrub 46 = .ok (.ifCond .ne 40, 3) := by decide +kernel
theorem dM_scrub_49 : decode cM_scrub 49 = .ok (.aload_n 0, 1) := by decide +kernel
theorem dM_scrub_50 : decode cM_scrub 50 = .ok (.getfield 80, 3) := by decide +kernel
theorem dM_scrub_53 : decode cM_scrub 53 = .ok (.ifCond .ne 33, 3) := by decide +kernel
theorem dM_scrub_56 : decode cM_scrub 56 = .ok (.aload_n 0, 1) := by decide +kernel
theorem dM_scrub_57 : decode cM_scrub 57 = .ok (.aload_n 0, 1) := by decide +kernel
theorem dM_scrub_58 : decode cM_scrub 58 = .ok (.getfield 139, 3) := by decide +kernel
theorem dM_scrub_61 : decode cM_scrub 61 = .ok (.invokevirtual 142, 3) := by decide +kernel
theorem dM_scrub_64 : decode cM_scrub 64 = .ok (.ifCond .eq 16, 3) := by decide +kernel
theorem dM_scrub_67 : decode cM_scrub 67 = .ok (.aload_n 0, 1) := by decide +kernel
theorem dM_scrub_68 : decode cM_scrub 68 = .ok (.aload_n 0, 1) := by decide +kernel
theorem dM_scrub_69 : decode cM_scrub 69 = .ok (.getfield 139, 3) := by decide +kernel
theorem dM_scrub_72 : decode cM_scrub 72 = .ok (.iconst 1, 1) := by decide +kernel
theorem dM_scrub_73 : decode cM_scrub 73 = .ok (.iadd, 1) := by decide +kernel
theorem dM_scrub_74 : decode cM_scrub 74 = .ok (.bipush 64, 2) := by decide +kernel
theorem dM_scrub_76 : decode cM_scrub 76 = .ok (.irem, 1) := by decide +kernel
theorem dM_scrub_77 : decode cM_scrub 77 = .ok (.putfield 139, 3) := by decide +kernel
theorem dM_scrub_80 : decode cM_scrub 80 = .ok (.iinc 2 1, 3) := by decide +kernel
theorem dM_scrub_83 : decode cM_scrub 83 = .ok (.goto (-46), 3) := by decide +kernel
theorem dM_scrub_86 : decode cM_scrub 86 = .ok (.aload_n 0, 1) := by decide +kernel
theorem dM_scrub_87 : decode cM_scrub 87 = .ok (.getfield 129, 3) := by decide +kernel
theorem dM_scrub_90 : decode cM_scrub 90 = .ok (.ireturn, 1) := by decide +kernel
theorem dM_scrubOf_0 : decode cM_scrubOf 0 = .ok (.iload_n 1, 1) := by decide +kernel
theorem dM_scrubOf_1 : decode cM_scrubOf 1 = .ok (.bipush 8, 2) := by decide +kernel
theorem dM_scrubOf_3 : decode cM_scrubOf 3 = .ok (.idiv, 1) := by decide +kernel
theorem dM_scrubOf_4 : decode cM_scrubOf 4 = .ok (.istore_n 2, 1) := by decide +kernel
theorem dM_scrubOf_5 : decode cM_scrubOf 5 = .ok (.iconst 0, 1) := by decide +kernel
theorem dM_scrubOf_6 : decode cM_scrubOf 6 = .ok (.istore_n 3, 1) := by decide +kernel
theorem dM_scrubOf_7 : decode cM_scrubOf 7 = .ok (.iload_n 3, 1) := by decide +kernel
theorem dM_scrubOf_8 : decode cM_scrubOf 8 = .ok (.iconst 2, 1) := by decide +kernel
theorem dM_scrubOf_9 : decode cM_scrubOf 9 = .ok (.if_icmp .ge 74, 3) := by decide +kernel
theorem dM_scrubOf_12 : decode cM_scrubOf 12 = .ok (.aload_n 0, 1) := by decide +kernel
theorem dM_scrubOf_13 : decode cM_scrubOf 13 = .ok (.iconst 1, 1) := by decide +kernel
theorem dM_scrubOf_14 : decode cM_scrubOf 14 = .ok (.iload_n 3, 1) := by decide +kernel
theorem dM_scrubOf_15 : decode cM_scrubOf 15 = .ok (.isub, 1) := by decide +kernel
theorem dM_scrubOf_16 : decode cM_scrubOf 16 = .ok (.iload_n 2, 1) := by decide +kernel
theorem dM_scrubOf_17 : decode cM_scrubOf 17 = .ok (.invokevirtual 68, 3) := by decide +kernel
theorem dM_scrubOf_20 : decode cM_scrubOf 20 = .ok (.ifCond .ne 57, 3) := by decide +kernel
theorem dM_scrubOf_23 : decode cM_scrubOf 23 = .ok (.aload_n 0, 1) := by decide +kernel
theorem dM_scrubOf_24 : decode cM_scrubOf 24 = .ok (.iload_n 3, 1) := by decide +kernel
theorem dM_scrubOf_25 : decode cM_scrubOf 25 = .ok (.iload_n 2, 1) := by decide +kernel
theorem dM_scrubOf_26 : decode cM_scrubOf 26 = .ok (.invokevirtual 68, 3) := by decide +kernel
theorem dM_scrubOf_29 : decode cM_scrubOf 29 = .ok (.ifCond .eq 48, 3) := by decide +kernel
theorem dM_scrubOf_32 : decode cM_scrubOf 32 = .ok (.aload_n 0, 1) := by decide +kernel
theorem dM_scrubOf_33 : decode cM_scrubOf 33 = .ok (.iload_n 1, 1) := by decide +kernel
theorem dM_scrubOf_34 : decode cM_scrubOf 34 = .ok (.iconst 1, 1) := by decide +kernel
theorem dM_scrubOf_35 : decode cM_scrubOf 35 = .ok (.iload_n 3, 1) := by decide +kernel
theorem dM_scrubOf_36 : decode cM_scrubOf 36 = .ok (.isub, 1) := by decide +kernel
theorem dM_scrubOf_37 : decode cM_scrubOf 37 = .ok (.bipush 6, 2) := by decide +kernel
theorem dM_scrubOf_39 : decode cM_scrubOf 39 = .ok (.aload_n 0, 1) := by decide +kernel
theorem dM_scrubOf_40 : decode cM_scrubOf 40 = .ok (.getfield 7, 3) := by decide +kernel
theorem dM_scrubOf_43 : decode cM_scrubOf 43 = .ok (.iconst 1, 1) := by decide +kernel
theorem dM_scrubOf_44 : decode cM_scrubOf 44 = .ok (.iload_n 3, 1) := by decide +kernel
theorem dM_scrubOf_45 : decode cM_scrubOf 45 = .ok (.isub, 1) := by decide +kernel
theorem dM_scrubOf_46 : decode cM_scrubOf 46 = .ok (.bipush 64, 2) := by decide +kernel
theorem dM_scrubOf_48 : decode cM_scrubOf 48 = .ok (.iload_n 2, 1) := by decide +kernel
theorem dM_scrubOf_49 : decode cM_scrubOf 49 = .ok (.iadd, 1) := by decide +kernel
theorem dM_scrubOf_50 : decode cM_scrubOf 50 = .ok (.invokestatic 50, 3) := by decide +kernel
theorem dM_scrubOf_53 : decode cM_scrubOf 53 = .ok (.bipush 9, 2) := by decide +kernel
theorem dM_scrubOf_55 : decode cM_scrubOf 55 = .ok (.iadd, 1) := by decide +kernel
theorem dM_scrubOf_56 : decode cM_scrubOf 56 = .ok (.iaload, 1) := by decide +kernel
theorem dM_scrubOf_57 : decode cM_scrubOf 57 = .ok (.invokevirtual 135, 3) := by decide +kernel
theorem dM_scrubOf_60 : decode cM_scrubOf 60 = .ok (.aload_n 0, 1) := by decide +kernel
theorem dM_scrubOf_61 : decode cM_scrubOf 61 = .ok (.iload_n 3, 1) := by decide +kernel
theorem dM_scrubOf_62 : decode cM_scrubOf 62 = .ok (.iload_n 1, 1) := by decide +kernel
theorem dM_scrubOf_63 : decode cM_scrubOf 63 = .ok (.aload_n 0, 1) := by decide +kernel
theorem dM_scrubOf_64 : decode cM_scrubOf 64 = .ok (.iload_n 3, 1) := by decide +kernel
theorem dM_scrubOf_65 : decode cM_scrubOf 65 = .ok (.iload_n 1, 1) := by decide +kernel
theorem dM_scrubOf_66 : decode cM_scrubOf 66 = .ok (.invokevirtual 71, 3) := by decide +kernel
theorem dM_scrubOf_69 : decode cM_scrubOf 69 = .ok (.invokevirtual 102, 3) := by decide +kernel
theorem dM_scrubOf_72 : decode cM_scrubOf 72 = .ok (.ifCond .ne 5, 3) := by decide +kernel
theorem dM_scrubOf_75 : decode cM_scrubOf 75 = .ok (.iconst 0, 1) := by decide +kernel
theorem dM_scrubOf_76 : decode cM_scrubOf 76 = .ok (.ireturn, 1) := by decide +kernel
theorem dM_scrubOf_77 : decode cM_scrubOf 77 = .ok (.iinc 3 1, 3) := by decide +kernel
theorem dM_scrubOf_80 : decode cM_scrubOf 80 = .ok (.goto (-73), 3) := by decide +kernel
theorem dM_scrubOf_83 : decode cM_scrubOf 83 = .ok (.aload_n 0, 1) := by decide +kernel
theorem dM_scrubOf_84 : decode cM_scrubOf 84 = .ok (.iconst 0, 1) := by decide +kernel
theorem dM_scrubOf_85 : decode cM_scrubOf 85 = .ok (.iload_n 1, 1) := by decide +kernel
theorem dM_scrubOf_86 : decode cM_scrubOf 86 = .ok (.invokevirtual 111, 3) := by decide +kernel
theorem dM_scrubOf_89 : decode cM_scrubOf 89 = .ok (.istore_n 3, 1) := by decide +kernel
theorem dM_scrubOf_90 : decode cM_scrubOf 90 = .ok (.aload_n 0, 1) := by decide +kernel
theorem dM_scrubOf_91 : decode cM_scrubOf 91 = .ok (.iconst 1, 1) := by decide +kernel
theorem dM_scrubOf_92 : decode cM_scrubOf 92 = .ok (.iload_n 1, 1) := by decide +kernel
theorem dM_scrubOf_93 : decode cM_scrubOf 93 = .ok (.invokevirtual 111, 3) := by decide +kernel
theorem dM_scrubOf_96 : decode cM_scrubOf 96 = .ok (.istore 4, 2) := by decide +kernel
theorem dM_scrubOf_98 : decode cM_scrubOf 98 = .ok (.iload_n 3, 1) := by decide +kernel
theorem dM_scrubOf_99 : decode cM_scrubOf 99 = .ok (.ifCond .eq 19, 3) := by decide +kernel
theorem dM_scrubOf_102 : decode cM_scrubOf 102 = .ok (.iload 4, 2) := by decide +kernel
theorem dM_scrubOf_104 : decode cM_scrubOf 104 = .ok (.ifCond .eq 14, 3) := by decide +kernel
theorem dM_scrubOf_107 : decode cM_scrubOf 107 = .ok (.aload_n 0, 1) := by decide +kernel
theorem dM_scrubOf_108 : decode cM_scrubOf 108 = .ok (.iload_n 1, 1) := by decide +kernel
theorem dM_scrubOf_109 : decode cM_scrubOf 109 = .ok (.iconst (-1), 1) := by decide +kernel
theorem dM_scrubOf_110 : decode cM_scrubOf 110 = .ok (.bipush 7, 2) := by decide +kernel
theorem dM_scrubOf_112 : decode cM_scrubOf 112 = .ok (.iconst (-1), 1) := by decide +kernel
theorem dM_scrubOf_113 : decode cM_scrubOf 113 = .ok (.invokevirtual 135, 3) := by decide +kernel
theorem dM_scrubOf_116 : decode cM_scrubOf 116 = .ok (.iconst 1, 1) := by decide +kernel
theorem dM_scrubOf_117 : decode cM_scrubOf 117 = .ok (.ireturn, 1) := by decide +kernel
theorem dM_scrubOf_118 : decode cM_scrubOf 118 = .ok (.iload_n 3, 1) := by decide +kernel
theorem dM_scrubOf_119 : decode cM_scrubOf 119 = .ok (.ifCond .ne 10, 3) := by decide +kernel
theorem dM_scrubOf_122 : decode cM_scrubOf 122 = .ok (.iload 4, 2) := by decide +kernel
theorem dM_scrubOf_124 : decode cM_scrubOf 124 = .ok (.ifCond .ne 5, 3) := by decide +kernel
theorem dM_scrubOf_127 : decode cM_scrubOf 127 = .ok (.iconst 1, 1) := by decide +kernel
theorem dM_scrubOf_128 : decode cM_scrubOf 128 = .ok (.ireturn, 1) := by decide +kernel
theorem dM_scrubOf_129 : decode cM_scrubOf 129 = .ok (.iload_n 3, 1) := by decide +kernel
theorem dM_scrubOf_130 : decode cM_scrubOf 130 = .ok (.ifCond .ne 7, 3) := by decide +kernel
theorem dM_scrubOf_133 : decode cM_scrubOf 133 = .ok (.iconst 1, 1) := by decide +kernel
theorem dM_scrubOf_134 : decode cM_scrubOf 134 = .ok (.goto 4, 3) := by decide +kernel
theorem dM_scrubOf_137 : decode cM_scrubOf 137 = .ok (.iconst 0, 1) := by decide +kernel
theorem dM_scrubOf_138 : decode cM_scrubOf 138 = .ok (.istore 5, 2) := by decide +kernel
theorem dM_scrubOf_140 : decode cM_scrubOf 140 = .ok (.aload_n 0, 1) := by decide +kernel
theorem dM_scrubOf_141 : decode cM_scrubOf 141 = .ok (.iload_n 1, 1) := by decide +kernel
theorem dM_scrubOf_142 : decode cM_scrubOf 142 = .ok (.iload 5, 2) := by decide +kernel
theorem dM_scrubOf_144 : decode cM_scrubOf 144 = .ok (.iload 5, 2) := by decide +kernel
theorem dM_scrubOf_146 : decode cM_scrubOf 146 = .ok (.ifCond .ne 7, 3) := by decide +kernel
theorem dM_scrubOf_149 : decode cM_scrubOf 149 = .ok (.iload_n 3, 1) := by decide +kernel
theorem dM_scrubOf_150 : decode cM_scrubOf 150 = .ok (.goto 5, 3) := by decide +kernel
theorem dM_scrubOf_153 : decode cM_scrubOf 153 = .ok (.iload 4, 2) := by decide +kernel
theorem dM_scrubOf_155 : decode cM_scrubOf 155 = .ok (.aload_n 0, 1) := by decide +kernel
theorem dM_scrubOf_156 : decode cM_scrubOf 156 = .ok (.getfield 7, 3) := by decide +kernel
theorem dM_scrubOf_159 : decode cM_scrubOf 159 = .ok (.iload 5, 2) := by decide +kernel
theorem dM_scrubOf_161 : decode cM_scrubOf 161 = .ok (.iload_n 1, 1) := by decide +kernel
theorem dM_scrubOf_162 : decode cM_scrubOf 162 = .ok (.invokestatic 50, 3) := by decide +kernel
theorem dM_scrubOf_165 : decode cM_scrubOf 165 = .ok (.bipush 9, 2) := by decide +kernel
theorem dM_scrubOf_167 : decode cM_scrubOf 167 = .ok (.iadd, 1) := by decide +kernel
theorem dM_scrubOf_168 : decode cM_scrubOf 168 = .ok (.iaload, 1) := by decide +kernel
theorem dM_scrubOf_169 : decode cM_scrubOf 169 = .ok (.invokevirtual 135, 3) := by decide +kernel
theorem dM_scrubOf_172 : decode cM_scrubOf 172 = .ok (.aload_n 0, 1) := by decide +kernel
theorem dM_scrubOf_173 : decode cM_scrubOf 173 = .ok (.iconst 1, 1) := by decide +kernel
theorem dM_scrubOf_174 : decode cM_scrubOf 174 = .ok (.iload 5, 2) := by decide +kernel
theorem dM_scrubOf_176 : decode cM_scrubOf 176 = .ok (.isub, 1) := by decide +kernel
theorem dM_scrubOf_177 : decode cM_scrubOf 177 = .ok (.iload_n 1, 1) := by decide +kernel
theorem dM_scrubOf_178 : decode cM_scrubOf 178 = .ok (.invokevirtual 123, 3) := by decide +kernel
theorem dM_scrubOf_181 : decode cM_scrubOf 181 = .ok (.aload_n 0, 1) := by decide +kernel
theorem dM_scrubOf_182 : decode cM_scrubOf 182 = .ok (.iload 5, 2) := by decide +kernel
theorem dM_scrubOf_184 : decode cM_scrubOf 184 = .ok (.iload_n 1, 1) := by decide +kernel
theorem dM_scrubOf_185 : decode cM_scrubOf 185 = .ok (.aload_n 0, 1) := by decide +kernel
theorem dM_scrubOf_186 : decode cM_scrubOf 186 = .ok (.getfield 7, 3) := by decide +kernel
theorem dM_scrubOf_189 : decode cM_scrubOf 189 = .ok (.iconst 1, 1) := by decide +kernel
theorem dM_scrubOf_190 : decode cM_scrubOf 190 = .ok (.iload 5, 2) := by decide +kernel
theorem dM_scrubOf_192 : decode cM_scrubOf 192 = .ok (.isub, 1) := by decide +kernel
theorem dM_scrubOf_193 : decode cM_scrubOf 193 = .ok (.iload_n 1, 1) := by decide +kernel
theorem dM_scrubOf_194 : decode cM_scrubOf 194 = .ok (.invokestatic 50, 3) := by decide +kernel
theorem dM_scrubOf_197 : decode cM_scrubOf 197 = .ok (.bipush 10, 2) := by decide +kernel
theorem dM_scrubOf_199 : decode cM_scrubOf 199 = .ok (.iadd, 1) := by decide +kernel
theorem dM_scrubOf_200 : decode cM_scrubOf 200 = .ok (.iaload, 1) := by decide +kernel
theorem dM_scrubOf_201 : decode cM_scrubOf 201 = .ok (.invokevirtual 99, 3) := by decide +kernel
theorem dM_scrubOf_204 : decode cM_scrubOf 204 = .ok (.ireturn, 1) := by decide +kernel
theorem dM_find_0 : decode cM_find 0 = .ok (.aload_n 0, 1) := by decide +kernel
theorem dM_find_1 : decode cM_find 1 = .ok (.dup, 1) := by decide +kernel
theorem dM_find_2 : decode cM_find 2 = .ok (.getfield 129, 3) := by decide +kernel
theorem dM_find_5 : decode cM_find 5 = .ok (.iconst 1, 1) := by decide +kernel
theorem dM_find_6 : decode cM_find 6 = .ok (.iadd, 1) := by decide +kernel
theorem dM_find_7 : decode cM_find 7 = .ok (.putfield 129, 3) := by decide +kernel
theorem dM_find_10 : decode cM_find 10 = .ok (.aload_n 0, 1) := by decide +kernel
theorem dM_find_11 : decode cM_find 11 = .ok (.getfield 132, 3) := by decide +kernel
theorem dM_find_14 : decode cM_find 14 = .ok (.bipush 100, 2) := by decide +kernel
theorem dM_find_16 : decode cM_find 16 = .ok (.if_icmp .ge 68, 3) := by decide +kernel
theorem dM_find_19 : decode cM_find 19 = .ok (.aload_n 0, 1) := by decide +kernel
theorem dM_find_20 : decode cM_find 20 = .ok (.getfield 41, 3) := by decide +kernel
theorem dM_find_23 : decode cM_find 23 = .ok (.iconst 4, 1) := by decide +kernel
theorem dM_find_24 : decode cM_find 24 = .ok (.aload_n 0, 1) := by decide +kernel
theorem dM_find_25 : decode cM_find 25 = .ok (.getfield 132, 3) := by decide +kernel
theorem dM_find_28 : decode cM_find 28 = .ok (.imul, 1) := by decide +kernel
theorem dM_find_29 : decode cM_find 29 = .ok (.iload_n 1, 1) := by decide +kernel
theorem dM_find_30 : decode cM_find 30 = .ok (.iastore, 1) := by decide +kernel
theorem dM_find_31 : decode cM_find 31 = .ok (.aload_n 0, 1) := by decide +kernel
theorem dM_find_32 : decode cM_find 32 = .ok (.getfield 41, 3) := by decide +kernel
theorem dM_find_35 : decode cM_find 35 = .ok (.iconst 4, 1) := by decide +kernel
theorem dM_find_36 : decode cM_find 36 = .ok (.aload_n 0, 1) := by decide +kernel
theorem dM_find_37 : decode cM_find 37 = .ok (.getfield 132, 3) := by decide +kernel
theorem dM_find_40 : decode cM_find 40 = .ok (.imul, 1) := by decide +kernel
theorem dM_find_41 : decode cM_find 41 = .ok (.iconst 1, 1) := by decide +kernel
theorem dM_find_42 : decode cM_find 42 = .ok (.iadd, 1) := by decide +kernel
theorem dM_find_43 : decode cM_find 43 = .ok (.iload_n 2, 1) := by decide +kernel
theorem dM_find_44 : decode cM_find 44 = .ok (.iastore, 1) := by decide +kernel
theorem dM_find_45 : decode cM_find 45 = .ok (.aload_n 0, 1) := by decide +kernel
theorem dM_find_46 : decode cM_find 46 = .ok (.getfield 41, 3) := by decide +kernel
theorem dM_find_49 : decode cM_find 49 = .ok (.iconst 4, 1) := by decide +kernel
theorem dM_find_50 : decode cM_find 50 = .ok (.aload_n 0, 1) := by decide +kernel
theorem dM_find_51 : decode cM_find 51 = .ok (.getfield 132, 3) := by decide +kernel
theorem dM_find_54 : decode cM_find 54 = .ok (.imul, 1) := by decide +kernel
theorem dM_find_55 : decode cM_find 55 = .ok (.iconst 2, 1) := by decide +kernel
theorem dM_find_56 : decode cM_find 56 = .ok (.iadd, 1) := by decide +kernel
theorem dM_find_57 : decode cM_find 57 = .ok (.iload_n 3, 1) := by decide +kernel
theorem dM_find_58 : decode cM_find 58 = .ok (.iastore, 1) := by decide +kernel
theorem dM_find_59 : decode cM_find 59 = .ok (.aload_n 0, 1) := by decide +kernel
theorem dM_find_60 : decode cM_find 60 = .ok (.getfield 41, 3) := by decide +kernel
theorem dM_find_63 : decode cM_find 63 = .ok (.iconst 4, 1) := by decide +kernel
theorem dM_find_64 : decode cM_find 64 = .ok (.aload_n 0, 1) := by decide +kernel
theorem dM_find_65 : decode cM_find 65 = .ok (.getfield 132, 3) := by decide +kernel
theorem dM_find_68 : decode cM_find 68 = .ok (.imul, 1) := by decide +kernel
theorem dM_find_69 : decode cM_find 69 = .ok (.iconst 3, 1) := by decide +kernel
theorem dM_find_70 : decode cM_find 70 = .ok (.iadd, 1) := by decide +kernel
theorem dM_find_71 : decode cM_find 71 = .ok (.iload 4, 2) := by decide +kernel
theorem dM_find_73 : decode cM_find 73 = .ok (.iastore, 1) := by decide +kernel
theorem dM_find_74 : decode cM_find 74 = .ok (.aload_n 0, 1) := by decide +kernel
theorem dM_find_75 : decode cM_find 75 = .ok (.dup, 1) := by decide +kernel
theorem dM_find_76 : decode cM_find 76 = .ok (.getfield 132, 3) := by decide +kernel
theorem dM_find_79 : decode cM_find 79 = .ok (.iconst 1, 1) := by decide +kernel
theorem dM_find_80 : decode cM_find 80 = .ok (.iadd, 1) := by decide +kernel
theorem dM_find_81 : decode cM_find 81 = .ok (.putfield 132, 3) := by decide +kernel
theorem dM_find_84 : decode cM_find 84 = .ok (.return_, 1) := by decide +kernel
theorem dM_findings_0 : decode cM_findings 0 = .ok (.aload_n 0, 1) := by decide +kernel
theorem dM_findings_1 : decode cM_findings 1 = .ok (.iconst 0, 1) := by decide +kernel
theorem dM_findings_2 : decode cM_findings 2 = .ok (.putfield 58, 3) := by decide +kernel
theorem dM_findings_5 : decode cM_findings 5 = .ok (.aload_n 0, 1) := by decide +kernel
theorem dM_findings_6 : decode cM_findings 6 = .ok (.getfield 132, 3) := by decide +kernel
theorem dM_findings_9 : decode cM_findings 9 = .ok (.istore_n 2, 1) := by decide +kernel
theorem dM_findings_10 : decode cM_findings 10 = .ok (.aload_n 0, 1) := by decide +kernel
theorem dM_findings_11 : decode cM_findings 11 = .ok (.iload_n 1, 1) := by decide +kernel
theorem dM_findings_12 : decode cM_findings 12 = .ok (.ifCond .eq 7, 3) := by decide +kernel
theorem dM_findings_15 : decode cM_findings 15 = .ok (.iconst 0, 1) := by decide +kernel
theorem dM_findings_16 : decode cM_findings 16 = .ok (.goto 7, 3) := by decide +kernel
theorem dM_findings_19 : decode cM_findings 19 = .ok (.aload_n 0, 1) := by decide +kernel
theorem dM_findings_20 : decode cM_findings 20 = .ok (.getfield 132, 3) := by decide +kernel
theorem dM_findings_23 : decode cM_findings 23 = .ok (.putfield 132, 3) := by decide +kernel
theorem dM_findings_26 : decode cM_findings 26 = .ok (.iload_n 2, 1) := by decide +kernel
theorem dM_findings_27 : decode cM_findings 27 = .ok (.ireturn, 1) := by decide +kernel
theorem dM_finding_0 : decode cM_finding 0 = .ok (.aload_n 0, 1) := by decide +kernel
theorem dM_finding_1 : decode cM_finding 1 = .ok (.iload_n 1, 1) := by decide +kernel
theorem dM_finding_2 : decode cM_finding 2 = .ok (.aload_n 0, 1) := by decide +kernel
theorem dM_finding_3 : decode cM_finding 3 = .ok (.getfield 132, 3) := by decide +kernel
theorem dM_finding_6 : decode cM_finding 6 = .ok (.invokestatic 114, 3) := by decide +kernel
theorem dM_finding_9 : decode cM_finding 9 = .ok (.ifCond .eq 11, 3) := by decide +kernel
theorem dM_finding_12 : decode cM_finding 12 = .ok (.iload_n 2, 1) := by decide +kernel
theorem dM_finding_13 : decode cM_finding 13 = .ok (.iconst 4, 1) := by decide +kernel
theorem dM_finding_14 : decode cM_finding 14 = .ok (.invokestatic 114, 3) := by decide +kernel
theorem dM_finding_17 : decode cM_finding 17 = .ok (.ifCond .ne 7, 3) := by decide +kernel
theorem dM_finding_20 : decode cM_finding 20 = .ok (.iconst 1, 1) := by decide +kernel
theorem dM_finding_21 : decode cM_finding 21 = .ok (.goto 4, 3) := by decide +kernel
theorem dM_finding_24 : decode cM_finding 24 = .ok (.iconst 0, 1) := by decide +kernel
theorem dM_finding_25 : decode cM_finding 25 = .ok (.putfield 58, 3) := by decide +kernel
theorem dM_finding_28 : decode cM_finding 28 = .ok (.aload_n 0, 1) := by decide +kernel
theorem dM_finding_29 : decode cM_finding 29 = .ok (.getfield 58, 3) := by decide +kernel
theorem dM_finding_32 : decode cM_finding 32 = .ok (.ifCond .le 7, 3) := by decide +kernel
theorem dM_finding_35 : decode cM_finding 35 = .ok (.iconst 0, 1) := by decide +kernel
theorem dM_finding_36 : decode cM_finding 36 = .ok (.goto 13, 3) := by decide +kernel
theorem dM_finding_39 : decode cM_finding 39 = .ok (.aload_n 0, 1) := by decide +kernel
theorem dM_finding_40 : decode cM_finding 40 = .ok (.getfield 41, 3) := by decide +kernel
theorem dM_finding_43 : decode cM_finding 43 = .ok (.iconst 4, 1) := by decide +kernel
theorem dM_finding_44 : decode cM_finding 44 = .ok (.iload_n 1, 1) := by decide +kernel
theorem dM_finding_45 : decode cM_finding 45 = .ok (.imul, 1) := by decide +kernel
theorem dM_finding_46 : decode cM_finding 46 = .ok (.iload_n 2, 1) := by decide +kernel
theorem dM_finding_47 : decode cM_finding 47 = .ok (.iadd, 1) := by decide +kernel
theorem dM_finding_48 : decode cM_finding 48 = .ok (.iaload, 1) := by decide +kernel
theorem dM_finding_49 : decode cM_finding 49 = .ok (.ireturn, 1) := by decide +kernel
theorem dM_expected_0 : decode cM_expected 0 = .ok (.aload_n 0, 1) := by decide +kernel
theorem dM_expected_1 : decode cM_expected 1 = .ok (.iload_n 1, 1) := by decide +kernel
theorem dM_expected_2 : decode cM_expected 2 = .ok (.iconst 2, 1) := by decide +kernel
theorem dM_expected_3 : decode cM_expected 3 = .ok (.invokestatic 114, 3) := by decide +kernel
theorem dM_expected_6 : decode cM_expected 6 = .ok (.ifCond .eq 12, 3) := by decide +kernel
theorem dM_expected_9 : decode cM_expected 9 = .ok (.iload_n 2, 1) := by decide +kernel
theorem dM_expected_10 : decode cM_expected 10 = .ok (.bipush 64, 2) := by decide +kernel
theorem dM_expected_12 : decode cM_expected 12 = .ok (.invokestatic 114, 3) := by decide +kernel
theorem dM_expected_15 : decode cM_expected 15 = .ok (.ifCond .ne 7, 3) := by decide +kernel
theorem dM_expected_18 : decode cM_expected 18 = .ok (.iconst 1, 1) := by decide +kernel
theorem dM_expected_19 : decode cM_expected 19 = .ok (.goto 4, 3) := by decide +kernel
theorem dM_expected_22 : decode cM_expected 22 = .ok (.iconst 0, 1) := by decide +kernel
theorem dM_expected_23 : decode cM_expected 23 = .ok (.putfield 58, 3) := by decide +kernel
theorem dM_expected_26 : decode cM_expected 26 = .ok (.aload_n 0, 1) := by decide +kernel
theorem dM_expected_27 : decode cM_expected 27 = .ok (.getfield 58, 3) := by decide +kernel
theorem dM_expected_30 : decode cM_expected 30 = .ok (.ifCond .le 7, 3) := by decide +kernel
theorem dM_expected_33 : decode cM_expected 33 = .ok (.iconst 0, 1) := by decide +kernel
theorem dM_expected_34 : decode cM_expected 34 = .ok (.goto 9, 3) := by decide +kernel
theorem dM_expected_37 : decode cM_expected 37 = .ok (.aload_n 0, 1) := by decide +kernel
theorem dM_expected_38 : decode cM_expected 38 = .ok (.iload_n 1, 1) := by decide +kernel
theorem dM_expected_39 : decode cM_expected 39 = .ok (.iload_n 2, 1) := by decide +kernel
theorem dM_expected_40 : decode cM_expected 40 = .ok (.invokevirtual 77, 3) := by decide +kernel
theorem dM_expected_43 : decode cM_expected 43 = .ok (.ireturn, 1) := by decide +kernel
theorem dM_verdict_0 : decode cM_verdict 0 = .ok (.aload_n 0, 1) := by decide +kernel
theorem dM_verdict_1 : decode cM_verdict 1 = .ok (.iload_n 1, 1) := by decide +kernel
theorem dM_verdict_2 : decode cM_verdict 2 = .ok (.iconst 2, 1) := by decide +kernel
theorem dM_verdict_3 : decode cM_verdict 3 = .ok (.invokestatic 114, 3) := by decide +kernel
theorem dM_verdict_6 : decode cM_verdict 6 = .ok (.ifCond .eq 12, 3) := by decide +kernel
theorem dM_verdict_9 : decode cM_verdict 9 = .ok (.iload_n 2, 1) := by decide +kernel
theorem dM_verdict_10 : decode cM_verdict 10 = .ok (.bipush 64, 2) := by decide +kernel
theorem dM_verdict_12 : decode cM_verdict 12 = .ok (.invokestatic 114, 3) := by decide +kernel
theorem dM_verdict_15 : decode cM_verdict 15 = .ok (.ifCond .ne 7, 3) := by decide +kernel
theorem dM_verdict_18 : decode cM_verdict 18 = .ok (.iconst 1, 1) := by decide +kernel
theorem dM_verdict_19 : decode cM_verdict 19 = .ok (.goto 4, 3) := by decide +kernel
theorem dM_verdict_22 : decode cM_verdict 22 = .ok (.iconst 0, 1) := by decide +kernel
theorem dM_verdict_23 : decode cM_verdict 23 = .ok (.putfield 58, 3) := by decide +kernel
theorem dM_verdict_26 : decode cM_verdict 26 = .ok (.aload_n 0, 1) := by decide +kernel
theorem dM_verdict_27 : decode cM_verdict 27 = .ok (.getfield 58, 3) := by decide +kernel
theorem dM_verdict_30 : decode cM_verdict 30 = .ok (.ifCond .le 7, 3) := by decide +kernel
theorem dM_verdict_33 : decode cM_verdict 33 = .ok (.iconst 0, 1) := by decide +kernel
theorem dM_verdict_34 : decode cM_verdict 34 = .ok (.goto 9, 3) := by decide +kernel
theorem dM_verdict_37 : decode cM_verdict 37 = .ok (.aload_n 0, 1) := by decide +kernel
theorem dM_verdict_38 : decode cM_verdict 38 = .ok (.iload_n 1, 1) := by decide +kernel
theorem dM_verdict_39 : decode cM_verdict 39 = .ok (.iload_n 2, 1) := by decide +kernel
theorem dM_verdict_40 : decode cM_verdict 40 = .ok (.invokevirtual 111, 3) := by decide +kernel
theorem dM_verdict_43 : decode cM_verdict 43 = .ok (.ireturn, 1) := by decide +kernel
theorem dM_isRight_0 : decode cM_isRight 0 = .ok (.aload_n 0, 1) := by decide +kernel
theorem dM_isRight_1 : decode cM_isRight 1 = .ok (.iload_n 1, 1) := by decide +kernel
theorem dM_isRight_2 : decode cM_isRight 2 = .ok (.iconst 2, 1) := by decide +kernel
theorem dM_isRight_3 : decode cM_isRight 3 = .ok (.invokestatic 114, 3) := by decide +kernel
theorem dM_isRight_6 : decode cM_isRight 6 = .ok (.ifCond .eq 12, 3) := by decide +kernel
theorem dM_isRight_9 : decode cM_isRight 9 = .ok (.iload_n 2, 1) := by decide +kernel
theorem dM_isRight_10 : decode cM_isRight 10 = .ok (.bipush 8, 2) := by decide +kernel
theorem dM_isRight_12 : decode cM_isRight 12 = .ok (.invokestatic 114, 3) := by decide +kernel
theorem dM_isRight_15 : decode cM_isRight 15 = .ok (.ifCond .ne 7, 3) := by decide +kernel
theorem dM_isRight_18 : decode cM_isRight 18 = .ok (.iconst 1, 1) := by decide +kernel
theorem dM_isRight_19 : decode cM_isRight 19 = .ok (.goto 4, 3) := by decide +kernel
theorem dM_isRight_22 : decode cM_isRight 22 = .ok (.iconst 0, 1) := by decide +kernel
theorem dM_isRight_23 : decode cM_isRight 23 = .ok (.putfield 58, 3) := by decide +kernel
theorem dM_isRight_26 : decode cM_isRight 26 = .ok (.aload_n 0, 1) := by decide +kernel
theorem dM_isRight_27 : decode cM_isRight 27 = .ok (.getfield 58, 3) := by decide +kernel
theorem dM_isRight_30 : decode cM_isRight 30 = .ok (.ifCond .ne 16, 3) := by decide +kernel
theorem dM_isRight_33 : decode cM_isRight 33 = .ok (.aload_n 0, 1) := by decide +kernel
theorem dM_isRight_34 : decode cM_isRight 34 = .ok (.iload_n 1, 1) := by decide +kernel
theorem dM_isRight_35 : decode cM_isRight 35 = .ok (.iload_n 2, 1) := by decide +kernel
theorem dM_isRight_36 : decode cM_isRight 36 = .ok (.invokevirtual 68, 3) := by decide +kernel
theorem dM_isRight_39 : decode cM_isRight 39 = .ok (.ifCond .eq 7, 3) := by decide +kernel
theorem dM_isRight_42 : decode cM_isRight 42 = .ok (.iconst 1, 1) := by decide +kernel
theorem dM_isRight_43 : decode cM_isRight 43 = .ok (.goto 4, 3) := by decide +kernel
theorem dM_isRight_46 : decode cM_isRight 46 = .ok (.iconst 0, 1) := by decide +kernel
theorem dM_isRight_47 : decode cM_isRight 47 = .ok (.ireturn, 1) := by decide +kernel
theorem dM_raw_0 : decode cM_raw 0 = .ok (.aload_n 0, 1) := by decide +kernel
theorem dM_raw_1 : decode cM_raw 1 = .ok (.iload_n 1, 1) := by decide +kernel
theorem dM_raw_2 : decode cM_raw 2 = .ok (.iconst 2, 1) := by decide +kernel
theorem dM_raw_3 : decode cM_raw 3 = .ok (.invokestatic 114, 3) := by decide +kernel
theorem dM_raw_6 : decode cM_raw 6 = .ok (.ifCond .eq 21, 3) := by decide +kernel
theorem dM_raw_9 : decode cM_raw 9 = .ok (.iload_n 2, 1) := by decide +kernel
theorem dM_raw_10 : decode cM_raw 10 = .ok (.bipush 72, 2) := by decide +kernel
theorem dM_raw_12 : decode cM_raw 12 = .ok (.invokestatic 114, 3) := by decide +kernel
theorem dM_raw_15 : decode cM_raw 15 = .ok (.ifCond .eq 12, 3) := by decide +kernel
theorem dM_raw_18 : decode cM_raw 18 = .ok (.iload_n 3, 1) := by decide +kernel
theorem dM_raw_19 : decode cM_raw 19 = .ok (.bipush 11, 2) := by decide +kernel
theorem dM_raw_21 : decode cM_raw 21 = .ok (.invokestatic 114, 3) := by decide +kernel
theorem dM_raw_24 : decode cM_raw 24 = .ok (.ifCond .ne 7, 3) := by decide +kernel
theorem dM_raw_27 : decode cM_raw 27 = .ok (.iconst 1, 1) := by decide +kernel
theorem dM_raw_28 : decode cM_raw 28 = .ok (.goto 4, 3) := by decide +kernel
theorem dM_raw_31 : decode cM_raw 31 = .ok (.iconst 0, 1) := by decide +kernel
theorem dM_raw_32 : decode cM_raw 32 = .ok (.putfield 58, 3) := by decide +kernel
theorem dM_raw_35 : decode cM_raw 35 = .ok (.aload_n 0, 1) := by decide +kernel
theorem dM_raw_36 : decode cM_raw 36 = .ok (.getfield 58, 3) := by decide +kernel
theorem dM_raw_39 : decode cM_raw 39 = .ok (.ifCond .le 7, 3) := by decide +kernel
theorem dM_raw_42 : decode cM_raw 42 = .ok (.iconst 0, 1) := by decide +kernel
theorem dM_raw_43 : decode cM_raw 43 = .ok (.goto 15, 3) := by decide +kernel
theorem dM_raw_46 : decode cM_raw 46 = .ok (.aload_n 0, 1) := by decide +kernel
theorem dM_raw_47 : decode cM_raw 47 = .ok (.getfield 7, 3) := by decide +kernel
theorem dM_raw_50 : decode cM_raw 50 = .ok (.iload_n 1, 1) := by decide +kernel
theorem dM_raw_51 : decode cM_raw 51 = .ok (.iload_n 2, 1) := by decide +kernel
theorem dM_raw_52 : decode cM_raw 52 = .ok (.invokestatic 50, 3) := by decide +kernel
theorem dM_raw_55 : decode cM_raw 55 = .ok (.iload_n 3, 1) := by decide +kernel
theorem dM_raw_56 : decode cM_raw 56 = .ok (.iadd, 1) := by decide +kernel
theorem dM_raw_57 : decode cM_raw 57 = .ok (.iaload, 1) := by decide +kernel
theorem dM_raw_58 : decode cM_raw 58 = .ok (.ireturn, 1) := by decide +kernel
theorem dM_replace_0 : decode cM_replace 0 = .ok (.aload_n 0, 1) := by decide +kernel
theorem dM_replace_1 : decode cM_replace 1 = .ok (.iload_n 1, 1) := by decide +kernel
theorem dM_replace_2 : decode cM_replace 2 = .ok (.iconst 2, 1) := by decide +kernel
theorem dM_replace_3 : decode cM_replace 3 = .ok (.invokestatic 114, 3) := by decide +kernel
theorem dM_replace_6 : decode cM_replace 6 = .ok (.ifCond .ne 7, 3) := by decide +kernel
theorem dM_replace_9 : decode cM_replace 9 = .ok (.iconst 1, 1) := by decide +kernel
theorem dM_replace_10 : decode cM_replace 10 = .ok (.goto 15, 3) := by decide +kernel
theorem dM_replace_13 : decode cM_replace 13 = .ok (.aload_n 0, 1) := by decide +kernel
theorem dM_replace_14 : decode cM_replace 14 = .ok (.getfield 80, 3) := by decide +kernel
theorem dM_replace_17 : decode cM_replace 17 = .ok (.ifCond .eq 7, 3) := by decide +kernel
theorem dM_replace_20 : decode cM_replace 20 = .ok (.iconst 2, 1) := by decide +kernel
theorem dM_replace_21 : decode cM_replace 21 = .ok (.goto 4, 3) := by decide +kernel
theorem dM_replace_24 : decode cM_replace 24 = .ok (.iconst 0, 1) := by decide +kernel
theorem dM_replace_25 : decode cM_replace 25 = .ok (.putfield 58, 3) := by decide +kernel
theorem dM_replace_28 : decode cM_replace 28 = .ok (.aload_n 0, 1) := by decide +kernel
theorem dM_replace_29 : decode cM_replace 29 = .ok (.getfield 58, 3) := by decide +kernel
theorem dM_replace_32 : decode cM_replace 32 = .ok (.ifCond .le 4, 3) := by decide +kernel
theorem dM_replace_35 : decode cM_replace 35 = .ok (.return_, 1) := by decide +kernel
theorem dM_replace_36 : decode cM_replace 36 = .ok (.iconst 0, 1) := by decide +kernel
theorem dM_replace_37 : decode cM_replace 37 = .ok (.istore_n 2, 1) := by decide +kernel
theorem dM_replace_38 : decode cM_replace 38 = .ok (.iload_n 2, 1) := by decide +kernel
theorem dM_replace_39 : decode cM_replace 39 = .ok (.sipush 792, 3) := by decide +kernel
theorem dM_replace_42 : decode cM_replace 42 = .ok (.if_icmp .ge 22, 3) := by decide +kernel
theorem dM_replace_45 : decode cM_replace 45 = .ok (.aload_n 0, 1) := by decide +kernel
theorem dM_replace_46 : decode cM_replace 46 = .ok (.getfield 7, 3) := by decide +kernel
theorem dM_replace_49 : decode cM_replace 49 = .ok (.sipush 792, 3) := by decide +kernel
theorem dM_replace_52 : decode cM_replace 52 = .ok (.iload_n 1, 1) := by decide +kernel
theorem dM_replace_53 : decode cM_replace 53 = .ok (.imul, 1) := by decide +kernel
theorem dM_replace_54 : decode cM_replace 54 = .ok (.iload_n 2, 1) := by decide +kernel
theorem dM_replace_55 : decode cM_replace 55 = .ok (.iadd, 1) := by decide +kernel
theorem dM_replace_56 : decode cM_replace 56 = .ok (.iconst 0, 1) := by decide +kernel
theorem dM_replace_57 : decode cM_replace 57 = .ok (.iastore, 1) := by decide +kernel
theorem dM_replace_58 : decode cM_replace 58 = .ok (.iinc 2 1, 3) := by decide +kernel
theorem dM_replace_61 : decode cM_replace 61 = .ok (.goto (-23), 3) := by decide +kernel
theorem dM_replace_64 : decode cM_replace 64 = .ok (.aload_n 0, 1) := by decide +kernel
theorem dM_replace_65 : decode cM_replace 65 = .ok (.getfield 29, 3) := by decide +kernel
theorem dM_replace_68 : decode cM_replace 68 = .ok (.iload_n 1, 1) := by decide +kernel
theorem dM_replace_69 : decode cM_replace 69 = .ok (.iconst 0, 1) := by decide +kernel
theorem dM_replace_70 : decode cM_replace 70 = .ok (.iastore, 1) := by decide +kernel
theorem dM_replace_71 : decode cM_replace 71 = .ok (.return_, 1) := by decide +kernel
theorem dM_rebuild_0 : decode cM_rebuild 0 = .ok (.aload_n 0, 1) := by decide +kernel
theorem dM_rebuild_1 : decode cM_rebuild 1 = .ok (.iload_n 1, 1) := by decide +kernel
theorem dM_rebuild_2 : decode cM_rebuild 2 = .ok (.iconst 2, 1) := by decide +kernel
theorem dM_rebuild_3 : decode cM_rebuild 3 = .ok (.invokestatic 114, 3) := by decide +kernel
theorem dM_rebuild_6 : decode cM_rebuild 6 = .ok (.ifCond .ne 7, 3) := by decide +kernel
theorem dM_rebuild_9 : decode cM_rebuild 9 = .ok (.iconst 1, 1) := by decide +kernel
theorem dM_rebuild_10 : decode cM_rebuild 10 = .ok (.goto 15, 3) := by decide +kernel
theorem dM_rebuild_13 : decode cM_rebuild 13 = .ok (.aload_n 0, 1) := by decide +kernel
theorem dM_rebuild_14 : decode cM_rebuild 14 = .ok (.getfield 80, 3) := by decide +kernel
theorem dM_rebuild_17 : decode cM_rebuild 17 = .ok (.ifCond .eq 7, 3) := by decide +kernel
theorem dM_rebuild_20 : decode cM_rebuild 20 = .ok (.iconst 2, 1) := by decide +kernel
theorem dM_rebuild_21 : decode cM_rebuild 21 = .ok (.goto 4, 3) := by decide +kernel
theorem dM_rebuild_24 : decode cM_rebuild 24 = .ok (.iconst 0, 1) := by decide +kernel
theorem dM_rebuild_25 : decode cM_rebuild 25 = .ok (.putfield 58, 3) := by decide +kernel
theorem dM_rebuild_28 : decode cM_rebuild 28 = .ok (.iconst 0, 1) := by decide +kernel
theorem dM_rebuild_29 : decode cM_rebuild 29 = .ok (.istore_n 2, 1) := by decide +kernel
theorem dM_rebuild_30 : decode cM_rebuild 30 = .ok (.iconst 0, 1) := by decide +kernel
theorem dM_rebuild_31 : decode cM_rebuild 31 = .ok (.istore_n 3, 1) := by decide +kernel
theorem dM_rebuild_32 : decode cM_rebuild 32 = .ok (.iload_n 3, 1) := by decide +kernel
theorem dM_rebuild_33 : decode cM_rebuild 33 = .ok (.bipush 64, 2) := by decide +kernel
theorem dM_rebuild_35 : decode cM_rebuild 35 = .ok (.if_icmp .ge 104, 3) := by decide +kernel
theorem dM_rebuild_38 : decode cM_rebuild 38 = .ok (.aload_n 0, 1) := by decide +kernel
theorem dM_rebuild_39 : decode cM_rebuild 39 = .ok (.getfield 58, 3) := by decide +kernel
theorem dM_rebuild_42 : decode cM_rebuild 42 = .ok (.ifCond .ne 97, 3) := by decide +kernel
theorem dM_rebuild_45 : decode cM_rebuild 45 = .ok (.aload_n 0, 1) := by decide +kernel
theorem dM_rebuild_46 : decode cM_rebuild 46 = .ok (.iload_n 3, 1) := by decide +kernel
theorem dM_rebuild_47 : decode cM_rebuild 47 = .ok (.invokevirtual 117, 3) := by decide +kernel
theorem dM_rebuild_50 : decode cM_rebuild 50 = .ok (.istore 4, 2) := by decide +kernel
theorem dM_rebuild_52 : decode cM_rebuild 52 = .ok (.iload 4, 2) := by decide +kernel
theorem dM_rebuild_54 : decode cM_rebuild 54 = .ok (.iconst 2, 1) := by decide +kernel
theorem dM_rebuild_55 : decode cM_rebuild 55 = .ok (.if_icmp .ne 9, 3) := by decide +kernel
theorem dM_rebuild_58 : decode cM_rebuild 58 = .ok (.iinc 2 1, 3) := by decide +kernel
theorem dM_rebuild_61 : decode cM_rebuild 61 = .ok (.goto 72, 3) := by decide +kernel
theorem dM_rebuild_64 : decode cM_rebuild 64 = .ok (.aload_n 0, 1) := by decide +kernel
theorem dM_rebuild_65 : decode cM_rebuild 65 = .ok (.iload 4, 2) := by decide +kernel
theorem dM_rebuild_67 : decode cM_rebuild 67 = .ok (.iload_n 3, 1) := by decide +kernel
theorem dM_rebuild_68 : decode cM_rebuild 68 = .ok (.invokevirtual 123, 3) := by decide +kernel
theorem dM_rebuild_71 : decode cM_rebuild 71 = .ok (.aload_n 0, 1) := by decide +kernel
theorem dM_rebuild_72 : decode cM_rebuild 72 = .ok (.getfield 7, 3) := by decide +kernel
theorem dM_rebuild_75 : decode cM_rebuild 75 = .ok (.iload 4, 2) := by decide +kernel
theorem dM_rebuild_77 : decode cM_rebuild 77 = .ok (.iload_n 3, 1) := by decide +kernel
theorem dM_rebuild_78 : decode cM_rebuild 78 = .ok (.invokestatic 50, 3) := by decide +kernel
theorem dM_rebuild_81 : decode cM_rebuild 81 = .ok (.bipush 10, 2) := by decide +kernel
theorem dM_rebuild_83 : decode cM_rebuild 83 = .ok (.iadd, 1) := by decide +kernel
theorem dM_rebuild_84 : decode cM_rebuild 84 = .ok (.iaload, 1) := by decide +kernel
theorem dM_rebuild_85 : decode cM_rebuild 85 = .ok (.istore 5, 2) := by decide +kernel
theorem dM_rebuild_87 : decode cM_rebuild 87 = .ok (.aload_n 0, 1) := by decide +kernel
theorem dM_rebuild_88 : decode cM_rebuild 88 = .ok (.iload_n 1, 1) := by decide +kernel
theorem dM_rebuild_89 : decode cM_rebuild 89 = .ok (.iload_n 3, 1) := by decide +kernel
theorem dM_rebuild_90 : decode cM_rebuild 90 = .ok (.iload 5, 2) := by decide +kernel
theorem dM_rebuild_92 : decode cM_rebuild 92 = .ok (.invokevirtual 108, 3) := by decide +kernel
theorem dM_rebuild_95 : decode cM_rebuild 95 = .ok (.istore 6, 2) := by decide +kernel
theorem dM_rebuild_97 : decode cM_rebuild 97 = .ok (.iload 6, 2) := by decide +kernel
theorem dM_rebuild_99 : decode cM_rebuild 99 = .ok (.ifCond .eq 27, 3) := by decide +kernel
theorem dM_rebuild_102 : decode cM_rebuild 102 = .ok (.aload_n 0, 1) := by decide +kernel
theorem dM_rebuild_103 : decode cM_rebuild 103 = .ok (.iload_n 1, 1) := by decide +kernel
theorem dM_rebuild_104 : decode cM_rebuild 104 = .ok (.iload_n 3, 1) := by decide +kernel
theorem dM_rebuild_105 : decode cM_rebuild 105 = .ok (.bipush 8, 2) := by decide +kernel
theorem dM_rebuild_107 : decode cM_rebuild 107 = .ok (.idiv, 1) := by decide +kernel
theorem dM_rebuild_108 : decode cM_rebuild 108 = .ok (.invokevirtual 68, 3) := by decide +kernel
theorem dM_rebuild_111 : decode cM_rebuild 111 = .ok (.ifCond .ne 15, 3) := by decide +kernel
theorem dM_rebuild_114 : decode cM_rebuild 114 = .ok (.aload_n 0, 1) := by decide +kernel
theorem dM_rebuild_115 : decode cM_rebuild 115 = .ok (.iconst 1, 1) := by decide +kernel
theorem dM_rebuild_116 : decode cM_rebuild 116 = .ok (.iload_n 1, 1) := by decide +kernel
theorem dM_rebuild_117 : decode cM_rebuild 117 = .ok (.isub, 1) := by decide +kernel
theorem dM_rebuild_118 : decode cM_rebuild 118 = .ok (.iload_n 3, 1) := by decide +kernel
theorem dM_rebuild_119 : decode cM_rebuild 119 = .ok (.iload 5, 2) := by decide +kernel
theorem dM_rebuild_121 : decode cM_rebuild 121 = .ok (.invokevirtual 102, 3) := by decide +kernel
theorem dM_rebuild_124 : decode cM_rebuild 124 = .ok (.istore 6, 2) := by decide +kernel
theorem dM_rebuild_126 : decode cM_rebuild 126 = .ok (.iload 6, 2) := by decide +kernel
theorem dM_rebuild_128 : decode cM_rebuild 128 = .ok (.ifCond .ne 5, 3) := by decide +kernel
theorem dM_rebuild_131 : decode cM_rebuild 131 = .ok (.iconst (-1), 1) := by decide +kernel
theorem dM_rebuild_132 : decode cM_rebuild 132 = .ok (.ireturn, 1) := by decide +kernel
theorem dM_rebuild_133 : decode cM_rebuild 133 = .ok (.iinc 3 1, 3) := by decide +kernel
theorem dM_rebuild_136 : decode cM_rebuild 136 = .ok (.goto (-104), 3) := by decide +kernel
theorem dM_rebuild_139 : decode cM_rebuild 139 = .ok (.iload_n 2, 1) := by decide +kernel
theorem dM_rebuild_140 : decode cM_rebuild 140 = .ok (.ireturn, 1) := by decide +kernel
theorem dM_count_0 : decode cM_count 0 = .ok (.aload_n 0, 1) := by decide +kernel
theorem dM_count_1 : decode cM_count 1 = .ok (.iload_n 1, 1) := by decide +kernel
theorem dM_count_2 : decode cM_count 2 = .ok (.bipush 8, 2) := by decide +kernel
theorem dM_count_4 : decode cM_count 4 = .ok (.invokestatic 114, 3) := by decide +kernel
theorem dM_count_7 : decode cM_count 7 = .ok (.ifCond .eq 7, 3) := by decide +kernel
theorem dM_count_10 : decode cM_count 10 = .ok (.iconst 0, 1) := by decide +kernel
theorem dM_count_11 : decode cM_count 11 = .ok (.goto 4, 3) := by decide +kernel
theorem dM_count_14 : decode cM_count 14 = .ok (.iconst 1, 1) := by decide +kernel
theorem dM_count_15 : decode cM_count 15 = .ok (.putfield 58, 3) := by decide +kernel
theorem dM_count_18 : decode cM_count 18 = .ok (.aload_n 0, 1) := by decide +kernel
theorem dM_count_19 : decode cM_count 19 = .ok (.getfield 58, 3) := by decide +kernel
theorem dM_count_22 : decode cM_count 22 = .ok (.ifCond .le 5, 3) := by decide +kernel
theorem dM_count_25 : decode cM_count 25 = .ok (.iconst 0, 1) := by decide +kernel
theorem dM_count_26 : decode cM_count 26 = .ok (.ireturn, 1) := by decide +kernel
theorem dM_count_27 : decode cM_count 27 = .ok (.iload_n 1, 1) := by decide +kernel
theorem dM_count_28 : decode cM_count 28 = .ok (.iconst 4, 1) := by decide +kernel
theorem dM_count_29 : decode cM_count 29 = .ok (.if_icmp .ge 26, 3) := by decide +kernel
theorem dM_count_32 : decode cM_count 32 = .ok (.iload_n 1, 1) := by decide +kernel
theorem dM_count_33 : decode cM_count 33 = .ok (.iconst 2, 1) := by decide +kernel
theorem dM_count_34 : decode cM_count 34 = .ok (.if_icmp .ge 12, 3) := by decide +kernel
theorem dM_count_37 : decode cM_count 37 = .ok (.aload_n 0, 1) := by decide +kernel
theorem dM_count_38 : decode cM_count 38 = .ok (.getfield 26, 3) := by decide +kernel
theorem dM_count_41 : decode cM_count 41 = .ok (.iload_n 1, 1) := by decide +kernel
theorem dM_count_42 : decode cM_count 42 = .ok (.iaload, 1) := by decide +kernel
theorem dM_count_43 : decode cM_count 43 = .ok (.goto 11, 3) := by decide +kernel
theorem dM_count_46 : decode cM_count 46 = .ok (.aload_n 0, 1) := by decide +kernel
theorem dM_count_47 : decode cM_count 47 = .ok (.getfield 29, 3) := by decide +kernel
theorem dM_count_50 : decode cM_count 50 = .ok (.iload_n 1, 1) := by decide +kernel
theorem dM_count_51 : decode cM_count 51 = .ok (.iconst 2, 1) := by decide +kernel
theorem dM_count_52 : decode cM_count 52 = .ok (.isub, 1) := by decide +kernel
theorem dM_count_53 : decode cM_count 53 = .ok (.iaload, 1) := by decide +kernel
theorem dM_count_54 : decode cM_count 54 = .ok (.ireturn, 1) := by decide +kernel
theorem dM_count_55 : decode cM_count 55 = .ok (.iconst 0, 1) := by decide +kernel
theorem dM_count_56 : decode cM_count 56 = .ok (.istore_n 2, 1) := by decide +kernel
theorem dM_count_57 : decode cM_count 57 = .ok (.iconst 0, 1) := by decide +kernel
theorem dM_count_58 : decode cM_count 58 = .ok (.istore_n 3, 1) := by decide +kernel
theorem dM_count_59 : decode cM_count 59 = .ok (.iload_n 3, 1) := by decide +kernel
theorem dM_count_60 : decode cM_count 60 = .ok (.bipush 16, 2) := by decide +kernel
theorem dM_count_62 : decode cM_count 62 = .ok (.if_icmp .ge 30, 3) := by decide +kernel
theorem dM_count_65 : decode cM_count 65 = .ok (.aload_n 0, 1) := by decide +kernel
theorem dM_count_66 : decode cM_count 66 = .ok (.getfield 13, 3) := by decide +kernel
theorem dM_count_69 : decode cM_count 69 = .ok (.iload_n 3, 1) := by decide +kernel
theorem dM_count_70 : decode cM_count 70 = .ok (.iaload, 1) := by decide +kernel
theorem dM_count_71 : decode cM_count 71 = .ok (.iload_n 2, 1) := by decide +kernel
theorem dM_count_72 : decode cM_count 72 = .ok (.if_icmp .le 12, 3) := by decide +kernel
theorem dM_count_75 : decode cM_count 75 = .ok (.aload_n 0, 1) := by decide +kernel
theorem dM_count_76 : decode cM_count 76 = .ok (.getfield 13, 3) := by decide +kernel
theorem dM_count_79 : decode cM_count 79 = .ok (.iload_n 3, 1) := by decide +kernel
theorem dM_count_80 : decode cM_count 80 = .ok (.iaload, 1) := by decide +kernel
theorem dM_count_81 : decode cM_count 81 = .ok (.goto 4, 3) := by decide +kernel
theorem dM_count_84 : decode cM_count 84 = .ok (.iload_n 2, 1) := by decide +kernel
theorem dM_count_85 : decode cM_count 85 = .ok (.istore_n 2, 1) := by decide +kernel
theorem dM_count_86 : decode cM_count 86 = .ok (.iinc 3 1, 3) := by decide +kernel
theorem dM_count_89 : decode cM_count 89 = .ok (.goto (-30), 3) := by decide +kernel
theorem dM_count_92 : decode cM_count 92 = .ok (.iload_n 1, 1) := by decide +kernel
theorem dM_count_93 : decode cM_count 93 = .ok (.iconst 4, 1) := by decide +kernel
theorem dM_count_94 : decode cM_count 94 = .ok (.if_icmp .ne 18, 3) := by decide +kernel
theorem dM_count_97 : decode cM_count 97 = .ok (.aload_n 0, 1) := by decide +kernel
theorem dM_count_98 : decode cM_count 98 = .ok (.getfield 80, 3) := by decide +kernel
theorem dM_count_101 : decode cM_count 101 = .ok (.ifCond .eq 7, 3) := by decide +kernel
theorem dM_count_104 : decode cM_count 104 = .ok (.iconst 0, 1) := by decide +kernel
theorem dM_count_105 : decode cM_count 105 = .ok (.goto 33, 3) := by decide +kernel
theorem dM_count_108 : decode cM_count 108 = .ok (.iconst 1, 1) := by decide +kernel
theorem dM_count_109 : decode cM_count 109 = .ok (.goto 29, 3) := by decide +kernel
theorem dM_count_112 : decode cM_count 112 = .ok (.iload_n 1, 1) := by decide +kernel
theorem dM_count_113 : decode cM_count 113 = .ok (.iconst 5, 1) := by decide +kernel
theorem dM_count_114 : decode cM_count 114 = .ok (.if_icmp .ne 10, 3) := by decide +kernel
theorem dM_count_117 : decode cM_count 117 = .ok (.aload_n 0, 1) := by decide +kernel
theorem dM_count_118 : decode cM_count 118 = .ok (.getfield 16, 3) := by decide +kernel
theorem dM_count_121 : decode cM_count 121 = .ok (.goto 17, 3) := by decide +kernel
theorem dM_count_124 : decode cM_count 124 = .ok (.iload_n 1, 1) := by decide +kernel
theorem dM_count_125 : decode cM_count 125 = .ok (.bipush 6, 2) := by decide +kernel
theorem dM_count_127 : decode cM_count 127 = .ok (.if_icmp .ne 10, 3) := by decide +kernel
theorem dM_count_130 : decode cM_count 130 = .ok (.aload_n 0, 1) := by decide +kernel
theorem dM_count_131 : decode cM_count 131 = .ok (.getfield 139, 3) := by decide +kernel
theorem dM_count_134 : decode cM_count 134 = .ok (.goto 4, 3) := by decide +kernel
theorem dM_count_137 : decode cM_count 137 = .ok (.iload_n 2, 1) := by decide +kernel
theorem dM_count_138 : decode cM_count 138 = .ok (.ireturn, 1) := by decide +kernel
theorem dL_law_0 : decode cL_law 0 = .ok (.new 8, 3) := by decide +kernel
theorem dL_law_3 : decode cL_law 3 = .ok (.dup, 1) := by decide +kernel
theorem dL_law_4 : decode cL_law 4 = .ok (.invokespecial 66, 3) := by decide +kernel
theorem dL_law_7 : decode cL_law 7 = .ok (.astore_n 1, 1) := by decide +kernel
theorem dL_law_8 : decode cL_law 8 = .ok (.new 67, 3) := by decide +kernel
theorem dL_law_11 : decode cL_law 11 = .ok (.dup, 1) := by decide +kernel
theorem dL_law_12 : decode cL_law 12 = .ok (.invokespecial 69, 3) := by decide +kernel
theorem dL_law_15 : decode cL_law 15 = .ok (.astore_n 2, 1) := by decide +kernel
theorem dL_law_16 : decode cL_law 16 = .ok (.iconst 1, 1) := by decide +kernel
theorem dL_law_17 : decode cL_law 17 = .ok (.newarray .long, 2) := by decide +kernel
theorem dL_law_19 : decode cL_law 19 = .ok (.astore_n 3, 1) := by decide +kernel
theorem dL_law_20 : decode cL_law 20 = .ok (.iconst 0, 1) := by decide +kernel
theorem dL_law_21 : decode cL_law 21 = .ok (.istore 4, 2) := by decide +kernel
theorem dL_law_23 : decode cL_law 23 = .ok (.iload 4, 2) := by decide +kernel
theorem dL_law_25 : decode cL_law 25 = .ok (.aload_n 0, 1) := by decide +kernel
theorem dL_law_26 : decode cL_law 26 = .ok (.arraylength, 1) := by decide +kernel
theorem dL_law_27 : decode cL_law 27 = .ok (.iconst 5, 1) := by decide +kernel
theorem dL_law_28 : decode cL_law 28 = .ok (.isub, 1) := by decide +kernel
theorem dL_law_29 : decode cL_law 29 = .ok (.if_icmp .gt 1010, 3) := by decide +kernel
theorem dL_law_32 : decode cL_law 32 = .ok (.aload_n 0, 1) := by decide +kernel
theorem dL_law_33 : decode cL_law 33 = .ok (.iload 4, 2) := by decide +kernel
theorem dL_law_35 : decode cL_law 35 = .ok (.iaload, 1) := by decide +kernel
theorem dL_law_36 : decode cL_law 36 = .ok (.bipush 15, 2) := by decide +kernel
theorem dL_law_38 : decode cL_law 38 = .ok (.iand, 1) := by decide +kernel
theorem dL_law_39 : decode cL_law 39 = .ok (.tableswitch 994 0 15 #[77, 157, 225, 238, 310, 346, 390, 446, 487, 555, 623, 691, 766, 846, 882, 938], 77) := by decide +kernel
theorem dL_law_116 : decode cL_law 116 = .ok (.aload_n 1, 1) := by decide +kernel
theorem dL_law_117 : decode cL_law 117 = .ok (.aload_n 0, 1) := by decide +kernel
theorem dL_law_118 : decode cL_law 118 = .ok (.iload 4, 2) := by decide +kernel
theorem dL_law_120 : decode cL_law 120 = .ok (.iconst 1, 1) := by decide +kernel
theorem dL_law_121 : decode cL_law 121 = .ok (.iadd, 1) := by decide +kernel
theorem dL_law_122 : decode cL_law 122 = .ok (.iaload, 1) := by decide +kernel
theorem dL_law_123 : decode cL_law 123 = .ok (.aload_n 0, 1) := by decide +kernel
theorem dL_law_124 : decode cL_law 124 = .ok (.iload 4, 2) := by decide +kernel
theorem dL_law_126 : decode cL_law 126 = .ok (.iconst 2, 1) := by decide +kernel
theorem dL_law_127 : decode cL_law 127 = .ok (.iadd, 1) := by decide +kernel
theorem dL_law_128 : decode cL_law 128 = .ok (.iaload, 1) := by decide +kernel
theorem dL_law_129 : decode cL_law 129 = .ok (.aload_n 0, 1) := by decide +kernel
theorem dL_law_130 : decode cL_law 130 = .ok (.iload 4, 2) := by decide +kernel
theorem dL_law_132 : decode cL_law 132 = .ok (.iconst 3, 1) := by decide +kernel
theorem dL_law_133 : decode cL_law 133 = .ok (.iadd, 1) := by decide +kernel
theorem dL_law_134 : decode cL_law 134 = .ok (.iaload, 1) := by decide +kernel
theorem dL_law_135 : decode cL_law 135 = .ok (.aload_n 3, 1) := by decide +kernel
theorem dL_law_136 : decode cL_law 136 = .ok (.invokestatic 70, 3) := by decide +kernel
theorem dL_law_139 : decode cL_law 139 = .ok (.istore 5, 2) := by decide +kernel
theorem dL_law_141 : decode cL_law 141 = .ok (.aload_n 2, 1) := by decide +kernel
theorem dL_law_142 : decode cL_law 142 = .ok (.aload_n 0, 1) := by decide +kernel
theorem dL_law_143 : decode cL_law 143 = .ok (.iload 4, 2) := by decide +kernel
theorem dL_law_145 : decode cL_law 145 = .ok (.iconst 1, 1) := by decide +kernel
theorem dL_law_146 : decode cL_law 146 = .ok (.iadd, 1) := by decide +kernel
theorem dL_law_147 : decode cL_law 147 = .ok (.iaload, 1) := by decide +kernel
theorem dL_law_148 : decode cL_law 148 = .ok (.aload_n 0, 1) := by decide +kernel
theorem dL_law_149 : decode cL_law 149 = .ok (.iload 4, 2) := by decide +kernel
theorem dL_law_151 : decode cL_law 151 = .ok (.iconst 2, 1) := by decide +kernel
theorem dL_law_152 : decode cL_law 152 = .ok (.iadd, 1) := by decide +kernel
theorem dL_law_153 : decode cL_law 153 = .ok (.iaload, 1) := by decide +kernel
theorem dL_law_154 : decode cL_law 154 = .ok (.aload_n 0, 1) := by decide +kernel
theorem dL_law_155 : decode cL_law 155 = .ok (.iload 4, 2) := by decide +kernel
theorem dL_law_157 : decode cL_law 157 = .ok (.iconst 3, 1) := by decide +kernel
theorem dL_law_158 : decode cL_law 158 = .ok (.iadd, 1) := by decide +kernel
theorem dL_law_159 : decode cL_law 159 = .ok (.iaload, 1) := by decide +kernel
theorem dL_law_160 : decode cL_law 160 = .ok (.invokevirtual 75, 3) := by decide +kernel
theorem dL_law_163 : decode cL_law 163 = .ok (.istore 6, 2) := by decide +kernel
theorem dL_law_165 : decode cL_law 165 = .ok (.aload_n 2, 1) := by decide +kernel
theorem dL_law_166 : decode cL_law 166 = .ok (.invokevirtual 76, 3) := by decide +kernel
theorem dL_law_169 : decode cL_law 169 = .ok (.iload 5, 2) := by decide +kernel
theorem dL_law_171 : decode cL_law 171 = .ok (.if_icmp .eq 5, 3) := by decide +kernel
theorem dL_law_174 : decode cL_law 174 = .ok (.iconst 0, 1) := by decide +kernel
theorem dL_law_175 : decode cL_law 175 = .ok (.ireturn, 1) := by decide +kernel
theorem dL_law_176 : decode cL_law 176 = .ok (.iload 5, 2) := by decide +kernel
theorem dL_law_178 : decode cL_law 178 = .ok (.ifCond .ne 15, 3) := by decide +kernel
theorem dL_law_181 : decode cL_law 181 = .ok (.aload_n 3, 1) := by decide +kernel
theorem dL_law_182 : decode cL_law 182 = .ok (.iconst 0, 1) := by decide +kernel
theorem dL_law_183 : decode cL_law 183 = .ok (.laload, 1) := by decide +kernel
theorem dL_law_184 : decode cL_law 184 = .ok (.iload 6, 2) := by decide +kernel
theorem dL_law_186 : decode cL_law 186 = .ok (.i2l, 1) := by decide +kernel
theorem dL_law_187 : decode cL_law 187 = .ok (.lcmp, 1) := by decide +kernel
theorem dL_law_188 : decode cL_law 188 = .ok (.ifCond .eq 5, 3) := by decide +kernel
theorem dL_law_191 : decode cL_law 191 = .ok (.iconst 0, 1) := by decide +kernel
theorem dL_law_192 : decode cL_law 192 = .ok (.ireturn, 1) := by decide +kernel
theorem dL_law_193 : decode cL_law 193 = .ok (.goto 840, 3) := by decide +kernel
theorem dL_law_196 : decode cL_law 196 = .ok (.aload_n 1, 1) := by decide +kernel
theorem dL_law_197 : decode cL_law 197 = .ok (.aload_n 0, 1) := by decide +kernel
theorem dL_law_198 : decode cL_law 198 = .ok (.iload 4, 2) := by decide +kernel
theorem dL_law_200 : decode cL_law 200 = .ok (.iconst 1, 1) := by decide +kernel
theorem dL_law_201 : decode cL_law 201 = .ok (.iadd, 1) := by decide +kernel
theorem dL_law_202 : decode cL_law 202 = .ok (.iaload, 1) := by decide +kernel
theorem dL_law_203 : decode cL_law 203 = .ok (.aload_n 0, 1) := by decide +kernel
theorem dL_law_204 : decode cL_law 204 = .ok (.iload 4, 2) := by decide +kernel
theorem dL_law_206 : decode cL_law 206 = .ok (.iconst 2, 1) := by decide +kernel
theorem dL_law_207 : decode cL_law 207 = .ok (.iadd, 1) := by decide +kernel
theorem dL_law_208 : decode cL_law 208 = .ok (.iaload, 1) := by decide +kernel
theorem dL_law_209 : decode cL_law 209 = .ok (.aload_n 3, 1) := by decide +kernel
theorem dL_law_210 : decode cL_law 210 = .ok (.invokestatic 79, 3) := by decide +kernel
theorem dL_law_213 : decode cL_law 213 = .ok (.istore 5, 2) := by decide +kernel
theorem dL_law_215 : decode cL_law 215 = .ok (.aload_n 2, 1) := by decide +kernel
theorem dL_law_216 : decode cL_law 216 = .ok (.aload_n 0, 1) := by decide +kernel
theorem dL_law_217 : decode cL_law 217 = .ok (.iload 4, 2) := by decide +kernel
theorem dL_law_219 : decode cL_law 219 = .ok (.iconst 1, 1) := by decide +kernel
theorem dL_law_220 : decode cL_law 220 = .ok (.iadd, 1) := by decide +kernel
theorem dL_law_221 : decode cL_law 221 = .ok (.iaload, 1) := by decide +kernel
theorem dL_law_222 : decode cL_law 222 = .ok (.aload_n 0, 1) := by decide +kernel
theorem dL_law_223 : decode cL_law 223 = .ok (.iload 4, 2) := by decide +kernel
theorem dL_law_225 : decode cL_law 225 = .ok (.iconst 2, 1) := by decide +kernel
theorem dL_law_226 : decode cL_law 226 = .ok (.iadd, 1) := by decide +kernel
theorem dL_law_227 : decode cL_law 227 = .ok (.iaload, 1) := by decide +kernel
theorem dL_law_228 : decode cL_law 228 = .ok (.invokevirtual 82, 3) := by decide +kernel
theorem dL_law_231 : decode cL_law 231 = .ok (.istore 6, 2) := by decide +kernel
theorem dL_law_233 : decode cL_law 233 = .ok (.aload_n 2, 1) := by decide +kernel
theorem dL_law_234 : decode cL_law 234 = .ok (.invokevirtual 76, 3) := by decide +kernel
theorem dL_law_237 : decode cL_law 237 = .ok (.iload 5, 2) := by decide +kernel
theorem dL_law_239 : decode cL_law 239 = .ok (.if_icmp .eq 5, 3) := by decide +kernel
theorem dL_law_242 : decode cL_law 242 = .ok (.iconst 0, 1) := by decide +kernel
theorem dL_law_243 : decode cL_law 243 = .ok (.ireturn, 1) := by decide +kernel
theorem dL_law_244 : decode cL_law 244 = .ok (.iload 5, 2) := by decide +kernel
theorem dL_law_246 : decode cL_law 246 = .ok (.ifCond .ne 15, 3) := by decide +kernel
theorem dL_law_249 : decode cL_law 249 = .ok (.aload_n 3, 1) := by decide +kernel
theorem dL_law_250 : decode cL_law 250 = .ok (.iconst 0, 1) := by decide +kernel
theorem dL_law_251 : decode cL_law 251 = .ok (.laload, 1) := by decide +kernel
theorem dL_law_252 : decode cL_law 252 = .ok (.iload 6, 2) := by decide +kernel
theorem dL_law_254 : decode cL_law 254 = .ok (.i2l, 1) := by decide +kernel
theorem dL_law_255 : decode cL_law 255 = .ok (.lcmp, 1) := by decide +kernel
theorem dL_law_256 : decode cL_law 256 = .ok (.ifCond .eq 5, 3) := by decide +kernel
theorem dL_law_259 : decode cL_law 259 = .ok (.iconst 0, 1) := by decide +kernel
theorem dL_law_260 : decode cL_law 260 = .ok (.ireturn, 1) := by decide +kernel
theorem dL_law_261 : decode cL_law 261 = .ok (.goto 772, 3) := by decide +kernel
theorem dL_law_264 : decode cL_law 264 = .ok (.aload_n 1, 1) := by decide +kernel
theorem dL_law_265 : decode cL_law 265 = .ok (.invokevirtual 83, 3) := by decide +kernel
theorem dL_law_268 : decode cL_law 268 = .ok (.aload_n 2, 1) := by decide +kernel
theorem dL_law_269 : decode cL_law 269 = .ok (.invokevirtual 86, 3) := by decide +kernel
theorem dL_law_272 : decode cL_law 272 = .ok (.if_icmp .eq 761, 3) := by decide +kernel
theorem dL_law_275 : decode cL_law 275 = .ok (.iconst 0, 1) := by decide +kernel
theorem dL_law_276 : decode cL_law 276 = .ok (.ireturn, 1) := by decide +kernel
theorem dL_law_277 : decode cL_law 277 = .ok (.aload_n 1, 1) := by decide +kernel
theorem dL_law_278 : decode cL_law 278 = .ok (.aload_n 0, 1) := by decide +kernel
theorem dL_law_279 : decode cL_law 279 = .ok (.iload 4, 2) := by decide +kernel
theorem dL_law_281 : decode cL_law 281 = .ok (.iconst 1, 1) := by decide +kernel
theorem dL_law_282 : decode cL_law 282 = .ok (.iadd, 1) := by decide +kernel
theorem dL_law_283 : decode cL_law 283 = .ok (.iaload, 1) := by decide +kernel
theorem dL_law_284 : decode cL_law 284 = .ok (.aload_n 0, 1) := by decide +kernel
theorem dL_law_285 : decode cL_law 285 = .ok (.iload 4, 2) := by decide +kernel
theorem dL_law_287 : decode cL_law 287 = .ok (.iconst 2, 1) := by decide +kernel
theorem dL_law_288 : decode cL_law 288 = .ok (.iadd, 1) := by decide +kernel
theorem dL_law_289 : decode cL_law 289 = .ok (.iaload, 1) := by decide +kernel
theorem dL_law_290 : decode cL_law 290 = .ok (.aload_n 0, 1) := by decide +kernel
theorem dL_law_291 : decode cL_law 291 = .ok (.iload 4, 2) := by decide +kernel
theorem dL_law_293 : decode cL_law 293 = .ok (.iconst 3, 1) := by decide +kernel
theorem dL_law_294 : decode cL_law 294 = .ok (.iadd, 1) := by decide +kernel
theorem dL_law_295 : decode cL_law 295 = .ok (.iaload, 1) := by decide +kernel
theorem dL_law_296 : decode cL_law 296 = .ok (.aload_n 0, 1) := by decide +kernel
theorem dL_law_297 : decode cL_law 297 = .ok (.iload 4, 2) := by decide +kernel
theorem dL_law_299 : decode cL_law 299 = .ok (.iconst 4, 1) := by decide +kernel
theorem dL_law_300 : decode cL_law 300 = .ok (.iadd, 1) := by decide +kernel
theorem dL_law_301 : decode cL_law 301 = .ok (.iaload, 1) := by decide +kernel
theorem dL_law_302 : decode cL_law 302 = .ok (.invokestatic 87, 3) := by decide +kernel
theorem dL_law_305 : decode cL_law 305 = .ok (.istore 5, 2) := by decide +kernel
theorem dL_law_307 : decode cL_law 307 = .ok (.aload_n 2, 1) := by decide +kernel
theorem dL_law_308 : decode cL_law 308 = .ok (.aload_n 0, 1) := by decide +kernel
theorem dL_law_309 : decode cL_law 309 = .ok (.iload 4, 2) := by decide +kernel
theorem dL_law_311 : decode cL_law 311 = .ok (.iconst 1, 1) := by decide +kernel
theorem dL_law_312 : decode cL_law 312 = .ok (.iadd, 1) := by decide +kernel
theorem dL_law_313 : decode cL_law 313 = .ok (.iaload, 1) := by decide +kernel
theorem dL_law_314 : decode cL_law 314 = .ok (.aload_n 0, 1) := by decide +kernel
theorem dL_law_315 : decode cL_law 315 = .ok (.iload 4, 2) := by decide +kernel
theorem dL_law_317 : decode cL_law 317 = .ok (.iconst 2, 1) := by decide +kernel
theorem dL_law_318 : decode cL_law 318 = .ok (.iadd, 1) := by decide +kernel
theorem dL_law_319 : decode cL_law 319 = .ok (.iaload, 1) := by decide +kernel
theorem dL_law_320 : decode cL_law 320 = .ok (.aload_n 0, 1) := by decide +kernel
theorem dL_law_321 : decode cL_law 321 = .ok (.iload 4, 2) := by decide +kernel
theorem dL_law_323 : decode cL_law 323 = .ok (.iconst 3, 1) := by decide +kernel
theorem dL_law_324 : decode cL_law 324 = .ok (.iadd, 1) := by decide +kernel
theorem dL_law_325 : decode cL_law 325 = .ok (.iaload, 1) := by decide +kernel
theorem dL_law_326 : decode cL_law 326 = .ok (.aload_n 0, 1) := by decide +kernel
theorem dL_law_327 : decode cL_law 327 = .ok (.iload 4, 2) := by decide +kernel
theorem dL_law_329 : decode cL_law 329 = .ok (.iconst 4, 1) := by decide +kernel
theorem dL_law_330 : decode cL_law 330 = .ok (.iadd, 1) := by decide +kernel
theorem dL_law_331 : decode cL_law 331 = .ok (.iaload, 1) := by decide +kernel
theorem dL_law_332 : decode cL_law 332 = .ok (.invokevirtual 90, 3) := by decide +kernel
theorem dL_law_335 : decode cL_law 335 = .ok (.aload_n 2, 1) := by decide +kernel
theorem dL_law_336 : decode cL_law 336 = .ok (.invokevirtual 76, 3) := by decide +kernel
theorem dL_law_339 : decode cL_law 339 = .ok (.iload 5, 2) := by decide +kernel
theorem dL_law_341 : decode cL_law 341 = .ok (.if_icmp .eq 5, 3) := by decide +kernel
theorem dL_law_344 : decode cL_law 344 = .ok (.iconst 0, 1) := by decide +kernel
theorem dL_law_345 : decode cL_law 345 = .ok (.ireturn, 1) := by decide +kernel
theorem dL_law_346 : decode cL_law 346 = .ok (.goto 687, 3) := by decide +kernel
theorem dL_law_349 : decode cL_law 349 = .ok (.aload_n 1, 1) := by decide +kernel
theorem dL_law_350 : decode cL_law 350 = .ok (.aload_n 0, 1) := by decide +kernel
theorem dL_law_351 : decode cL_law 351 = .ok (.iload 4, 2) := by decide +kernel
theorem dL_law_353 : decode cL_law 353 = .ok (.iconst 1, 1) := by decide +kernel
theorem dL_law_354 : decode cL_law 354 = .ok (.iadd, 1) := by decide +kernel
theorem dL_law_355 : decode cL_law 355 = .ok (.iaload, 1) := by decide +kernel
theorem dL_law_356 : decode cL_law 356 = .ok (.invokestatic 91, 3) := by decide +kernel
theorem dL_law_359 : decode cL_law 359 = .ok (.istore 5, 2) := by decide +kernel
theorem dL_law_361 : decode cL_law 361 = .ok (.aload_n 2, 1) := by decide +kernel
theorem dL_law_362 : decode cL_law 362 = .ok (.aload_n 0, 1) := by decide +kernel
theorem dL_law_363 : decode cL_law 363 = .ok (.iload 4, 2) := by decide +kernel
theorem dL_law_365 : decode cL_law 365 = .ok (.iconst 1, 1) := by decide +kernel
theorem dL_law_366 : decode cL_law 366 = .ok (.iadd, 1) := by decide +kernel
theorem dL_law_367 : decode cL_law 367 = .ok (.iaload, 1) := by decide +kernel
theorem dL_law_368 : decode cL_law 368 = .ok (.invokevirtual 94, 3) := by decide +kernel
theorem dL_law_371 : decode cL_law 371 = .ok (.aload_n 2, 1) := by decide +kernel
theorem dL_law_372 : decode cL_law 372 = .ok (.invokevirtual 76, 3) := by decide +kernel
theorem dL_law_375 : decode cL_law 375 = .ok (.iload 5, 2) := by decide +kernel
theorem dL_law_377 : decode cL_law 377 = .ok (.if_icmp .eq 5, 3) := by decide +kernel
theorem dL_law_380 : decode cL_law 380 = .ok (.iconst 0, 1) := by decide +kernel
theorem dL_law_381 : decode cL_law 381 = .ok (.ireturn, 1) := by decide +kernel
theorem dL_law_382 : decode cL_law 382 = .ok (.goto 651, 3) := by decide +kernel
theorem dL_law_385 : decode cL_law 385 = .ok (.aload_n 1, 1) := by decide +kernel
theorem dL_law_386 : decode cL_law 386 = .ok (.aload_n 3, 1) := by decide +kernel
theorem dL_law_387 : decode cL_law 387 = .ok (.invokestatic 95, 3) := by decide +kernel
theorem dL_law_390 : decode cL_law 390 = .ok (.istore 5, 2) := by decide +kernel
theorem dL_law_392 : decode cL_law 392 = .ok (.aload_n 2, 1) := by decide +kernel
theorem dL_law_393 : decode cL_law 393 = .ok (.invokevirtual 98, 3) := by decide +kernel
theorem dL_law_396 : decode cL_law 396 = .ok (.istore 6, 2) := by decide +kernel
theorem dL_law_398 : decode cL_law 398 = .ok (.aload_n 2, 1) := by decide +kernel
theorem dL_law_399 : decode cL_law 399 = .ok (.invokevirtual 76, 3) := by decide +kernel
theorem dL_law_402 : decode cL_law 402 = .ok (.iload 5, 2) := by decide +kernel
theorem dL_law_404 : decode cL_law 404 = .ok (.if_icmp .eq 5, 3) := by decide +kernel
theorem dL_law_407 : decode cL_law 407 = .ok (.iconst 0, 1) := by decide +kernel
theorem dL_law_408 : decode cL_law 408 = .ok (.ireturn, 1) := by decide +kernel
theorem dL_law_409 : decode cL_law 409 = .ok (.iload 5, 2) := by decide +kernel
theorem dL_law_411 : decode cL_law 411 = .ok (.ifCond .ne 15, 3) := by decide +kernel
theorem dL_law_414 : decode cL_law 414 = .ok (.aload_n 3, 1) := by decide +kernel
theorem dL_law_415 : decode cL_law 415 = .ok (.iconst 0, 1) := by decide +kernel
theorem dL_law_416 : decode cL_law 416 = .ok (.laload, 1) := by decide +kernel
theorem dL_law_417 : decode cL_law 417 = .ok (.iload 6, 2) := by decide +kernel
theorem dL_law_419 : decode cL_law 419 = .ok (.i2l, 1) := by decide +kernel
theorem dL_law_420 : decode cL_law 420 = .ok (.lcmp, 1) := by decide +kernel
theorem dL_law_421 : decode cL_law 421 = .ok (.ifCond .eq 5, 3) := by decide +kernel
theorem dL_law_424 : decode cL_law 424 = .ok (.iconst 0, 1) := by decide +kernel
theorem dL_law_425 : decode cL_law 425 = .ok (.ireturn, 1) := by decide +kernel
theorem dL_law_426 : decode cL_law 426 = .ok (.goto 607, 3) := by decide +kernel
theorem dL_law_429 : decode cL_law 429 = .ok (.aload_n 1, 1) := by decide +kernel
theorem dL_law_430 : decode cL_law 430 = .ok (.aload_n 0, 1) := by decide +kernel
theorem dL_law_431 : decode cL_law 431 = .ok (.iload 4, 2) := by decide +kernel
theorem dL_law_433 : decode cL_law 433 = .ok (.iconst 1, 1) := by decide +kernel
theorem dL_law_434 : decode cL_law 434 = .ok (.iadd, 1) := by decide +kernel
theorem dL_law_435 : decode cL_law 435 = .ok (.iaload, 1) := by decide +kernel
theorem dL_law_436 : decode cL_law 436 = .ok (.aload_n 3, 1) := by decide +kernel
theorem dL_law_437 : decode cL_law 437 = .ok (.invokestatic 99, 3) := by decide +kernel
theorem dL_law_440 : decode cL_law 440 = .ok (.istore 5, 2) := by decide +kernel
theorem dL_law_442 : decode cL_law 442 = .ok (.aload_n 2, 1) := by decide +kernel
theorem dL_law_443 : decode cL_law 443 = .ok (.aload_n 0, 1) := by decide +kernel
theorem dL_law_444 : decode cL_law 444 = .ok (.iload 4, 2) := by decide +kernel
theorem dL_law_446 : decode cL_law 446 = .ok (.iconst 1, 1) := by decide +kernel
theorem dL_law_447 : decode cL_law 447 = .ok (.iadd, 1) := by decide +kernel
theorem dL_law_448 : decode cL_law 448 = .ok (.iaload, 1) := by decide +kernel
theorem dL_law_449 : decode cL_law 449 = .ok (.invokevirtual 102, 3) := by decide +kernel
theorem dL_law_452 : decode cL_law 452 = .ok (.istore 6, 2) := by decide +kernel
theorem dL_law_454 : decode cL_law 454 = .ok (.aload_n 2, 1) := by decide +kernel
theorem dL_law_455 : decode cL_law 455 = .ok (.invokevirtual 76, 3) := by decide +kernel
theorem dL_law_458 : decode cL_law 458 = .ok (.iload 5, 2) := by decide +kernel
theorem dL_law_460 : decode cL_law 460 = .ok (.if_icmp .eq 5, 3) := by decide +kernel
theorem dL_law_463 : decode cL_law 463 = .ok (.iconst 0, 1) := by decide +kernel
theorem dL_law_464 : decode cL_law 464 = .ok (.ireturn, 1) := by decide +kernel
theorem dL_law_465 : decode cL_law 465 = .ok (.iload 5, 2) := by decide +kernel
theorem dL_law_467 : decode cL_law 467 = .ok (.ifCond .ne 15, 3) := by decide +kernel
theorem dL_law_470 : decode cL_law 470 = .ok (.aload_n 3, 1) := by decide +kernel
theorem dL_law_471 : decode cL_law 471 = .ok (.iconst 0, 1) := by decide +kernel
theorem dL_law_472 : decode cL_law 472 = .ok (.laload, 1) := by decide +kernel
theorem dL_law_473 : decode cL_law 473 = .ok (.iload 6, 2) := by decide +kernel
theorem dL_law_475 : decode cL_law 475 = .ok (.i2l, 1) := by decide +kernel
theorem dL_law_476 : decode cL_law 476 = .ok (.lcmp, 1) := by decide +kernel
theorem dL_law_477 : decode cL_law 477 = .ok (.ifCond .eq 5, 3) := by decide +kernel
theorem dL_law_480 : decode cL_law 480 = .ok (.iconst 0, 1) := by decide +kernel
theorem dL_law_481 : decode cL_law 481 = .ok (.ireturn, 1) := by decide +kernel
theorem dL_law_482 : decode cL_law 482 = .ok (.goto 551, 3) := by decide +kernel
theorem dL_law_485 : decode cL_law 485 = .ok (.aload_n 1, 1) := by decide +kernel
theorem dL_law_486 : decode cL_law 486 = .ok (.aload_n 0, 1) := by decide +kernel
theorem dL_law_487 : decode cL_law 487 = .ok (.iload 4, 2) := by decide +kernel
theorem dL_law_489 : decode cL_law 489 = .ok (.iconst 1, 1) := by decide +kernel
theorem dL_law_490 : decode cL_law 490 = .ok (.iadd, 1) := by decide +kernel
theorem dL_law_491 : decode cL_law 491 = .ok (.iaload, 1) := by decide +kernel
theorem dL_law_492 : decode cL_law 492 = .ok (.ifCond .eq 7, 3) := by decide +kernel
theorem dL_law_495 : decode cL_law 495 = .ok (.iconst 1, 1) := by decide +kernel
theorem dL_law_496 : decode cL_law 496 = .ok (.goto 4, 3) := by decide +kernel
theorem dL_law_499 : decode cL_law 499 = .ok (.iconst 0, 1) := by decide +kernel
theorem dL_law_500 : decode cL_law 500 = .ok (.invokevirtual 103, 3) := by decide +kernel
theorem dL_law_503 : decode cL_law 503 = .ok (.aload_n 2, 1) := by decide +kernel
theorem dL_law_504 : decode cL_law 504 = .ok (.aload_n 0, 1) := by decide +kernel
theorem dL_law_505 : decode cL_law 505 = .ok (.iload 4, 2) := by decide +kernel
theorem dL_law_507 : decode cL_law 507 = .ok (.iconst 1, 1) := by decide +kernel
theorem dL_law_508 : decode cL_law 508 = .ok (.iadd, 1) := by decide +kernel
theorem dL_law_509 : decode cL_law 509 = .ok (.iaload, 1) := by decide +kernel
theorem dL_law_510 : decode cL_law 510 = .ok (.ifCond .eq 7, 3) := by decide +kernel
theorem dL_law_513 : decode cL_law 513 = .ok (.iconst 1, 1) := by decide +kernel
theorem dL_law_514 : decode cL_law 514 = .ok (.goto 4, 3) := by decide +kernel
theorem dL_law_517 : decode cL_law 517 = .ok (.iconst 0, 1) := by decide +kernel
theorem dL_law_518 : decode cL_law 518 = .ok (.invokevirtual 107, 3) := by decide +kernel
theorem dL_law_521 : decode cL_law 521 = .ok (.if_icmp .eq 512, 3) := by decide +kernel
theorem dL_law_524 : decode cL_law 524 = .ok (.iconst 0, 1) := by decide +kernel
theorem dL_law_525 : decode cL_law 525 = .ok (.ireturn, 1) := by decide +kernel
theorem dL_law_526 : decode cL_law 526 = .ok (.aload_n 1, 1) := by decide +kernel
theorem dL_law_527 : decode cL_law 527 = .ok (.aload_n 0, 1) := by decide +kernel
theorem dL_law_528 : decode cL_law 528 = .ok (.iload 4, 2) := by decide +kernel
theorem dL_law_530 : decode cL_law 530 = .ok (.iconst 1, 1) := by decide +kernel
theorem dL_law_531 : decode cL_law 531 = .ok (.iadd, 1) := by decide +kernel
theorem dL_law_532 : decode cL_law 532 = .ok (.iaload, 1) := by decide +kernel
theorem dL_law_533 : decode cL_law 533 = .ok (.aload_n 0, 1) := by decide +kernel
theorem dL_law_534 : decode cL_law 534 = .ok (.iload 4, 2) := by decide +kernel
theorem dL_law_536 : decode cL_law 536 = .ok (.iconst 2, 1) := by decide +kernel
theorem dL_law_537 : decode cL_law 537 = .ok (.iadd, 1) := by decide +kernel
theorem dL_law_538 : decode cL_law 538 = .ok (.iaload, 1) := by decide +kernel
theorem dL_law_539 : decode cL_law 539 = .ok (.aload_n 3, 1) := by decide +kernel
theorem dL_law_540 : decode cL_law 540 = .ok (.invokestatic 108, 3) := by decide +kernel
theorem dL_law_543 : decode cL_law 543 = .ok (.istore 5, 2) := by decide +kernel
theorem dL_law_545 : decode cL_law 545 = .ok (.aload_n 2, 1) := by decide +kernel
theorem dL_law_546 : decode cL_law 546 = .ok (.aload_n 0, 1) := by decide +kernel
theorem dL_law_547 : decode cL_law 547 = .ok (.iload 4, 2) := by decide +kernel
theorem dL_law_549 : decode cL_law 549 = .ok (.iconst 1, 1) := by decide +kernel
theorem dL_law_550 : decode cL_law 550 = .ok (.iadd, 1) := by decide +kernel
theorem dL_law_551 : decode cL_law 551 = .ok (.iaload, 1) := by decide +kernel
theorem dL_law_552 : decode cL_law 552 = .ok (.aload_n 0, 1) := by decide +kernel
theorem dL_law_553 : decode cL_law 553 = .ok (.iload 4, 2) := by decide +kernel
theorem dL_law_555 : decode cL_law 555 = .ok (.iconst 2, 1) := by decide +kernel
theorem dL_law_556 : decode cL_law 556 = .ok (.iadd, 1) := by decide +kernel
theorem dL_law_557 : decode cL_law 557 = .ok (.iaload, 1) := by decide +kernel
theorem dL_law_558 : decode cL_law 558 = .ok (.invokevirtual 110, 3) := by decide +kernel
theorem dL_law_561 : decode cL_law 561 = .ok (.istore 6, 2) := by decide +kernel
theorem dL_law_563 : decode cL_law 563 = .ok (.aload_n 2, 1) := by decide +kernel
theorem dL_law_564 : decode cL_law 564 = .ok (.invokevirtual 76, 3) := by decide +kernel
theorem dL_law_567 : decode cL_law 567 = .ok (.iload 5, 2) := by decide +kernel
theorem dL_law_569 : decode cL_law 569 = .ok (.if_icmp .eq 5, 3) := by decide +kernel
theorem dL_law_572 : decode cL_law 572 = .ok (.iconst 0, 1) := by decide +kernel
theorem dL_law_573 : decode cL_law 573 = .ok (.ireturn, 1) := by decide +kernel
theorem dL_law_574 : decode cL_law 574 = .ok (.iload 5, 2) := by decide +kernel
theorem dL_law_576 : decode cL_law 576 = .ok (.ifCond .ne 15, 3) := by decide +kernel
theorem dL_law_579 : decode cL_law 579 = .ok (.aload_n 3, 1) := by decide +kernel
theorem dL_law_580 : decode cL_law 580 = .ok (.iconst 0, 1) := by decide +kernel
theorem dL_law_581 : decode cL_law 581 = .ok (.laload, 1) := by decide +kernel
theorem dL_law_582 : decode cL_law 582 = .ok (.iload 6, 2) := by decide +kernel
theorem dL_law_584 : decode cL_law 584 = .ok (.i2l, 1) := by decide +kernel
theorem dL_law_585 : decode cL_law 585 = .ok (.lcmp, 1) := by decide +kernel
theorem dL_law_586 : decode cL_law 586 = .ok (.ifCond .eq 5, 3) := by decide +kernel
theorem dL_law_589 : decode cL_law 589 = .ok (.iconst 0, 1) := by decide +kernel
theorem dL_law_590 : decode cL_law 590 = .ok (.ireturn, 1) := by decide +kernel
theorem dL_law_591 : decode cL_law 591 = .ok (.goto 442, 3) := by decide +kernel
theorem dL_law_594 : decode cL_law 594 = .ok (.aload_n 1, 1) := by decide +kernel
theorem dL_law_595 : decode cL_law 595 = .ok (.aload_n 0, 1) := by decide +kernel
theorem dL_law_596 : decode cL_law 596 = .ok (.iload 4, 2) := by decide +kernel
theorem dL_law_598 : decode cL_law 598 = .ok (.iconst 1, 1) := by decide +kernel
theorem dL_law_599 : decode cL_law 599 = .ok (.iadd, 1) := by decide +kernel
theorem dL_law_600 : decode cL_law 600 = .ok (.iaload, 1) := by decide +kernel
theorem dL_law_601 : decode cL_law 601 = .ok (.aload_n 0, 1) := by decide +kernel
theorem dL_law_602 : decode cL_law 602 = .ok (.iload 4, 2) := by decide +kernel
theorem dL_law_604 : decode cL_law 604 = .ok (.iconst 2, 1) := by decide +kernel
theorem dL_law_605 : decode cL_law 605 = .ok (.iadd, 1) := by decide +kernel
theorem dL_law_606 : decode cL_law 606 = .ok (.iaload, 1) := by decide +kernel
theorem dL_law_607 : decode cL_law 607 = .ok (.aload_n 3, 1) := by decide +kernel
theorem dL_law_608 : decode cL_law 608 = .ok (.invokestatic 111, 3) := by decide +kernel
theorem dL_law_611 : decode cL_law 611 = .ok (.istore 5, 2) := by decide +kernel
theorem dL_law_613 : decode cL_law 613 = .ok (.aload_n 2, 1) := by decide +kernel
theorem dL_law_614 : decode cL_law 614 = .ok (.aload_n 0, 1) := by decide +kernel
theorem dL_law_615 : decode cL_law 615 = .ok (.iload 4, 2) := by decide +kernel
theorem dL_law_617 : decode cL_law 617 = .ok (.iconst 1, 1) := by decide +kernel
theorem dL_law_618 : decode cL_law 618 = .ok (.iadd, 1) := by decide +kernel
theorem dL_law_619 : decode cL_law 619 = .ok (.iaload, 1) := by decide +kernel
theorem dL_law_620 : decode cL_law 620 = .ok (.aload_n 0, 1) := by decide +kernel
theorem dL_law_621 : decode cL_law 621 = .ok (.iload 4, 2) := by decide +kernel
theorem dL_law_623 : decode cL_law 623 = .ok (.iconst 2, 1) := by decide +kernel
theorem dL_law_624 : decode cL_law 624 = .ok (.iadd, 1) := by decide +kernel
theorem dL_law_625 : decode cL_law 625 = .ok (.iaload, 1) := by decide +kernel
theorem dL_law_626 : decode cL_law 626 = .ok (.invokevirtual 113, 3) := by decide +kernel
theorem dL_law_629 : decode cL_law 629 = .ok (.istore 6, 2) := by decide +kernel
theorem dL_law_631 : decode cL_law 631 = .ok (.aload_n 2, 1) := by decide +kernel
theorem dL_law_632 : decode cL_law 632 = .ok (.invokevirtual 76, 3) := by decide +kernel
theorem dL_law_635 : decode cL_law 635 = .ok (.iload 5, 2) := by decide +kernel
theorem dL_law_637 : decode cL_law 637 = .ok (.if_icmp .eq 5, 3) := by decide +kernel
theorem dL_law_640 : decode cL_law 640 = .ok (.iconst 0, 1) := by decide +kernel
theorem dL_law_641 : decode cL_law 641 = .ok (.ireturn, 1) := by decide +kernel
theorem dL_law_642 : decode cL_law 642 = .ok (.iload 5, 2) := by decide +kernel
theorem dL_law_644 : decode cL_law 644 = .ok (.ifCond .ne 15, 3) := by decide +kernel
theorem dL_law_647 : decode cL_law 647 = .ok (.aload_n 3, 1) := by decide +kernel
theorem dL_law_648 : decode cL_law 648 = .ok (.iconst 0, 1) := by decide +kernel
theorem dL_law_649 : decode cL_law 649 = .ok (.laload, 1) := by decide +kernel
theorem dL_law_650 : decode cL_law 650 = .ok (.iload 6, 2) := by decide +kernel
theorem dL_law_652 : decode cL_law 652 = .ok (.i2l, 1) := by decide +kernel
theorem dL_law_653 : decode cL_law 653 = .ok (.lcmp, 1) := by decide +kernel
theorem dL_law_654 : decode cL_law 654 = .ok (.ifCond .eq 5, 3) := by decide +kernel
theorem dL_law_657 : decode cL_law 657 = .ok (.iconst 0, 1) := by decide +kernel
theorem dL_law_658 : decode cL_law 658 = .ok (.ireturn, 1) := by decide +kernel
theorem dL_law_659 : decode cL_law 659 = .ok (.goto 374, 3) := by decide +kernel
theorem dL_law_662 : decode cL_law 662 = .ok (.aload_n 1, 1) := by decide +kernel
theorem dL_law_663 : decode cL_law 663 = .ok (.aload_n 0, 1) := by decide +kernel
theorem dL_law_664 : decode cL_law 664 = .ok (.iload 4, 2) := by decide +kernel
theorem dL_law_666 : decode cL_law 666 = .ok (.iconst 1, 1) := by decide +kernel
theorem dL_law_667 : decode cL_law 667 = .ok (.iadd, 1) := by decide +kernel
theorem dL_law_668 : decode cL_law 668 = .ok (.iaload, 1) := by decide +kernel
theorem dL_law_669 : decode cL_law 669 = .ok (.aload_n 0, 1) := by decide +kernel
theorem dL_law_670 : decode cL_law 670 = .ok (.iload 4, 2) := by decide +kernel
theorem dL_law_672 : decode cL_law 672 = .ok (.iconst 2, 1) := by decide +kernel
theorem dL_law_673 : decode cL_law 673 = .ok (.iadd, 1) := by decide +kernel
theorem dL_law_674 : decode cL_law 674 = .ok (.iaload, 1) := by decide +kernel
theorem dL_law_675 : decode cL_law 675 = .ok (.aload_n 3, 1) := by decide +kernel
theorem dL_law_676 : decode cL_law 676 = .ok (.invokestatic 114, 3) := by decide +kernel
theorem dL_law_679 : decode cL_law 679 = .ok (.istore 5, 2) := by decide +kernel
theorem dL_law_681 : decode cL_law 681 = .ok (.aload_n 2, 1) := by decide +kernel
theorem dL_law_682 : decode cL_law 682 = .ok (.aload_n 0, 1) := by decide +kernel
theorem dL_law_683 : decode cL_law 683 = .ok (.iload 4, 2) := by decide +kernel
theorem dL_law_685 : decode cL_law 685 = .ok (.iconst 1, 1) := by decide +kernel
theorem dL_law_686 : decode cL_law 686 = .ok (.iadd, 1) := by decide +kernel
theorem dL_law_687 : decode cL_law 687 = .ok (.iaload, 1) := by decide +kernel
theorem dL_law_688 : decode cL_law 688 = .ok (.aload_n 0, 1) := by decide +kernel
theorem dL_law_689 : decode cL_law 689 = .ok (.iload 4, 2) := by decide +kernel
theorem dL_law_691 : decode cL_law 691 = .ok (.iconst 2, 1) := by decide +kernel
theorem dL_law_692 : decode cL_law 692 = .ok (.iadd, 1) := by decide +kernel
theorem dL_law_693 : decode cL_law 693 = .ok (.iaload, 1) := by decide +kernel
theorem dL_law_694 : decode cL_law 694 = .ok (.invokevirtual 116, 3) := by decide +kernel
theorem dL_law_697 : decode cL_law 697 = .ok (.istore 6, 2) := by decide +kernel
theorem dL_law_699 : decode cL_law 699 = .ok (.aload_n 2, 1) := by decide +kernel
theorem dL_law_700 : decode cL_law 700 = .ok (.invokevirtual 76, 3) := by decide +kernel
theorem dL_law_703 : decode cL_law 703 = .ok (.iload 5, 2) := by decide +kernel
theorem dL_law_705 : decode cL_law 705 = .ok (.if_icmp .eq 5, 3) := by decide +kernel
theorem dL_law_708 : decode cL_law 708 = .ok (.iconst 0, 1) := by decide +kernel
theorem dL_law_709 : decode cL_law 709 = .ok (.ireturn, 1) := by decide +kernel
theorem dL_law_710 : decode cL_law 710 = .ok (.iload 5, 2) := by decide +kernel
theorem dL_law_712 : decode cL_law 712 = .ok (.ifCond .ne 15, 3) := by decide +kernel
theorem dL_law_715 : decode cL_law 715 = .ok (.aload_n 3, 1) := by decide +kernel
theorem dL_law_716 : decode cL_law 716 = .ok (.iconst 0, 1) := by decide +kernel
theorem dL_law_717 : decode cL_law 717 = .ok (.laload, 1) := by decide +kernel
theorem dL_law_718 : decode cL_law 718 = .ok (.iload 6, 2) := by decide +kernel
theorem dL_law_720 : decode cL_law 720 = .ok (.i2l, 1) := by decide +kernel
theorem dL_law_721 : decode cL_law 721 = .ok (.lcmp, 1) := by decide +kernel
theorem dL_law_722 : decode cL_law 722 = .ok (.ifCond .eq 5, 3) := by decide +kernel
theorem dL_law_725 : decode cL_law 725 = .ok (.iconst 0, 1) := by decide +kernel
theorem dL_law_726 : decode cL_law 726 = .ok (.ireturn, 1) := by decide +kernel
theorem dL_law_727 : decode cL_law 727 = .ok (.goto 306, 3) := by decide +kernel
theorem dL_law_730 : decode cL_law 730 = .ok (.aload_n 1, 1) := by decide +kernel
theorem dL_law_731 : decode cL_law 731 = .ok (.aload_n 0, 1) := by decide +kernel
theorem dL_law_732 : decode cL_law 732 = .ok (.iload 4, 2) := by decide +kernel
theorem dL_law_734 : decode cL_law 734 = .ok (.iconst 1, 1) := by decide +kernel
theorem dL_law_735 : decode cL_law 735 = .ok (.iadd, 1) := by decide +kernel
theorem dL_law_736 : decode cL_law 736 = .ok (.iaload, 1) := by decide +kernel
theorem dL_law_737 : decode cL_law 737 = .ok (.aload_n 0, 1) := by decide +kernel
theorem dL_law_738 : decode cL_law 738 = .ok (.iload 4, 2) := by decide +kernel
theorem dL_law_740 : decode cL_law 740 = .ok (.iconst 2, 1) := by decide +kernel
theorem dL_law_741 : decode cL_law 741 = .ok (.iadd, 1) := by decide +kernel
theorem dL_law_742 : decode cL_law 742 = .ok (.iaload, 1) := by decide +kernel
theorem dL_law_743 : decode cL_law 743 = .ok (.aload_n 3, 1) := by decide +kernel
theorem dL_law_744 : decode cL_law 744 = .ok (.invokestatic 117, 3) := by decide +kernel
theorem dL_law_747 : decode cL_law 747 = .ok (.istore 5, 2) := by decide +kernel
theorem dL_law_749 : decode cL_law 749 = .ok (.aload_n 2, 1) := by decide +kernel
theorem dL_law_750 : decode cL_law 750 = .ok (.aload_n 0, 1) := by decide +kernel
theorem dL_law_751 : decode cL_law 751 = .ok (.iload 4, 2) := by decide +kernel
theorem dL_law_753 : decode cL_law 753 = .ok (.iconst 1, 1) := by decide +kernel
theorem dL_law_754 : decode cL_law 754 = .ok (.iadd, 1) := by decide +kernel
theorem dL_law_755 : decode cL_law 755 = .ok (.iaload, 1) := by decide +kernel
theorem dL_law_756 : decode cL_law 756 = .ok (.aload_n 0, 1) := by decide +kernel
theorem dL_law_757 : decode cL_law 757 = .ok (.iload 4, 2) := by decide +kernel
theorem dL_law_759 : decode cL_law 759 = .ok (.iconst 2, 1) := by decide +kernel
theorem dL_law_760 : decode cL_law 760 = .ok (.iadd, 1) := by decide +kernel
theorem dL_law_761 : decode cL_law 761 = .ok (.iaload, 1) := by decide +kernel
theorem dL_law_762 : decode cL_law 762 = .ok (.invokevirtual 119, 3) := by decide +kernel
theorem dL_law_765 : decode cL_law 765 = .ok (.istore 6, 2) := by decide +kernel
theorem dL_law_767 : decode cL_law 767 = .ok (.aload_n 2, 1) := by decide +kernel
theorem dL_law_768 : decode cL_law 768 = .ok (.invokevirtual 76, 3) := by decide +kernel
theorem dL_law_771 : decode cL_law 771 = .ok (.iload 5, 2) := by decide +kernel
theorem dL_law_773 : decode cL_law 773 = .ok (.if_icmp .eq 5, 3) := by decide +kernel
theorem dL_law_776 : decode cL_law 776 = .ok (.iconst 0, 1) := by decide +kernel
theorem dL_law_777 : decode cL_law 777 = .ok (.ireturn, 1) := by decide +kernel
theorem dL_law_778 : decode cL_law 778 = .ok (.iload 5, 2) := by decide +kernel
theorem dL_law_780 : decode cL_law 780 = .ok (.ifCond .ne 22, 3) := by decide +kernel
theorem dL_law_783 : decode cL_law 783 = .ok (.aload_n 3, 1) := by decide +kernel
theorem dL_law_784 : decode cL_law 784 = .ok (.iconst 0, 1) := by decide +kernel
theorem dL_law_785 : decode cL_law 785 = .ok (.laload, 1) := by decide +kernel
theorem dL_law_786 : decode cL_law 786 = .ok (.iload 6, 2) := by decide +kernel
theorem dL_law_788 : decode cL_law 788 = .ok (.ifCond .eq 7, 3) := by decide +kernel
theorem dL_law_791 : decode cL_law 791 = .ok (.lconst 1, 1) := by decide +kernel
theorem dL_law_792 : decode cL_law 792 = .ok (.goto 4, 3) := by decide +kernel
theorem dL_law_795 : decode cL_law 795 = .ok (.lconst 0, 1) := by decide +kernel
theorem dL_law_796 : decode cL_law 796 = .ok (.lcmp, 1) := by decide +kernel
theorem dL_law_797 : decode cL_law 797 = .ok (.ifCond .eq 5, 3) := by decide +kernel
theorem dL_law_800 : decode cL_law 800 = .ok (.iconst 0, 1) := by decide +kernel
theorem dL_law_801 : decode cL_law 801 = .ok (.ireturn, 1) := by decide +kernel
theorem dL_law_802 : decode cL_law 802 = .ok (.goto 231, 3) := by decide +kernel
theorem dL_law_805 : decode cL_law 805 = .ok (.aload_n 1, 1) := by decide +kernel
theorem dL_law_806 : decode cL_law 806 = .ok (.aload_n 0, 1) := by decide +kernel
theorem dL_law_807 : decode cL_law 807 = .ok (.iload 4, 2) := by decide +kernel
theorem dL_law_809 : decode cL_law 809 = .ok (.iconst 1, 1) := by decide +kernel
theorem dL_law_810 : decode cL_law 810 = .ok (.iadd, 1) := by decide +kernel
theorem dL_law_811 : decode cL_law 811 = .ok (.iaload, 1) := by decide +kernel
theorem dL_law_812 : decode cL_law 812 = .ok (.aload_n 0, 1) := by decide +kernel
theorem dL_law_813 : decode cL_law 813 = .ok (.iload 4, 2) := by decide +kernel
theorem dL_law_815 : decode cL_law 815 = .ok (.iconst 2, 1) := by decide +kernel
theorem dL_law_816 : decode cL_law 816 = .ok (.iadd, 1) := by decide +kernel
theorem dL_law_817 : decode cL_law 817 = .ok (.iaload, 1) := by decide +kernel
theorem dL_law_818 : decode cL_law 818 = .ok (.aload_n 0, 1) := by decide +kernel
theorem dL_law_819 : decode cL_law 819 = .ok (.iload 4, 2) := by decide +kernel
theorem dL_law_821 : decode cL_law 821 = .ok (.iconst 3, 1) := by decide +kernel
theorem dL_law_822 : decode cL_law 822 = .ok (.iadd, 1) := by decide +kernel
theorem dL_law_823 : decode cL_law 823 = .ok (.iaload, 1) := by decide +kernel
theorem dL_law_824 : decode cL_law 824 = .ok (.aload_n 3, 1) := by decide +kernel
theorem dL_law_825 : decode cL_law 825 = .ok (.invokestatic 120, 3) := by decide +kernel
theorem dL_law_828 : decode cL_law 828 = .ok (.istore 5, 2) := by decide +kernel
theorem dL_law_830 : decode cL_law 830 = .ok (.aload_n 2, 1) := by decide +kernel
theorem dL_law_831 : decode cL_law 831 = .ok (.aload_n 0, 1) := by decide +kernel
theorem dL_law_832 : decode cL_law 832 = .ok (.iload 4, 2) := by decide +kernel
theorem dL_law_834 : decode cL_law 834 = .ok (.iconst 1, 1) := by decide +kernel
theorem dL_law_835 : decode cL_law 835 = .ok (.iadd, 1) := by decide +kernel
theorem dL_law_836 : decode cL_law 836 = .ok (.iaload, 1) := by decide +kernel
theorem dL_law_837 : decode cL_law 837 = .ok (.aload_n 0, 1) := by decide +kernel
theorem dL_law_838 : decode cL_law 838 = .ok (.iload 4, 2) := by decide +kernel
theorem dL_law_840 : decode cL_law 840 = .ok (.iconst 2, 1) := by decide +kernel
theorem dL_law_841 : decode cL_law 841 = .ok (.iadd, 1) := by decide +kernel
theorem dL_law_842 : decode cL_law 842 = .ok (.iaload, 1) := by decide +kernel
theorem dL_law_843 : decode cL_law 843 = .ok (.aload_n 0, 1) := by decide +kernel
theorem dL_law_844 : decode cL_law 844 = .ok (.iload 4, 2) := by decide +kernel
theorem dL_law_846 : decode cL_law 846 = .ok (.iconst 3, 1) := by decide +kernel
theorem dL_law_847 : decode cL_law 847 = .ok (.iadd, 1) := by decide +kernel
theorem dL_law_848 : decode cL_law 848 = .ok (.iaload, 1) := by decide +kernel
theorem dL_law_849 : decode cL_law 849 = .ok (.invokevirtual 122, 3) := by decide +kernel
theorem dL_law_852 : decode cL_law 852 = .ok (.istore 6, 2) := by decide +kernel
theorem dL_law_854 : decode cL_law 854 = .ok (.aload_n 2, 1) := by decide +kernel
theorem dL_law_855 : decode cL_law 855 = .ok (.invokevirtual 76, 3) := by decide +kernel
theorem dL_law_858 : decode cL_law 858 = .ok (.iload 5, 2) := by decide +kernel
theorem dL_law_860 : decode cL_law 860 = .ok (.if_icmp .eq 5, 3) := by decide +kernel
theorem dL_law_863 : decode cL_law 863 = .ok (.iconst 0, 1) := by decide +kernel
theorem dL_law_864 : decode cL_law 864 = .ok (.ireturn, 1) := by decide +kernel
theorem dL_law_865 : decode cL_law 865 = .ok (.iload 5, 2) := by decide +kernel
theorem dL_law_867 : decode cL_law 867 = .ok (.ifCond .ne 15, 3) := by decide +kernel
theorem dL_law_870 : decode cL_law 870 = .ok (.aload_n 3, 1) := by decide +kernel
theorem dL_law_871 : decode cL_law 871 = .ok (.iconst 0, 1) := by decide +kernel
theorem dL_law_872 : decode cL_law 872 = .ok (.laload, 1) := by decide +kernel
theorem dL_law_873 : decode cL_law 873 = .ok (.iload 6, 2) := by decide +kernel
theorem dL_law_875 : decode cL_law 875 = .ok (.i2l, 1) := by decide +kernel
theorem dL_law_876 : decode cL_law 876 = .ok (.lcmp, 1) := by decide +kernel
theorem dL_law_877 : decode cL_law 877 = .ok (.ifCond .eq 5, 3) := by decide +kernel
theorem dL_law_880 : decode cL_law 880 = .ok (.iconst 0, 1) := by decide +kernel
theorem dL_law_881 : decode cL_law 881 = .ok (.ireturn, 1) := by decide +kernel
theorem dL_law_882 : decode cL_law 882 = .ok (.goto 151, 3) := by decide +kernel
theorem dL_law_885 : decode cL_law 885 = .ok (.aload_n 1, 1) := by decide +kernel
theorem dL_law_886 : decode cL_law 886 = .ok (.aload_n 0, 1) := by decide +kernel
theorem dL_law_887 : decode cL_law 887 = .ok (.iload 4, 2) := by decide +kernel
theorem dL_law_889 : decode cL_law 889 = .ok (.iconst 1, 1) := by decide +kernel
theorem dL_law_890 : decode cL_law 890 = .ok (.iadd, 1) := by decide +kernel
theorem dL_law_891 : decode cL_law 891 = .ok (.iaload, 1) := by decide +kernel
theorem dL_law_892 : decode cL_law 892 = .ok (.invokestatic 123, 3) := by decide +kernel
theorem dL_law_895 : decode cL_law 895 = .ok (.istore 5, 2) := by decide +kernel
theorem dL_law_897 : decode cL_law 897 = .ok (.aload_n 2, 1) := by decide +kernel
theorem dL_law_898 : decode cL_law 898 = .ok (.aload_n 0, 1) := by decide +kernel
theorem dL_law_899 : decode cL_law 899 = .ok (.iload 4, 2) := by decide +kernel
theorem dL_law_901 : decode cL_law 901 = .ok (.iconst 1, 1) := by decide +kernel
theorem dL_law_902 : decode cL_law 902 = .ok (.iadd, 1) := by decide +kernel
theorem dL_law_903 : decode cL_law 903 = .ok (.iaload, 1) := by decide +kernel
theorem dL_law_904 : decode cL_law 904 = .ok (.invokevirtual 125, 3) := by decide +kernel
theorem dL_law_907 : decode cL_law 907 = .ok (.aload_n 2, 1) := by decide +kernel
theorem dL_law_908 : decode cL_law 908 = .ok (.invokevirtual 76, 3) := by decide +kernel
theorem dL_law_911 : decode cL_law 911 = .ok (.iload 5, 2) := by decide +kernel
theorem dL_law_913 : decode cL_law 913 = .ok (.if_icmp .eq 5, 3) := by decide +kernel
theorem dL_law_916 : decode cL_law 916 = .ok (.iconst 0, 1) := by decide +kernel
theorem dL_law_917 : decode cL_law 917 = .ok (.ireturn, 1) := by decide +kernel
theorem dL_law_918 : decode cL_law 918 = .ok (.goto 115, 3) := by decide +kernel
theorem dL_law_921 : decode cL_law 921 = .ok (.aload_n 1, 1) := by decide +kernel
theorem dL_law_922 : decode cL_law 922 = .ok (.aload_n 0, 1) := by decide +kernel
theorem dL_law_923 : decode cL_law 923 = .ok (.iload 4, 2) := by decide +kernel
theorem dL_law_925 : decode cL_law 925 = .ok (.iconst 1, 1) := by decide +kernel
theorem dL_law_926 : decode cL_law 926 = .ok (.iadd, 1) := by decide +kernel
theorem dL_law_927 : decode cL_law 927 = .ok (.iaload, 1) := by decide +kernel
theorem dL_law_928 : decode cL_law 928 = .ok (.aload_n 3, 1) := by decide +kernel
theorem dL_law_929 : decode cL_law 929 = .ok (.invokestatic 126, 3) := by decide +kernel
theorem dL_law_932 : decode cL_law 932 = .ok (.istore 5, 2) := by decide +kernel
theorem dL_law_934 : decode cL_law 934 = .ok (.aload_n 2, 1) := by decide +kernel
theorem dL_law_935 : decode cL_law 935 = .ok (.aload_n 0, 1) := by decide +kernel
theorem dL_law_936 : decode cL_law 936 = .ok (.iload 4, 2) := by decide +kernel
theorem dL_law_938 : decode cL_law 938 = .ok (.iconst 1, 1) := by decide +kernel
theorem dL_law_939 : decode cL_law 939 = .ok (.iadd, 1) := by decide +kernel
theorem dL_law_940 : decode cL_law 940 = .ok (.iaload, 1) := by decide +kernel
theorem dL_law_941 : decode cL_law 941 = .ok (.invokevirtual 128, 3) := by decide +kernel
theorem dL_law_944 : decode cL_law 944 = .ok (.istore 6, 2) := by decide +kernel
theorem dL_law_946 : decode cL_law 946 = .ok (.aload_n 2, 1) := by decide +kernel
theorem dL_law_947 : decode cL_law 947 = .ok (.invokevirtual 76, 3) := by decide +kernel
theorem dL_law_950 : decode cL_law 950 = .ok (.iload 5, 2) := by decide +kernel
theorem dL_law_952 : decode cL_law 952 = .ok (.if_icmp .eq 5, 3) := by decide +kernel
theorem dL_law_955 : decode cL_law 955 = .ok (.iconst 0, 1) := by decide +kernel
theorem dL_law_956 : decode cL_law 956 = .ok (.ireturn, 1) := by decide +kernel
theorem dL_law_957 : decode cL_law 957 = .ok (.iload 5, 2) := by decide +kernel
theorem dL_law_959 : decode cL_law 959 = .ok (.ifCond .ne 15, 3) := by decide +kernel
theorem dL_law_962 : decode cL_law 962 = .ok (.aload_n 3, 1) := by decide +kernel
theorem dL_law_963 : decode cL_law 963 = .ok (.iconst 0, 1) := by decide +kernel
theorem dL_law_964 : decode cL_law 964 = .ok (.laload, 1) := by decide +kernel
theorem dL_law_965 : decode cL_law 965 = .ok (.iload 6, 2) := by decide +kernel
theorem dL_law_967 : decode cL_law 967 = .ok (.i2l, 1) := by decide +kernel
theorem dL_law_968 : decode cL_law 968 = .ok (.lcmp, 1) := by decide +kernel
theorem dL_law_969 : decode cL_law 969 = .ok (.ifCond .eq 5, 3) := by decide +kernel
theorem dL_law_972 : decode cL_law 972 = .ok (.iconst 0, 1) := by decide +kernel
theorem dL_law_973 : decode cL_law 973 = .ok (.ireturn, 1) := by decide +kernel
theorem dL_law_974 : decode cL_law 974 = .ok (.goto 59, 3) := by decide +kernel
theorem dL_law_977 : decode cL_law 977 = .ok (.aload_n 1, 1) := by decide +kernel
theorem dL_law_978 : decode cL_law 978 = .ok (.aload_n 0, 1) := by decide +kernel
theorem dL_law_979 : decode cL_law 979 = .ok (.iload 4, 2) := by decide +kernel
theorem dL_law_981 : decode cL_law 981 = .ok (.iconst 1, 1) := by decide +kernel
theorem dL_law_982 : decode cL_law 982 = .ok (.iadd, 1) := by decide +kernel
theorem dL_law_983 : decode cL_law 983 = .ok (.iaload, 1) := by decide +kernel
theorem dL_law_984 : decode cL_law 984 = .ok (.aload_n 3, 1) := by decide +kernel
theorem dL_law_985 : decode cL_law 985 = .ok (.invokestatic 129, 3) := by decide +kernel
theorem dL_law_988 : decode cL_law 988 = .ok (.istore 5, 2) := by decide +kernel
theorem dL_law_990 : decode cL_law 990 = .ok (.aload_n 2, 1) := by decide +kernel
theorem dL_law_991 : decode cL_law 991 = .ok (.aload_n 0, 1) := by decide +kernel
theorem dL_law_992 : decode cL_law 992 = .ok (.iload 4, 2) := by decide +kernel
theorem dL_law_994 : decode cL_law 994 = .ok (.iconst 1, 1) := by decide +kernel
theorem dL_law_995 : decode cL_law 995 = .ok (.iadd, 1) := by decide +kernel
theorem dL_law_996 : decode cL_law 996 = .ok (.iaload, 1) := by decide +kernel
theorem dL_law_997 : decode cL_law 997 = .ok (.invokevirtual 131, 3) := by decide +kernel
theorem dL_law_1000 : decode cL_law 1000 = .ok (.istore 6, 2) := by decide +kernel
theorem dL_law_1002 : decode cL_law 1002 = .ok (.aload_n 2, 1) := by decide +kernel
theorem dL_law_1003 : decode cL_law 1003 = .ok (.invokevirtual 76, 3) := by decide +kernel
theorem dL_law_1006 : decode cL_law 1006 = .ok (.iload 5, 2) := by decide +kernel
theorem dL_law_1008 : decode cL_law 1008 = .ok (.if_icmp .eq 5, 3) := by decide +kernel
theorem dL_law_1011 : decode cL_law 1011 = .ok (.iconst 0, 1) := by decide +kernel
theorem dL_law_1012 : decode cL_law 1012 = .ok (.ireturn, 1) := by decide +kernel
theorem dL_law_1013 : decode cL_law 1013 = .ok (.iload 5, 2) := by decide +kernel
theorem dL_law_1015 : decode cL_law 1015 = .ok (.ifCond .ne 15, 3) := by decide +kernel
theorem dL_law_1018 : decode cL_law 1018 = .ok (.aload_n 3, 1) := by decide +kernel
theorem dL_law_1019 : decode cL_law 1019 = .ok (.iconst 0, 1) := by decide +kernel
theorem dL_law_1020 : decode cL_law 1020 = .ok (.laload, 1) := by decide +kernel
theorem dL_law_1021 : decode cL_law 1021 = .ok (.iload 6, 2) := by decide +kernel
theorem dL_law_1023 : decode cL_law 1023 = .ok (.i2l, 1) := by decide +kernel
theorem dL_law_1024 : decode cL_law 1024 = .ok (.lcmp, 1) := by decide +kernel
theorem dL_law_1025 : decode cL_law 1025 = .ok (.ifCond .eq 5, 3) := by decide +kernel
theorem dL_law_1028 : decode cL_law 1028 = .ok (.iconst 0, 1) := by decide +kernel
theorem dL_law_1029 : decode cL_law 1029 = .ok (.ireturn, 1) := by decide +kernel
theorem dL_law_1030 : decode cL_law 1030 = .ok (.goto 3, 3) := by decide +kernel
theorem dL_law_1033 : decode cL_law 1033 = .ok (.iinc 4 5, 3) := by decide +kernel
theorem dL_law_1036 : decode cL_law 1036 = .ok (.goto (-1013), 3) := by decide +kernel
theorem dL_law_1039 : decode cL_law 1039 = .ok (.iconst 1, 1) := by decide +kernel
theorem dL_law_1040 : decode cL_law 1040 = .ok (.ireturn, 1) := by decide +kernel
