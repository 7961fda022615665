/-! decode rows (written by names.py) -/
theorem dG_mendCopies_0 : decode cG_mendCopies 0 = .ok (.aload_n 0, 1) := by decide +kernel
theorem dG_mendCopies_1 : decode cG_mendCopies 1 = .ok (.iconst 0, 1) := by decide +kernel
theorem dG_mendCopies_2 : decode cG_mendCopies 2 = .ok (.iload_n 1, 1) := by decide +kernel
theorem dG_mendCopies_3 : decode cG_mendCopies 3 = .ok (.invokevirtual 147, 3) := by decide +kernel
theorem dG_mendCopies_6 : decode cG_mendCopies 6 = .ok (.istore_n 2, 1) := by decide +kernel
theorem dG_mendCopies_7 : decode cG_mendCopies 7 = .ok (.aload_n 0, 1) := by decide +kernel
theorem dG_mendCopies_8 : decode cG_mendCopies 8 = .ok (.iconst 1, 1) := by decide +kernel
theorem dG_mendCopies_9 : decode cG_mendCopies 9 = .ok (.iload_n 1, 1) := by decide +kernel
theorem dG_mendCopies_10 : decode cG_mendCopies 10 = .ok (.invokevirtual 147, 3) := by decide +kernel
theorem dG_mendCopies_13 : decode cG_mendCopies 13 = .ok (.istore_n 3, 1) := by decide +kernel
theorem dG_mendCopies_14 : decode cG_mendCopies 14 = .ok (.iload_n 2, 1) := by decide +kernel
theorem dG_mendCopies_15 : decode cG_mendCopies 15 = .ok (.ifCond .ne 9, 3) := by decide +kernel
theorem dG_mendCopies_18 : decode cG_mendCopies 18 = .ok (.iload_n 3, 1) := by decide +kernel
theorem dG_mendCopies_19 : decode cG_mendCopies 19 = .ok (.ifCond .ne 5, 3) := by decide +kernel
theorem dG_mendCopies_22 : decode cG_mendCopies 22 = .ok (.iconst 1, 1) := by decide +kernel
theorem dG_mendCopies_23 : decode cG_mendCopies 23 = .ok (.ireturn, 1) := by decide +kernel
theorem dG_mendCopies_24 : decode cG_mendCopies 24 = .ok (.iload_n 2, 1) := by decide +kernel
theorem dG_mendCopies_25 : decode cG_mendCopies 25 = .ok (.ifCond .eq 21, 3) := by decide +kernel
theorem dG_mendCopies_28 : decode cG_mendCopies 28 = .ok (.iload_n 3, 1) := by decide +kernel
theorem dG_mendCopies_29 : decode cG_mendCopies 29 = .ok (.ifCond .eq 17, 3) := by decide +kernel
theorem dG_mendCopies_32 : decode cG_mendCopies 32 = .ok (.aload_n 0, 1) := by decide +kernel
theorem dG_mendCopies_33 : decode cG_mendCopies 33 = .ok (.getfield 36, 3) := by decide +kernel
theorem dG_mendCopies_36 : decode cG_mendCopies 36 = .ok (.iload_n 1, 1) := by decide +kernel
theorem dG_mendCopies_37 : decode cG_mendCopies 37 = .ok (.iconst (-1), 1) := by decide +kernel
theorem dG_mendCopies_38 : decode cG_mendCopies 38 = .ok (.bipush 7, 2) := by decide +kernel
theorem dG_mendCopies_40 : decode cG_mendCopies 40 = .ok (.iconst (-1), 1) := by decide +kernel
theorem dG_mendCopies_41 : decode cG_mendCopies 41 = .ok (.invokevirtual 206, 3) := by decide +kernel
theorem dG_mendCopies_44 : decode cG_mendCopies 44 = .ok (.iconst 1, 1) := by decide +kernel
theorem dG_mendCopies_45 : decode cG_mendCopies 45 = .ok (.ireturn, 1) := by decide +kernel
theorem dG_mendCopies_46 : decode cG_mendCopies 46 = .ok (.iload_n 2, 1) := by decide +kernel
theorem dG_mendCopies_47 : decode cG_mendCopies 47 = .ok (.ifCond .ne 7, 3) := by decide +kernel
theorem dG_mendCopies_50 : decode cG_mendCopies 50 = .ok (.iconst 1, 1) := by decide +kernel
theorem dG_mendCopies_51 : decode cG_mendCopies 51 = .ok (.goto 4, 3) := by decide +kernel
theorem dG_mendCopies_54 : decode cG_mendCopies 54 = .ok (.iconst 0, 1) := by decide +kernel
theorem dG_mendCopies_55 : decode cG_mendCopies 55 = .ok (.istore 4, 2) := by decide +kernel
theorem dG_mendCopies_57 : decode cG_mendCopies 57 = .ok (.aload_n 0, 1) := by decide +kernel
theorem dG_mendCopies_58 : decode cG_mendCopies 58 = .ok (.getfield 36, 3) := by decide +kernel
theorem dG_mendCopies_61 : decode cG_mendCopies 61 = .ok (.iload_n 1, 1) := by decide +kernel
theorem dG_mendCopies_62 : decode cG_mendCopies 62 = .ok (.iload 4, 2) := by decide +kernel
theorem dG_mendCopies_64 : decode cG_mendCopies 64 = .ok (.iload_n 2, 1) := by decide +kernel
theorem dG_mendCopies_65 : decode cG_mendCopies 65 = .ok (.ifCond .ne 7, 3) := by decide +kernel
theorem dG_mendCopies_68 : decode cG_mendCopies 68 = .ok (.iload_n 3, 1) := by decide +kernel
theorem dG_mendCopies_69 : decode cG_mendCopies 69 = .ok (.goto 4, 3) := by decide +kernel
theorem dG_mendCopies_72 : decode cG_mendCopies 72 = .ok (.iload_n 2, 1) := by decide +kernel
theorem dG_mendCopies_73 : decode cG_mendCopies 73 = .ok (.aload_n 0, 1) := by decide +kernel
theorem dG_mendCopies_74 : decode cG_mendCopies 74 = .ok (.iload 4, 2) := by decide +kernel
theorem dG_mendCopies_76 : decode cG_mendCopies 76 = .ok (.invokevirtual 78, 3) := by decide +kernel
theorem dG_mendCopies_79 : decode cG_mendCopies 79 = .ok (.iload_n 1, 1) := by decide +kernel
theorem dG_mendCopies_80 : decode cG_mendCopies 80 = .ok (.bipush 9, 2) := by decide +kernel
theorem dG_mendCopies_82 : decode cG_mendCopies 82 = .ok (.invokevirtual 82, 3) := by decide +kernel
theorem dG_mendCopies_85 : decode cG_mendCopies 85 = .ok (.invokevirtual 206, 3) := by decide +kernel
theorem dG_mendCopies_88 : decode cG_mendCopies 88 = .ok (.aload_n 0, 1) := by decide +kernel
theorem dG_mendCopies_89 : decode cG_mendCopies 89 = .ok (.iconst 1, 1) := by decide +kernel
theorem dG_mendCopies_90 : decode cG_mendCopies 90 = .ok (.iload 4, 2) := by decide +kernel
theorem dG_mendCopies_92 : decode cG_mendCopies 92 = .ok (.isub, 1) := by decide +kernel
theorem dG_mendCopies_93 : decode cG_mendCopies 93 = .ok (.invokevirtual 78, 3) := by decide +kernel
theorem dG_mendCopies_96 : decode cG_mendCopies 96 = .ok (.iload_n 1, 1) := by decide +kernel
theorem dG_mendCopies_97 : decode cG_mendCopies 97 = .ok (.aload_n 0, 1) := by decide +kernel
theorem dG_mendCopies_98 : decode cG_mendCopies 98 = .ok (.getfield 57, 3) := by decide +kernel
theorem dG_mendCopies_101 : decode cG_mendCopies 101 = .ok (.invokevirtual 95, 3) := by decide +kernel
theorem dG_mendCopies_104 : decode cG_mendCopies 104 = .ok (.aload_n 0, 1) := by decide +kernel
theorem dG_mendCopies_105 : decode cG_mendCopies 105 = .ok (.iload 4, 2) := by decide +kernel
theorem dG_mendCopies_107 : decode cG_mendCopies 107 = .ok (.iload_n 1, 1) := by decide +kernel
theorem dG_mendCopies_108 : decode cG_mendCopies 108 = .ok (.aload_n 0, 1) := by decide +kernel
theorem dG_mendCopies_109 : decode cG_mendCopies 109 = .ok (.getfield 57, 3) := by decide +kernel
theorem dG_mendCopies_112 : decode cG_mendCopies 112 = .ok (.aload_n 0, 1) := by decide +kernel
theorem dG_mendCopies_113 : decode cG_mendCopies 113 = .ok (.iconst 1, 1) := by decide +kernel
theorem dG_mendCopies_114 : decode cG_mendCopies 114 = .ok (.iload 4, 2) := by decide +kernel
theorem dG_mendCopies_116 : decode cG_mendCopies 116 = .ok (.isub, 1) := by decide +kernel
theorem dG_mendCopies_117 : decode cG_mendCopies 117 = .ok (.invokevirtual 78, 3) := by decide +kernel
theorem dG_mendCopies_120 : decode cG_mendCopies 120 = .ok (.iload_n 1, 1) := by decide +kernel
theorem dG_mendCopies_121 : decode cG_mendCopies 121 = .ok (.bipush 10, 2) := by decide +kernel
theorem dG_mendCopies_123 : decode cG_mendCopies 123 = .ok (.invokevirtual 82, 3) := by decide +kernel
theorem dG_mendCopies_126 : decode cG_mendCopies 126 = .ok (.invokevirtual 190, 3) := by decide +kernel
theorem dG_mendCopies_129 : decode cG_mendCopies 129 = .ok (.ireturn, 1) := by decide +kernel
theorem dL_finding_0 : decode cL_finding 0 = .ok (.aload_n 3, 1) := by decide +kernel
theorem dL_finding_1 : decode cL_finding 1 = .ok (.iconst 0, 1) := by decide +kernel
theorem dL_finding_2 : decode cL_finding 2 = .ok (.aload_n 0, 1) := by decide +kernel
theorem dL_finding_3 : decode cL_finding 3 = .ok (.iload_n 1, 1) := by decide +kernel
theorem dL_finding_4 : decode cL_finding 4 = .ok (.iload_n 2, 1) := by decide +kernel
theorem dL_finding_5 : decode cL_finding 5 = .ok (.invokevirtual 41, 3) := by decide +kernel
theorem dL_finding_8 : decode cL_finding 8 = .ok (.i2l, 1) := by decide +kernel
theorem dL_finding_9 : decode cL_finding 9 = .ok (.lastore, 1) := by decide +kernel
theorem dL_finding_10 : decode cL_finding 10 = .ok (.goto 7, 3) := by decide +kernel
theorem dL_finding_13 : decode cL_finding 13 = .ok (.astore 4, 2) := by decide +kernel
theorem dL_finding_15 : decode cL_finding 15 = .ok (.iconst 1, 1) := by decide +kernel
theorem dL_finding_16 : decode cL_finding 16 = .ok (.ireturn, 1) := by decide +kernel
theorem dL_finding_17 : decode cL_finding 17 = .ok (.iconst 0, 1) := by decide +kernel
theorem dL_finding_18 : decode cL_finding 18 = .ok (.ireturn, 1) := by decide +kernel
theorem dG_finding_0 : decode cG_finding 0 = .ok (.iload_n 1, 1) := by decide +kernel
theorem dG_finding_1 : decode cG_finding 1 = .ok (.aload_n 0, 1) := by decide +kernel
theorem dG_finding_2 : decode cG_finding 2 = .ok (.getfield 36, 3) := by decide +kernel
theorem dG_finding_5 : decode cG_finding 5 = .ok (.getfield 138, 3) := by decide +kernel
theorem dG_finding_8 : decode cG_finding 8 = .ok (.invokestatic 60, 3) := by decide +kernel
theorem dG_finding_11 : decode cG_finding 11 = .ok (.ifCond .eq 11, 3) := by decide +kernel
theorem dG_finding_14 : decode cG_finding 14 = .ok (.iload_n 2, 1) := by decide +kernel
theorem dG_finding_15 : decode cG_finding 15 = .ok (.iconst 4, 1) := by decide +kernel
theorem dG_finding_16 : decode cG_finding 16 = .ok (.invokestatic 60, 3) := by decide +kernel
theorem dG_finding_19 : decode cG_finding 19 = .ok (.ifCond .ne 11, 3) := by decide +kernel
theorem dG_finding_22 : decode cG_finding 22 = .ok (.new 64, 3) := by decide +kernel
theorem dG_finding_25 : decode cG_finding 25 = .ok (.dup, 1) := by decide +kernel
theorem dG_finding_26 : decode cG_finding 26 = .ok (.invokespecial 66, 3) := by decide +kernel
theorem dG_finding_29 : decode cG_finding 29 = .ok (.athrow, 1) := by decide +kernel
theorem dG_finding_30 : decode cG_finding 30 = .ok (.aload_n 0, 1) := by decide +kernel
theorem dG_finding_31 : decode cG_finding 31 = .ok (.getfield 36, 3) := by decide +kernel
theorem dG_finding_34 : decode cG_finding 34 = .ok (.getfield 141, 3) := by decide +kernel
theorem dG_finding_37 : decode cG_finding 37 = .ok (.iload_n 1, 1) := by decide +kernel
theorem dG_finding_38 : decode cG_finding 38 = .ok (.iconst 4, 1) := by decide +kernel
theorem dG_finding_39 : decode cG_finding 39 = .ok (.imul, 1) := by decide +kernel
theorem dG_finding_40 : decode cG_finding 40 = .ok (.iload_n 2, 1) := by decide +kernel
theorem dG_finding_41 : decode cG_finding 41 = .ok (.iadd, 1) := by decide +kernel
theorem dG_finding_42 : decode cG_finding 42 = .ok (.iaload, 1) := by decide +kernel
theorem dG_finding_43 : decode cG_finding 43 = .ok (.ireturn, 1) := by decide +kernel
theorem dL_expected_0 : decode cL_expected 0 = .ok (.aload_n 3, 1) := by decide +kernel
theorem dL_expected_1 : decode cL_expected 1 = .ok (.iconst 0, 1) := by decide +kernel
theorem dL_expected_2 : decode cL_expected 2 = .ok (.aload_n 0, 1) := by decide +kernel
theorem dL_expected_3 : decode cL_expected 3 = .ok (.iload_n 1, 1) := by decide +kernel
theorem dL_expected_4 : decode cL_expected 4 = .ok (.iload_n 2, 1) := by decide +kernel
theorem dL_expected_5 : decode cL_expected 5 = .ok (.invokevirtual 44, 3) := by decide +kernel
theorem dL_expected_8 : decode cL_expected 8 = .ok (.i2l, 1) := by decide +kernel
theorem dL_expected_9 : decode cL_expected 9 = .ok (.lastore, 1) := by decide +kernel
theorem dL_expected_10 : decode cL_expected 10 = .ok (.goto 7, 3) := by decide +kernel
theorem dL_expected_13 : decode cL_expected 13 = .ok (.astore 4, 2) := by decide +kernel
theorem dL_expected_15 : decode cL_expected 15 = .ok (.iconst 1, 1) := by decide +kernel
theorem dL_expected_16 : decode cL_expected 16 = .ok (.ireturn, 1) := by decide +kernel
theorem dL_expected_17 : decode cL_expected 17 = .ok (.iconst 0, 1) := by decide +kernel
theorem dL_expected_18 : decode cL_expected 18 = .ok (.ireturn, 1) := by decide +kernel
theorem dG_expected_0 : decode cG_expected 0 = .ok (.iload_n 1, 1) := by decide +kernel
theorem dG_expected_1 : decode cG_expected 1 = .ok (.iconst 2, 1) := by decide +kernel
theorem dG_expected_2 : decode cG_expected 2 = .ok (.invokestatic 60, 3) := by decide +kernel
theorem dG_expected_5 : decode cG_expected 5 = .ok (.ifCond .eq 12, 3) := by decide +kernel
theorem dG_expected_8 : decode cG_expected 8 = .ok (.iload_n 2, 1) := by decide +kernel
theorem dG_expected_9 : decode cG_expected 9 = .ok (.bipush 64, 2) := by decide +kernel
theorem dG_expected_11 : decode cG_expected 11 = .ok (.invokestatic 60, 3) := by decide +kernel
theorem dG_expected_14 : decode cG_expected 14 = .ok (.ifCond .ne 11, 3) := by decide +kernel
theorem dG_expected_17 : decode cG_expected 17 = .ok (.new 64, 3) := by decide +kernel
theorem dG_expected_20 : decode cG_expected 20 = .ok (.dup, 1) := by decide +kernel
theorem dG_expected_21 : decode cG_expected 21 = .ok (.invokespecial 66, 3) := by decide +kernel
theorem dG_expected_24 : decode cG_expected 24 = .ok (.athrow, 1) := by decide +kernel
theorem dG_expected_25 : decode cG_expected 25 = .ok (.aload_n 0, 1) := by decide +kernel
theorem dG_expected_26 : decode cG_expected 26 = .ok (.iload_n 1, 1) := by decide +kernel
theorem dG_expected_27 : decode cG_expected 27 = .ok (.iload_n 2, 1) := by decide +kernel
theorem dG_expected_28 : decode cG_expected 28 = .ok (.invokevirtual 144, 3) := by decide +kernel
theorem dG_expected_31 : decode cG_expected 31 = .ok (.ireturn, 1) := by decide +kernel
theorem dL_verdict_0 : decode cL_verdict 0 = .ok (.aload_n 3, 1) := by decide +kernel
theorem dL_verdict_1 : decode cL_verdict 1 = .ok (.iconst 0, 1) := by decide +kernel
theorem dL_verdict_2 : decode cL_verdict 2 = .ok (.aload_n 0, 1) := by decide +kernel
theorem dL_verdict_3 : decode cL_verdict 3 = .ok (.iload_n 1, 1) := by decide +kernel
theorem dL_verdict_4 : decode cL_verdict 4 = .ok (.iload_n 2, 1) := by decide +kernel
theorem dL_verdict_5 : decode cL_verdict 5 = .ok (.invokevirtual 47, 3) := by decide +kernel
theorem dL_verdict_8 : decode cL_verdict 8 = .ok (.i2l, 1) := by decide +kernel
theorem dL_verdict_9 : decode cL_verdict 9 = .ok (.lastore, 1) := by decide +kernel
theorem dL_verdict_10 : decode cL_verdict 10 = .ok (.goto 7, 3) := by decide +kernel
theorem dL_verdict_13 : decode cL_verdict 13 = .ok (.astore 4, 2) := by decide +kernel
theorem dL_verdict_15 : decode cL_verdict 15 = .ok (.iconst 1, 1) := by decide +kernel
theorem dL_verdict_16 : decode cL_verdict 16 = .ok (.ireturn, 1) := by decide +kernel
theorem dL_verdict_17 : decode cL_verdict 17 = .ok (.iconst 0, 1) := by decide +kernel
theorem dL_verdict_18 : decode cL_verdict 18 = .ok (.ireturn, 1) := by decide +kernel
theorem dG_verdict_0 : decode cG_verdict 0 = .ok (.iload_n 1, 1) := by decide +kernel
theorem dG_verdict_1 : decode cG_verdict 1 = .ok (.iconst 2, 1) := by decide +kernel
theorem dG_verdict_2 : decode cG_verdict 2 = .ok (.invokestatic 60, 3) := by decide +kernel
theorem dG_verdict_5 : decode cG_verdict 5 = .ok (.ifCond .eq 12, 3) := by decide +kernel
theorem dG_verdict_8 : decode cG_verdict 8 = .ok (.iload_n 2, 1) := by decide +kernel
theorem dG_verdict_9 : decode cG_verdict 9 = .ok (.bipush 64, 2) := by decide +kernel
theorem dG_verdict_11 : decode cG_verdict 11 = .ok (.invokestatic 60, 3) := by decide +kernel
theorem dG_verdict_14 : decode cG_verdict 14 = .ok (.ifCond .ne 11, 3) := by decide +kernel
theorem dG_verdict_17 : decode cG_verdict 17 = .ok (.new 64, 3) := by decide +kernel
theorem dG_verdict_20 : decode cG_verdict 20 = .ok (.dup, 1) := by decide +kernel
theorem dG_verdict_21 : decode cG_verdict 21 = .ok (.invokespecial 66, 3) := by decide +kernel
theorem dG_verdict_24 : decode cG_verdict 24 = .ok (.athrow, 1) := by decide +kernel
theorem dG_verdict_25 : decode cG_verdict 25 = .ok (.aload_n 0, 1) := by decide +kernel
theorem dG_verdict_26 : decode cG_verdict 26 = .ok (.iload_n 1, 1) := by decide +kernel
theorem dG_verdict_27 : decode cG_verdict 27 = .ok (.iload_n 2, 1) := by decide +kernel
theorem dG_verdict_28 : decode cG_verdict 28 = .ok (.invokevirtual 147, 3) := by decide +kernel
theorem dG_verdict_31 : decode cG_verdict 31 = .ok (.ireturn, 1) := by decide +kernel
theorem dL_isRight_0 : decode cL_isRight 0 = .ok (.aload_n 3, 1) := by decide +kernel
theorem dL_isRight_1 : decode cL_isRight 1 = .ok (.iconst 0, 1) := by decide +kernel
theorem dL_isRight_2 : decode cL_isRight 2 = .ok (.aload_n 0, 1) := by decide +kernel
theorem dL_isRight_3 : decode cL_isRight 3 = .ok (.iload_n 1, 1) := by decide +kernel
theorem dL_isRight_4 : decode cL_isRight 4 = .ok (.iload_n 2, 1) := by decide +kernel
theorem dL_isRight_5 : decode cL_isRight 5 = .ok (.invokevirtual 50, 3) := by decide +kernel
theorem dL_isRight_8 : decode cL_isRight 8 = .ok (.ifCond .eq 7, 3) := by decide +kernel
theorem dL_isRight_11 : decode cL_isRight 11 = .ok (.lconst 1, 1) := by decide +kernel
theorem dL_isRight_12 : decode cL_isRight 12 = .ok (.goto 4, 3) := by decide +kernel
theorem dL_isRight_15 : decode cL_isRight 15 = .ok (.lconst 0, 1) := by decide +kernel
theorem dL_isRight_16 : decode cL_isRight 16 = .ok (.lastore, 1) := by decide +kernel
theorem dL_isRight_17 : decode cL_isRight 17 = .ok (.goto 7, 3) := by decide +kernel
theorem dL_isRight_20 : decode cL_isRight 20 = .ok (.astore 4, 2) := by decide +kernel
theorem dL_isRight_22 : decode cL_isRight 22 = .ok (.iconst 1, 1) := by decide +kernel
theorem dL_isRight_23 : decode cL_isRight 23 = .ok (.ireturn, 1) := by decide +kernel
theorem dL_isRight_24 : decode cL_isRight 24 = .ok (.iconst 0, 1) := by decide +kernel
theorem dL_isRight_25 : decode cL_isRight 25 = .ok (.ireturn, 1) := by decide +kernel
theorem dG_isRight_0 : decode cG_isRight 0 = .ok (.iload_n 1, 1) := by decide +kernel
theorem dG_isRight_1 : decode cG_isRight 1 = .ok (.iconst 2, 1) := by decide +kernel
theorem dG_isRight_2 : decode cG_isRight 2 = .ok (.invokestatic 60, 3) := by decide +kernel
theorem dG_isRight_5 : decode cG_isRight 5 = .ok (.ifCond .eq 12, 3) := by decide +kernel
theorem dG_isRight_8 : decode cG_isRight 8 = .ok (.iload_n 2, 1) := by decide +kernel
theorem dG_isRight_9 : decode cG_isRight 9 = .ok (.bipush 8, 2) := by decide +kernel
theorem dG_isRight_11 : decode cG_isRight 11 = .ok (.invokestatic 60, 3) := by decide +kernel
theorem dG_isRight_14 : decode cG_isRight 14 = .ok (.ifCond .ne 11, 3) := by decide +kernel
theorem dG_isRight_17 : decode cG_isRight 17 = .ok (.new 64, 3) := by decide +kernel
theorem dG_isRight_20 : decode cG_isRight 20 = .ok (.dup, 1) := by decide +kernel
theorem dG_isRight_21 : decode cG_isRight 21 = .ok (.invokespecial 66, 3) := by decide +kernel
theorem dG_isRight_24 : decode cG_isRight 24 = .ok (.athrow, 1) := by decide +kernel
theorem dG_isRight_25 : decode cG_isRight 25 = .ok (.aload_n 0, 1) := by decide +kernel
theorem dG_isRight_26 : decode cG_isRight 26 = .ok (.iload_n 1, 1) := by decide +kernel
theorem dG_isRight_27 : decode cG_isRight 27 = .ok (.iload_n 2, 1) := by decide +kernel
theorem dG_isRight_28 : decode cG_isRight 28 = .ok (.invokevirtual 150, 3) := by decide +kernel
theorem dG_isRight_31 : decode cG_isRight 31 = .ok (.ireturn, 1) := by decide +kernel
theorem dL_raw_0 : decode cL_raw 0 = .ok (.aload 4, 2) := by decide +kernel
theorem dL_raw_2 : decode cL_raw 2 = .ok (.iconst 0, 1) := by decide +kernel
theorem dL_raw_3 : decode cL_raw 3 = .ok (.aload_n 0, 1) := by decide +kernel
theorem dL_raw_4 : decode cL_raw 4 = .ok (.iload_n 1, 1) := by decide +kernel
theorem dL_raw_5 : decode cL_raw 5 = .ok (.iload_n 2, 1) := by decide +kernel
theorem dL_raw_6 : decode cL_raw 6 = .ok (.iload_n 3, 1) := by decide +kernel
theorem dL_raw_7 : decode cL_raw 7 = .ok (.invokevirtual 54, 3) := by decide +kernel
theorem dL_raw_10 : decode cL_raw 10 = .ok (.i2l, 1) := by decide +kernel
theorem dL_raw_11 : decode cL_raw 11 = .ok (.lastore, 1) := by decide +kernel
theorem dL_raw_12 : decode cL_raw 12 = .ok (.goto 7, 3) := by decide +kernel
theorem dL_raw_15 : decode cL_raw 15 = .ok (.astore 5, 2) := by decide +kernel
theorem dL_raw_17 : decode cL_raw 17 = .ok (.iconst 1, 1) := by decide +kernel
theorem dL_raw_18 : decode cL_raw 18 = .ok (.ireturn, 1) := by decide +kernel
theorem dL_raw_19 : decode cL_raw 19 = .ok (.iconst 0, 1) := by decide +kernel
theorem dL_raw_20 : decode cL_raw 20 = .ok (.ireturn, 1) := by decide +kernel
theorem dG_raw_0 : decode cG_raw 0 = .ok (.iload_n 1, 1) := by decide +kernel
theorem dG_raw_1 : decode cG_raw 1 = .ok (.iconst 2, 1) := by decide +kernel
theorem dG_raw_2 : decode cG_raw 2 = .ok (.invokestatic 60, 3) := by decide +kernel
theorem dG_raw_5 : decode cG_raw 5 = .ok (.ifCond .eq 21, 3) := by decide +kernel
theorem dG_raw_8 : decode cG_raw 8 = .ok (.iload_n 2, 1) := by decide +kernel
theorem dG_raw_9 : decode cG_raw 9 = .ok (.bipush 72, 2) := by decide +kernel
theorem dG_raw_11 : decode cG_raw 11 = .ok (.invokestatic 60, 3) := by decide +kernel
theorem dG_raw_14 : decode cG_raw 14 = .ok (.ifCond .eq 12, 3) := by decide +kernel
theorem dG_raw_17 : decode cG_raw 17 = .ok (.iload_n 3, 1) := by decide +kernel
theorem dG_raw_18 : decode cG_raw 18 = .ok (.bipush 11, 2) := by decide +kernel
theorem dG_raw_20 : decode cG_raw 20 = .ok (.invokestatic 60, 3) := by decide +kernel
theorem dG_raw_23 : decode cG_raw 23 = .ok (.ifCond .ne 11, 3) := by decide +kernel
theorem dG_raw_26 : decode cG_raw 26 = .ok (.new 64, 3) := by decide +kernel
theorem dG_raw_29 : decode cG_raw 29 = .ok (.dup, 1) := by decide +kernel
theorem dG_raw_30 : decode cG_raw 30 = .ok (.invokespecial 66, 3) := by decide +kernel
theorem dG_raw_33 : decode cG_raw 33 = .ok (.athrow, 1) := by decide +kernel
theorem dG_raw_34 : decode cG_raw 34 = .ok (.aload_n 0, 1) := by decide +kernel
theorem dG_raw_35 : decode cG_raw 35 = .ok (.iload_n 1, 1) := by decide +kernel
theorem dG_raw_36 : decode cG_raw 36 = .ok (.invokevirtual 78, 3) := by decide +kernel
theorem dG_raw_39 : decode cG_raw 39 = .ok (.iload_n 2, 1) := by decide +kernel
theorem dG_raw_40 : decode cG_raw 40 = .ok (.iload_n 3, 1) := by decide +kernel
theorem dG_raw_41 : decode cG_raw 41 = .ok (.invokevirtual 82, 3) := by decide +kernel
theorem dG_raw_44 : decode cG_raw 44 = .ok (.ireturn, 1) := by decide +kernel
theorem dL_replace_0 : decode cL_replace 0 = .ok (.aload_n 0, 1) := by decide +kernel
theorem dL_replace_1 : decode cL_replace 1 = .ok (.iload_n 1, 1) := by decide +kernel
theorem dL_replace_2 : decode cL_replace 2 = .ok (.invokevirtual 57, 3) := by decide +kernel
theorem dL_replace_5 : decode cL_replace 5 = .ok (.goto 9, 3) := by decide +kernel
theorem dL_replace_8 : decode cL_replace 8 = .ok (.astore_n 2, 1) := by decide +kernel
theorem dL_replace_9 : decode cL_replace 9 = .ok (.iconst 1, 1) := by decide +kernel
theorem dL_replace_10 : decode cL_replace 10 = .ok (.ireturn, 1) := by decide +kernel
theorem dL_replace_11 : decode cL_replace 11 = .ok (.astore_n 2, 1) := by decide +kernel
theorem dL_replace_12 : decode cL_replace 12 = .ok (.iconst 2, 1) := by decide +kernel
theorem dL_replace_13 : decode cL_replace 13 = .ok (.ireturn, 1) := by decide +kernel
theorem dL_replace_14 : decode cL_replace 14 = .ok (.iconst 0, 1) := by decide +kernel
theorem dL_replace_15 : decode cL_replace 15 = .ok (.ireturn, 1) := by decide +kernel
theorem dG_replace_0 : decode cG_replace 0 = .ok (.iload_n 1, 1) := by decide +kernel
theorem dG_replace_1 : decode cG_replace 1 = .ok (.iconst 2, 1) := by decide +kernel
theorem dG_replace_2 : decode cG_replace 2 = .ok (.invokestatic 60, 3) := by decide +kernel
theorem dG_replace_5 : decode cG_replace 5 = .ok (.ifCond .ne 11, 3) := by decide +kernel
theorem dG_replace_8 : decode cG_replace 8 = .ok (.new 64, 3) := by decide +kernel
theorem dG_replace_11 : decode cG_replace 11 = .ok (.dup, 1) := by decide +kernel
theorem dG_replace_12 : decode cG_replace 12 = .ok (.invokespecial 66, 3) := by decide +kernel
theorem dG_replace_15 : decode cG_replace 15 = .ok (.athrow, 1) := by decide +kernel
theorem dG_replace_16 : decode cG_replace 16 = .ok (.aload_n 0, 1) := by decide +kernel
theorem dG_replace_17 : decode cG_replace 17 = .ok (.getfield 22, 3) := by decide +kernel
theorem dG_replace_20 : decode cG_replace 20 = .ok (.getfield 67, 3) := by decide +kernel
theorem dG_replace_23 : decode cG_replace 23 = .ok (.ifCond .ne 11, 3) := by decide +kernel
theorem dG_replace_26 : decode cG_replace 26 = .ok (.new 71, 3) := by decide +kernel
theorem dG_replace_29 : decode cG_replace 29 = .ok (.dup, 1) := by decide +kernel
theorem dG_replace_30 : decode cG_replace 30 = .ok (.invokespecial 73, 3) := by decide +kernel
theorem dG_replace_33 : decode cG_replace 33 = .ok (.athrow, 1) := by decide +kernel
theorem dG_replace_34 : decode cG_replace 34 = .ok (.aload_n 0, 1) := by decide +kernel
theorem dG_replace_35 : decode cG_replace 35 = .ok (.iload_n 1, 1) := by decide +kernel
theorem dG_replace_36 : decode cG_replace 36 = .ok (.invokevirtual 78, 3) := by decide +kernel
theorem dG_replace_39 : decode cG_replace 39 = .ok (.invokevirtual 153, 3) := by decide +kernel
theorem dG_replace_42 : decode cG_replace 42 = .ok (.return_, 1) := by decide +kernel
theorem dD_wipe_0 : decode cD_wipe 0 = .ok (.aload_n 0, 1) := by decide +kernel
theorem dD_wipe_1 : decode cD_wipe 1 = .ok (.getfield 9, 3) := by decide +kernel
theorem dD_wipe_4 : decode cD_wipe 4 = .ok (.iconst 0, 1) := by decide +kernel
theorem dD_wipe_5 : decode cD_wipe 5 = .ok (.invokestatic 41, 3) := by decide +kernel
theorem dD_wipe_8 : decode cD_wipe 8 = .ok (.aload_n 0, 1) := by decide +kernel
theorem dD_wipe_9 : decode cD_wipe 9 = .ok (.iconst 0, 1) := by decide +kernel
theorem dD_wipe_10 : decode cD_wipe 10 = .ok (.putfield 24, 3) := by decide +kernel
theorem dD_wipe_13 : decode cD_wipe 13 = .ok (.return_, 1) := by decide +kernel
theorem dL_rebuild_0 : decode cL_rebuild 0 = .ok (.aload_n 2, 1) := by decide +kernel
theorem dL_rebuild_1 : decode cL_rebuild 1 = .ok (.iconst 0, 1) := by decide +kernel
theorem dL_rebuild_2 : decode cL_rebuild 2 = .ok (.aload_n 0, 1) := by decide +kernel
theorem dL_rebuild_3 : decode cL_rebuild 3 = .ok (.iload_n 1, 1) := by decide +kernel
theorem dL_rebuild_4 : decode cL_rebuild 4 = .ok (.invokevirtual 60, 3) := by decide +kernel
theorem dL_rebuild_7 : decode cL_rebuild 7 = .ok (.i2l, 1) := by decide +kernel
theorem dL_rebuild_8 : decode cL_rebuild 8 = .ok (.lastore, 1) := by decide +kernel
theorem dL_rebuild_9 : decode cL_rebuild 9 = .ok (.goto 9, 3) := by decide +kernel
theorem dL_rebuild_12 : decode cL_rebuild 12 = .ok (.astore_n 3, 1) := by decide +kernel
theorem dL_rebuild_13 : decode cL_rebuild 13 = .ok (.iconst 1, 1) := by decide +kernel
theorem dL_rebuild_14 : decode cL_rebuild 14 = .ok (.ireturn, 1) := by decide +kernel
theorem dL_rebuild_15 : decode cL_rebuild 15 = .ok (.astore_n 3, 1) := by decide +kernel
theorem dL_rebuild_16 : decode cL_rebuild 16 = .ok (.iconst 2, 1) := by decide +kernel
theorem dL_rebuild_17 : decode cL_rebuild 17 = .ok (.ireturn, 1) := by decide +kernel
theorem dL_rebuild_18 : decode cL_rebuild 18 = .ok (.iconst 0, 1) := by decide +kernel
theorem dL_rebuild_19 : decode cL_rebuild 19 = .ok (.ireturn, 1) := by decide +kernel
theorem dG_rebuild_0 : decode cG_rebuild 0 = .ok (.iload_n 1, 1) := by decide +kernel
theorem dG_rebuild_1 : decode cG_rebuild 1 = .ok (.iconst 2, 1) := by decide +kernel
theorem dG_rebuild_2 : decode cG_rebuild 2 = .ok (.invokestatic 60, 3) := by decide +kernel
theorem dG_rebuild_5 : decode cG_rebuild 5 = .ok (.ifCond .ne 11, 3) := by decide +kernel
theorem dG_rebuild_8 : decode cG_rebuild 8 = .ok (.new 64, 3) := by decide +kernel
theorem dG_rebuild_11 : decode cG_rebuild 11 = .ok (.dup, 1) := by decide +kernel
theorem dG_rebuild_12 : decode cG_rebuild 12 = .ok (.invokespecial 66, 3) := by decide +kernel
theorem dG_rebuild_15 : decode cG_rebuild 15 = .ok (.athrow, 1) := by decide +kernel
theorem dG_rebuild_16 : decode cG_rebuild 16 = .ok (.aload_n 0, 1) := by decide +kernel
theorem dG_rebuild_17 : decode cG_rebuild 17 = .ok (.getfield 22, 3) := by decide +kernel
theorem dG_rebuild_20 : decode cG_rebuild 20 = .ok (.getfield 67, 3) := by decide +kernel
theorem dG_rebuild_23 : decode cG_rebuild 23 = .ok (.ifCond .ne 11, 3) := by decide +kernel
theorem dG_rebuild_26 : decode cG_rebuild 26 = .ok (.new 71, 3) := by decide +kernel
theorem dG_rebuild_29 : decode cG_rebuild 29 = .ok (.dup, 1) := by decide +kernel
theorem dG_rebuild_30 : decode cG_rebuild 30 = .ok (.invokespecial 73, 3) := by decide +kernel
theorem dG_rebuild_33 : decode cG_rebuild 33 = .ok (.athrow, 1) := by decide +kernel
theorem dG_rebuild_34 : decode cG_rebuild 34 = .ok (.iconst 0, 1) := by decide +kernel
theorem dG_rebuild_35 : decode cG_rebuild 35 = .ok (.istore_n 2, 1) := by decide +kernel
theorem dG_rebuild_36 : decode cG_rebuild 36 = .ok (.iconst 0, 1) := by decide +kernel
theorem dG_rebuild_37 : decode cG_rebuild 37 = .ok (.istore_n 3, 1) := by decide +kernel
theorem dG_rebuild_38 : decode cG_rebuild 38 = .ok (.iload_n 3, 1) := by decide +kernel
theorem dG_rebuild_39 : decode cG_rebuild 39 = .ok (.bipush 64, 2) := by decide +kernel
theorem dG_rebuild_41 : decode cG_rebuild 41 = .ok (.if_icmp .ge 41, 3) := by decide +kernel
theorem dG_rebuild_44 : decode cG_rebuild 44 = .ok (.aload_n 0, 1) := by decide +kernel
theorem dG_rebuild_45 : decode cG_rebuild 45 = .ok (.iload_n 3, 1) := by decide +kernel
theorem dG_rebuild_46 : decode cG_rebuild 46 = .ok (.invokevirtual 74, 3) := by decide +kernel
theorem dG_rebuild_49 : decode cG_rebuild 49 = .ok (.istore 4, 2) := by decide +kernel
theorem dG_rebuild_51 : decode cG_rebuild 51 = .ok (.iload 4, 2) := by decide +kernel
theorem dG_rebuild_53 : decode cG_rebuild 53 = .ok (.iconst (-1), 1) := by decide +kernel
theorem dG_rebuild_54 : decode cG_rebuild 54 = .ok (.if_icmp .ne 9, 3) := by decide +kernel
theorem dG_rebuild_57 : decode cG_rebuild 57 = .ok (.iinc 2 1, 3) := by decide +kernel
theorem dG_rebuild_60 : decode cG_rebuild 60 = .ok (.goto 16, 3) := by decide +kernel
theorem dG_rebuild_63 : decode cG_rebuild 63 = .ok (.aload_n 0, 1) := by decide +kernel
theorem dG_rebuild_64 : decode cG_rebuild 64 = .ok (.iload_n 1, 1) := by decide +kernel
theorem dG_rebuild_65 : decode cG_rebuild 65 = .ok (.iload_n 3, 1) := by decide +kernel
theorem dG_rebuild_66 : decode cG_rebuild 66 = .ok (.iload 4, 2) := by decide +kernel
theorem dG_rebuild_68 : decode cG_rebuild 68 = .ok (.invokevirtual 156, 3) := by decide +kernel
theorem dG_rebuild_71 : decode cG_rebuild 71 = .ok (.ifCond .ne 5, 3) := by decide +kernel
theorem dG_rebuild_74 : decode cG_rebuild 74 = .ok (.iconst (-1), 1) := by decide +kernel
theorem dG_rebuild_75 : decode cG_rebuild 75 = .ok (.ireturn, 1) := by decide +kernel
theorem dG_rebuild_76 : decode cG_rebuild 76 = .ok (.iinc 3 1, 3) := by decide +kernel
theorem dG_rebuild_79 : decode cG_rebuild 79 = .ok (.goto (-41), 3) := by decide +kernel
theorem dG_rebuild_82 : decode cG_rebuild 82 = .ok (.iload_n 2, 1) := by decide +kernel
theorem dG_rebuild_83 : decode cG_rebuild 83 = .ok (.ireturn, 1) := by decide +kernel
theorem dG_rebuildBlock_0 : decode cG_rebuildBlock 0 = .ok (.aload_n 0, 1) := by decide +kernel
theorem dG_rebuildBlock_1 : decode cG_rebuildBlock 1 = .ok (.iload_n 3, 1) := by decide +kernel
theorem dG_rebuildBlock_2 : decode cG_rebuildBlock 2 = .ok (.invokevirtual 78, 3) := by decide +kernel
theorem dG_rebuildBlock_5 : decode cG_rebuildBlock 5 = .ok (.iload_n 2, 1) := by decide +kernel
theorem dG_rebuildBlock_6 : decode cG_rebuildBlock 6 = .ok (.aload_n 0, 1) := by decide +kernel
theorem dG_rebuildBlock_7 : decode cG_rebuildBlock 7 = .ok (.getfield 57, 3) := by decide +kernel
theorem dG_rebuildBlock_10 : decode cG_rebuildBlock 10 = .ok (.invokevirtual 95, 3) := by decide +kernel
theorem dG_rebuildBlock_13 : decode cG_rebuildBlock 13 = .ok (.aload_n 0, 1) := by decide +kernel
theorem dG_rebuildBlock_14 : decode cG_rebuildBlock 14 = .ok (.iload_n 3, 1) := by decide +kernel
theorem dG_rebuildBlock_15 : decode cG_rebuildBlock 15 = .ok (.invokevirtual 78, 3) := by decide +kernel
theorem dG_rebuildBlock_18 : decode cG_rebuildBlock 18 = .ok (.iload_n 2, 1) := by decide +kernel
theorem dG_rebuildBlock_19 : decode cG_rebuildBlock 19 = .ok (.bipush 10, 2) := by decide +kernel
theorem dG_rebuildBlock_21 : decode cG_rebuildBlock 21 = .ok (.invokevirtual 82, 3) := by decide +kernel
theorem dG_rebuildBlock_24 : decode cG_rebuildBlock 24 = .ok (.istore 4, 2) := by decide +kernel
theorem dG_rebuildBlock_26 : decode cG_rebuildBlock 26 = .ok (.aload_n 0, 1) := by decide +kernel
theorem dG_rebuildBlock_27 : decode cG_rebuildBlock 27 = .ok (.iload_n 1, 1) := by decide +kernel
theorem dG_rebuildBlock_28 : decode cG_rebuildBlock 28 = .ok (.iload_n 2, 1) := by decide +kernel
theorem dG_rebuildBlock_29 : decode cG_rebuildBlock 29 = .ok (.aload_n 0, 1) := by decide +kernel
theorem dG_rebuildBlock_30 : decode cG_rebuildBlock 30 = .ok (.getfield 57, 3) := by decide +kernel
theorem dG_rebuildBlock_33 : decode cG_rebuildBlock 33 = .ok (.iload 4, 2) := by decide +kernel
theorem dG_rebuildBlock_35 : decode cG_rebuildBlock 35 = .ok (.invokevirtual 197, 3) := by decide +kernel
theorem dG_rebuildBlock_38 : decode cG_rebuildBlock 38 = .ok (.ifCond .ne 5, 3) := by decide +kernel
theorem dG_rebuildBlock_41 : decode cG_rebuildBlock 41 = .ok (.iconst 0, 1) := by decide +kernel
theorem dG_rebuildBlock_42 : decode cG_rebuildBlock 42 = .ok (.ireturn, 1) := by decide +kernel
theorem dG_rebuildBlock_43 : decode cG_rebuildBlock 43 = .ok (.aload_n 0, 1) := by decide +kernel
theorem dG_rebuildBlock_44 : decode cG_rebuildBlock 44 = .ok (.iload_n 1, 1) := by decide +kernel
theorem dG_rebuildBlock_45 : decode cG_rebuildBlock 45 = .ok (.iload_n 2, 1) := by decide +kernel
theorem dG_rebuildBlock_46 : decode cG_rebuildBlock 46 = .ok (.bipush 8, 2) := by decide +kernel
theorem dG_rebuildBlock_48 : decode cG_rebuildBlock 48 = .ok (.idiv, 1) := by decide +kernel
theorem dG_rebuildBlock_49 : decode cG_rebuildBlock 49 = .ok (.invokevirtual 150, 3) := by decide +kernel
theorem dG_rebuildBlock_52 : decode cG_rebuildBlock 52 = .ok (.ifCond .ne 16, 3) := by decide +kernel
theorem dG_rebuildBlock_55 : decode cG_rebuildBlock 55 = .ok (.aload_n 0, 1) := by decide +kernel
theorem dG_rebuildBlock_56 : decode cG_rebuildBlock 56 = .ok (.iconst 1, 1) := by decide +kernel
theorem dG_rebuildBlock_57 : decode cG_rebuildBlock 57 = .ok (.iload_n 1, 1) := by decide +kernel
theorem dG_rebuildBlock_58 : decode cG_rebuildBlock 58 = .ok (.isub, 1) := by decide +kernel
theorem dG_rebuildBlock_59 : decode cG_rebuildBlock 59 = .ok (.iload_n 2, 1) := by decide +kernel
theorem dG_rebuildBlock_60 : decode cG_rebuildBlock 60 = .ok (.iload 4, 2) := by decide +kernel
theorem dG_rebuildBlock_62 : decode cG_rebuildBlock 62 = .ok (.invokevirtual 194, 3) := by decide +kernel
theorem dG_rebuildBlock_65 : decode cG_rebuildBlock 65 = .ok (.ifCond .eq 7, 3) := by decide +kernel
theorem dG_rebuildBlock_68 : decode cG_rebuildBlock 68 = .ok (.iconst 1, 1) := by decide +kernel
theorem dG_rebuildBlock_69 : decode cG_rebuildBlock 69 = .ok (.goto 4, 3) := by decide +kernel
theorem dG_rebuildBlock_72 : decode cG_rebuildBlock 72 = .ok (.iconst 0, 1) := by decide +kernel
theorem dG_rebuildBlock_73 : decode cG_rebuildBlock 73 = .ok (.ireturn, 1) := by decide +kernel
theorem dL_count_0 : decode cL_count 0 = .ok (.aload_n 2, 1) := by decide +kernel
theorem dL_count_1 : decode cL_count 1 = .ok (.iconst 0, 1) := by decide +kernel
theorem dL_count_2 : decode cL_count 2 = .ok (.aload_n 0, 1) := by decide +kernel
theorem dL_count_3 : decode cL_count 3 = .ok (.iload_n 1, 1) := by decide +kernel
theorem dL_count_4 : decode cL_count 4 = .ok (.invokevirtual 63, 3) := by decide +kernel
theorem dL_count_7 : decode cL_count 7 = .ok (.i2l, 1) := by decide +kernel
theorem dL_count_8 : decode cL_count 8 = .ok (.lastore, 1) := by decide +kernel
theorem dL_count_9 : decode cL_count 9 = .ok (.goto 6, 3) := by decide +kernel
theorem dL_count_12 : decode cL_count 12 = .ok (.astore_n 3, 1) := by decide +kernel
theorem dL_count_13 : decode cL_count 13 = .ok (.iconst 1, 1) := by decide +kernel
theorem dL_count_14 : decode cL_count 14 = .ok (.ireturn, 1) := by decide +kernel
theorem dL_count_15 : decode cL_count 15 = .ok (.iconst 0, 1) := by decide +kernel
theorem dL_count_16 : decode cL_count 16 = .ok (.ireturn, 1) := by decide +kernel
theorem dG_count_0 : decode cG_count 0 = .ok (.iload_n 1, 1) := by decide +kernel
theorem dG_count_1 : decode cG_count 1 = .ok (.tableswitch 113 0 7 #[47, 55, 63, 71, 79, 95, 103, 108], 47) := by decide +kernel
theorem dG_count_48 : decode cG_count 48 = .ok (.aload_n 0, 1) := by decide +kernel
theorem dG_count_49 : decode cG_count 49 = .ok (.getfield 12, 3) := by decide +kernel
theorem dG_count_52 : decode cG_count 52 = .ok (.getfield 128, 3) := by decide +kernel
theorem dG_count_55 : decode cG_count 55 = .ok (.ireturn, 1) := by decide +kernel
theorem dG_count_56 : decode cG_count 56 = .ok (.aload_n 0, 1) := by decide +kernel
theorem dG_count_57 : decode cG_count 57 = .ok (.getfield 16, 3) := by decide +kernel
theorem dG_count_60 : decode cG_count 60 = .ok (.getfield 128, 3) := by decide +kernel
theorem dG_count_63 : decode cG_count 63 = .ok (.ireturn, 1) := by decide +kernel
theorem dG_count_64 : decode cG_count 64 = .ok (.aload_n 0, 1) := by decide +kernel
theorem dG_count_65 : decode cG_count 65 = .ok (.getfield 12, 3) := by decide +kernel
theorem dG_count_68 : decode cG_count 68 = .ok (.getfield 118, 3) := by decide +kernel
theorem dG_count_71 : decode cG_count 71 = .ok (.ireturn, 1) := by decide +kernel
theorem dG_count_72 : decode cG_count 72 = .ok (.aload_n 0, 1) := by decide +kernel
theorem dG_count_73 : decode cG_count 73 = .ok (.getfield 16, 3) := by decide +kernel
theorem dG_count_76 : decode cG_count 76 = .ok (.getfield 118, 3) := by decide +kernel
theorem dG_count_79 : decode cG_count 79 = .ok (.ireturn, 1) := by decide +kernel
theorem dG_count_80 : decode cG_count 80 = .ok (.aload_n 0, 1) := by decide +kernel
theorem dG_count_81 : decode cG_count 81 = .ok (.getfield 22, 3) := by decide +kernel
theorem dG_count_84 : decode cG_count 84 = .ok (.getfield 67, 3) := by decide +kernel
theorem dG_count_87 : decode cG_count 87 = .ok (.ifCond .eq 7, 3) := by decide +kernel
theorem dG_count_90 : decode cG_count 90 = .ok (.iconst 1, 1) := by decide +kernel
theorem dG_count_91 : decode cG_count 91 = .ok (.goto 4, 3) := by decide +kernel
theorem dG_count_94 : decode cG_count 94 = .ok (.iconst 0, 1) := by decide +kernel
theorem dG_count_95 : decode cG_count 95 = .ok (.ireturn, 1) := by decide +kernel
theorem dG_count_96 : decode cG_count 96 = .ok (.aload_n 0, 1) := by decide +kernel
theorem dG_count_97 : decode cG_count 97 = .ok (.getfield 29, 3) := by decide +kernel
theorem dG_count_100 : decode cG_count 100 = .ok (.getfield 102, 3) := by decide +kernel
theorem dG_count_103 : decode cG_count 103 = .ok (.ireturn, 1) := by decide +kernel
theorem dG_count_104 : decode cG_count 104 = .ok (.aload_n 0, 1) := by decide +kernel
theorem dG_count_105 : decode cG_count 105 = .ok (.getfield 48, 3) := by decide +kernel
theorem dG_count_108 : decode cG_count 108 = .ok (.ireturn, 1) := by decide +kernel
theorem dG_count_109 : decode cG_count 109 = .ok (.aload_n 0, 1) := by decide +kernel
theorem dG_count_110 : decode cG_count 110 = .ok (.invokevirtual 160, 3) := by decide +kernel
theorem dG_count_113 : decode cG_count 113 = .ok (.ireturn, 1) := by decide +kernel
theorem dG_count_114 : decode cG_count 114 = .ok (.new 64, 3) := by decide +kernel
theorem dG_count_117 : decode cG_count 117 = .ok (.dup, 1) := by decide +kernel
theorem dG_count_118 : decode cG_count 118 = .ok (.invokespecial 66, 3) := by decide +kernel
theorem dG_count_121 : decode cG_count 121 = .ok (.athrow, 1) := by decide +kernel
theorem dG_greatestPageVersion_0 : decode cG_greatestPageVersion 0 = .ok (.iconst 0, 1) := by decide +kernel
theorem dG_greatestPageVersion_1 : decode cG_greatestPageVersion 1 = .ok (.istore_n 1, 1) := by decide +kernel
theorem dG_greatestPageVersion_2 : decode cG_greatestPageVersion 2 = .ok (.iconst 0, 1) := by decide +kernel
theorem dG_greatestPageVersion_3 : decode cG_greatestPageVersion 3 = .ok (.istore_n 2, 1) := by decide +kernel
theorem dG_greatestPageVersion_4 : decode cG_greatestPageVersion 4 = .ok (.iload_n 2, 1) := by decide +kernel
theorem dG_greatestPageVersion_5 : decode cG_greatestPageVersion 5 = .ok (.aload_n 0, 1) := by decide +kernel
theorem dG_greatestPageVersion_6 : decode cG_greatestPageVersion 6 = .ok (.getfield 40, 3) := by decide +kernel
theorem dG_greatestPageVersion_9 : decode cG_greatestPageVersion 9 = .ok (.arraylength, 1) := by decide +kernel
theorem dG_greatestPageVersion_10 : decode cG_greatestPageVersion 10 = .ok (.if_icmp .ge 20, 3) := by decide +kernel
theorem dG_greatestPageVersion_13 : decode cG_greatestPageVersion 13 = .ok (.iload_n 1, 1) := by decide +kernel
theorem dG_greatestPageVersion_14 : decode cG_greatestPageVersion 14 = .ok (.aload_n 0, 1) := by decide +kernel
theorem dG_greatestPageVersion_15 : decode cG_greatestPageVersion 15 = .ok (.getfield 40, 3) := by decide +kernel
theorem dG_greatestPageVersion_18 : decode cG_greatestPageVersion 18 = .ok (.iload_n 2, 1) := by decide +kernel
theorem dG_greatestPageVersion_19 : decode cG_greatestPageVersion 19 = .ok (.iaload, 1) := by decide +kernel
theorem dG_greatestPageVersion_20 : decode cG_greatestPageVersion 20 = .ok (.invokestatic 210, 3) := by decide +kernel
theorem dG_greatestPageVersion_23 : decode cG_greatestPageVersion 23 = .ok (.istore_n 1, 1) := by decide +kernel
theorem dG_greatestPageVersion_24 : decode cG_greatestPageVersion 24 = .ok (.iinc 2 1, 3) := by decide +kernel
theorem dG_greatestPageVersion_27 : decode cG_greatestPageVersion 27 = .ok (.goto (-23), 3) := by decide +kernel
theorem dG_greatestPageVersion_30 : decode cG_greatestPageVersion 30 = .ok (.iload_n 1, 1) := by decide +kernel
theorem dG_greatestPageVersion_31 : decode cG_greatestPageVersion 31 = .ok (.ireturn, 1) := by decide +kernel
theorem dMx_max_0 : decode cMx_max 0 = .ok (.iload_n 0, 1) := by decide +kernel
theorem dMx_max_1 : decode cMx_max 1 = .ok (.iload_n 1, 1) := by decide +kernel
theorem dMx_max_2 : decode cMx_max 2 = .ok (.if_icmp .lt 7, 3) := by decide +kernel
theorem dMx_max_5 : decode cMx_max 5 = .ok (.iload_n 0, 1) := by decide +kernel
theorem dMx_max_6 : decode cMx_max 6 = .ok (.goto 4, 3) := by decide +kernel
theorem dMx_max_9 : decode cMx_max 9 = .ok (.iload_n 1, 1) := by decide +kernel
theorem dMx_max_10 : decode cMx_max 10 = .ok (.ireturn, 1) := by decide +kernel
theorem dM_init_0 : decode cM_init 0 = .ok (.aload_n 0, 1) := by decide +kernel
theorem dM_init_1 : decode cM_init 1 = .ok (.invokespecial 1, 3) := by decide +kernel
theorem dM_init_4 : decode cM_init 4 = .ok (.aload_n 0, 1) := by decide +kernel
theorem dM_init_5 : decode cM_init 5 = .ok (.sipush 1584, 3) := by decide +kernel
theorem dM_init_8 : decode cM_init 8 = .ok (.newarray .int, 2) := by decide +kernel
theorem dM_init_10 : decode cM_init 10 = .ok (.putfield 7, 3) := by decide +kernel
theorem dM_init_13 : decode cM_init 13 = .ok (.aload_n 0, 1) := by decide +kernel
theorem dM_init_14 : decode cM_init 14 = .ok (.bipush 16, 2) := by decide +kernel
theorem dM_init_16 : decode cM_init 16 = .ok (.newarray .int, 2) := by decide +kernel
theorem dM_init_18 : decode cM_init 18 = .ok (.putfield 13, 3) := by decide +kernel
theorem dM_init_21 : decode cM_init 21 = .ok (.aload_n 0, 1) := by decide +kernel
theorem dM_init_22 : decode cM_init 22 = .ok (.iconst (-1), 1) := by decide +kernel
theorem dM_init_23 : decode cM_init 23 = .ok (.putfield 16, 3) := by decide +kernel
theorem dM_init_26 : decode cM_init 26 = .ok (.aload_n 0, 1) := by decide +kernel
theorem dM_init_27 : decode cM_init 27 = .ok (.bipush 8, 2) := by decide +kernel
theorem dM_init_29 : decode cM_init 29 = .ok (.newarray .int, 2) := by decide +kernel
theorem dM_init_31 : decode cM_init 31 = .ok (.putfield 20, 3) := by decide +kernel
theorem dM_init_34 : decode cM_init 34 = .ok (.aload_n 0, 1) := by decide +kernel
theorem dM_init_35 : decode cM_init 35 = .ok (.iconst (-1), 1) := by decide +kernel
theorem dM_init_36 : decode cM_init 36 = .ok (.putfield 23, 3) := by decide +kernel
theorem dM_init_39 : decode cM_init 39 = .ok (.aload_n 0, 1) := by decide +kernel
theorem dM_init_40 : decode cM_init 40 = .ok (.iconst 2, 1) := by decide +kernel
theorem dM_init_41 : decode cM_init 41 = .ok (.newarray .int, 2) := by decide +kernel
theorem dM_init_43 : decode cM_init 43 = .ok (.putfield 26, 3) := by decide +kernel
theorem dM_init_46 : decode cM_init 46 = .ok (.aload_n 0, 1) := by decide +kernel
theorem dM_init_47 : decode cM_init 47 = .ok (.iconst 2, 1) := by decide +kernel
theorem dM_init_48 : decode cM_init 48 = .ok (.newarray .int, 2) := by decide +kernel
theorem dM_init_50 : decode cM_init 50 = .ok (.putfield 29, 3) := by decide +kernel
theorem dM_init_53 : decode cM_init 53 = .ok (.aload_n 0, 1) := by decide +kernel
theorem dM_init_54 : decode cM_init 54 = .ok (.bipush 16, 2) := by decide +kernel
theorem dM_init_56 : decode cM_init 56 = .ok (.newarray .int, 2) := by decide +kernel
theorem dM_init_58 : decode cM_init 58 = .ok (.putfield 32, 3) := by decide +kernel
theorem dM_init_61 : decode cM_init 61 = .ok (.aload_n 0, 1) := by decide +kernel
theorem dM_init_62 : decode cM_init 62 = .ok (.bipush 16, 2) := by decide +kernel
theorem dM_init_64 : decode cM_init 64 = .ok (.newarray .int, 2) := by decide +kernel
theorem dM_init_66 : decode cM_init 66 = .ok (.putfield 35, 3) := by decide +kernel
theorem dM_init_69 : decode cM_init 69 = .ok (.aload_n 0, 1) := by decide +kernel
theorem dM_init_70 : decode cM_init 70 = .ok (.bipush 16, 2) := by decide +kernel
theorem dM_init_72 : decode cM_init 72 = .ok (.newarray .int, 2) := by decide +kernel
theorem dM_init_74 : decode cM_init 74 = .ok (.putfield 38, 3) := by decide +kernel
theorem dM_init_77 : decode cM_init 77 = .ok (.aload_n 0, 1) := by decide +kernel
theorem dM_init_78 : decode cM_init 78 = .ok (.sipush 400, 3) := by decide +kernel
theorem dM_init_81 : decode cM_init 81 = .ok (.newarray .int, 2) := by decide +kernel
theorem dM_init_83 : decode cM_init 83 = .ok (.putfield 41, 3) := by decide +kernel
theorem dM_init_86 : decode cM_init 86 = .ok (.aload_n 0, 1) := by decide +kernel
theorem dM_init_87 : decode cM_init 87 = .ok (.bipush 11, 2) := by decide +kernel
theorem dM_init_89 : decode cM_init 89 = .ok (.newarray .int, 2) := by decide +kernel
theorem dM_init_91 : decode cM_init 91 = .ok (.putfield 44, 3) := by decide +kernel
theorem dM_init_94 : decode cM_init 94 = .ok (.aload_n 0, 1) := by decide +kernel
theorem dM_init_95 : decode cM_init 95 = .ok (.bipush 8, 2) := by decide +kernel
theorem dM_init_97 : decode cM_init 97 = .ok (.newarray .int, 2) := by decide +kernel
theorem dM_init_99 : decode cM_init 99 = .ok (.putfield 47, 3) := by decide +kernel
theorem dM_init_102 : decode cM_init 102 = .ok (.iconst 0, 1) := by decide +kernel
theorem dM_init_103 : decode cM_init 103 = .ok (.istore_n 1, 1) := by decide +kernel
theorem dM_init_104 : decode cM_init 104 = .ok (.iload_n 1, 1) := by decide +kernel
theorem dM_init_105 : decode cM_init 105 = .ok (.iconst 2, 1) := by decide +kernel
theorem dM_init_106 : decode cM_init 106 = .ok (.if_icmp .ge 59, 3) := by decide +kernel
theorem dM_init_109 : decode cM_init 109 = .ok (.iconst 0, 1) := by decide +kernel
theorem dM_init_110 : decode cM_init 110 = .ok (.istore_n 2, 1) := by decide +kernel
theorem dM_init_111 : decode cM_init 111 = .ok (.iload_n 2, 1) := by decide +kernel
theorem dM_init_112 : decode cM_init 112 = .ok (.bipush 72, 2) := by decide +kernel
theorem dM_init_114 : decode cM_init 114 = .ok (.if_icmp .ge 45, 3) := by decide +kernel
theorem dM_init_117 : decode cM_init 117 = .ok (.aload_n 0, 1) := by decide +kernel
theorem dM_init_118 : decode cM_init 118 = .ok (.getfield 7, 3) := by decide +kernel
theorem dM_init_121 : decode cM_init 121 = .ok (.iload_n 1, 1) := by decide +kernel
theorem dM_init_122 : decode cM_init 122 = .ok (.iload_n 2, 1) := by decide +kernel
theorem dM_init_123 : decode cM_init 123 = .ok (.invokestatic 50, 3) := by decide +kernel
theorem dM_init_126 : decode cM_init 126 = .ok (.bipush 9, 2) := by decide +kernel
theorem dM_init_128 : decode cM_init 128 = .ok (.iadd, 1) := by decide +kernel
theorem dM_init_129 : decode cM_init 129 = .ok (.iload_n 2, 1) := by decide +kernel
theorem dM_init_130 : decode cM_init 130 = .ok (.iastore, 1) := by decide +kernel
theorem dM_init_131 : decode cM_init 131 = .ok (.aload_n 0, 1) := by decide +kernel
theorem dM_init_132 : decode cM_init 132 = .ok (.getfield 7, 3) := by decide +kernel
theorem dM_init_135 : decode cM_init 135 = .ok (.iload_n 1, 1) := by decide +kernel
theorem dM_init_136 : decode cM_init 136 = .ok (.iload_n 2, 1) := by decide +kernel
theorem dM_init_137 : decode cM_init 137 = .ok (.invokestatic 50, 3) := by decide +kernel
theorem dM_init_140 : decode cM_init 140 = .ok (.bipush 8, 2) := by decide +kernel
theorem dM_init_142 : decode cM_init 142 = .ok (.iadd, 1) := by decide +kernel
theorem dM_init_143 : decode cM_init 143 = .ok (.aload_n 0, 1) := by decide +kernel
theorem dM_init_144 : decode cM_init 144 = .ok (.iload_n 1, 1) := by decide +kernel
theorem dM_init_145 : decode cM_init 145 = .ok (.iload_n 2, 1) := by decide +kernel
theorem dM_init_146 : decode cM_init 146 = .ok (.invokestatic 50, 3) := by decide +kernel
theorem dM_init_149 : decode cM_init 149 = .ok (.invokevirtual 54, 3) := by decide +kernel
theorem dM_init_152 : decode cM_init 152 = .ok (.iastore, 1) := by decide +kernel
theorem dM_init_153 : decode cM_init 153 = .ok (.iinc 2 1, 3) := by decide +kernel
theorem dM_init_156 : decode cM_init 156 = .ok (.goto (-45), 3) := by decide +kernel
theorem dM_init_159 : decode cM_init 159 = .ok (.iinc 1 1, 3) := by decide +kernel
theorem dM_init_162 : decode cM_init 162 = .ok (.goto (-58), 3) := by decide +kernel
theorem dM_init_165 : decode cM_init 165 = .ok (.return_, 1) := by decide +kernel
theorem dM_place_0 : decode cM_place 0 = .ok (.bipush 11, 2) := by decide +kernel
theorem dM_place_2 : decode cM_place 2 = .ok (.bipush 72, 2) := by decide +kernel
theorem dM_place_4 : decode cM_place 4 = .ok (.iload_n 0, 1) := by decide +kernel
theorem dM_place_5 : decode cM_place 5 = .ok (.imul, 1) := by decide +kernel
theorem dM_place_6 : decode cM_place 6 = .ok (.iload_n 1, 1) := by decide +kernel
theorem dM_place_7 : decode cM_place 7 = .ok (.iadd, 1) := by decide +kernel
theorem dM_place_8 : decode cM_place 8 = .ok (.imul, 1) := by decide +kernel
theorem dM_place_9 : decode cM_place 9 = .ok (.ireturn, 1) := by decide +kernel
theorem dM_sumAt_0 : decode cM_sumAt 0 = .ok (.iconst 0, 1) := by decide +kernel
theorem dM_sumAt_1 : decode cM_sumAt 1 = .ok (.istore_n 2, 1) := by decide +kernel
theorem dM_sumAt_2 : decode cM_sumAt 2 = .ok (.iconst 0, 1) := by decide +kernel
theorem dM_sumAt_3 : decode cM_sumAt 3 = .ok (.istore_n 3, 1) := by decide +kernel
theorem dM_sumAt_4 : decode cM_sumAt 4 = .ok (.iload_n 3, 1) := by decide +kernel
theorem dM_sumAt_5 : decode cM_sumAt 5 = .ok (.bipush 8, 2) := by decide +kernel
theorem dM_sumAt_7 : decode cM_sumAt 7 = .ok (.if_icmp .ge 22, 3) := by decide +kernel
theorem dM_sumAt_10 : decode cM_sumAt 10 = .ok (.iload_n 2, 1) := by decide +kernel
theorem dM_sumAt_11 : decode cM_sumAt 11 = .ok (.aload_n 0, 1) := by decide +kernel
theorem dM_sumAt_12 : decode cM_sumAt 12 = .ok (.getfield 7, 3) := by decide +kernel
theorem dM_sumAt_15 : decode cM_sumAt 15 = .ok (.iload_n 1, 1) := by decide +kernel
theorem dM_sumAt_16 : decode cM_sumAt 16 = .ok (.iload_n 3, 1) := by decide +kernel
theorem dM_sumAt_17 : decode cM_sumAt 17 = .ok (.iadd, 1) := by decide +kernel
theorem dM_sumAt_18 : decode cM_sumAt 18 = .ok (.iaload, 1) := by decide +kernel
theorem dM_sumAt_19 : decode cM_sumAt 19 = .ok (.invokestatic 61, 3) := by decide +kernel
theorem dM_sumAt_22 : decode cM_sumAt 22 = .ok (.istore_n 2, 1) := by decide +kernel
theorem dM_sumAt_23 : decode cM_sumAt 23 = .ok (.iinc 3 1, 3) := by decide +kernel
theorem dM_sumAt_26 : decode cM_sumAt 26 = .ok (.goto (-22), 3) := by decide +kernel
theorem dM_sumAt_29 : decode cM_sumAt 29 = .ok (.iload_n 2, 1) := by decide +kernel
theorem dM_sumAt_30 : decode cM_sumAt 30 = .ok (.aload_n 0, 1) := by decide +kernel
theorem dM_sumAt_31 : decode cM_sumAt 31 = .ok (.getfield 7, 3) := by decide +kernel
theorem dM_sumAt_34 : decode cM_sumAt 34 = .ok (.iload_n 1, 1) := by decide +kernel
theorem dM_sumAt_35 : decode cM_sumAt 35 = .ok (.bipush 9, 2) := by decide +kernel
theorem dM_sumAt_37 : decode cM_sumAt 37 = .ok (.iadd, 1) := by decide +kernel
theorem dM_sumAt_38 : decode cM_sumAt 38 = .ok (.iaload, 1) := by decide +kernel
theorem dM_sumAt_39 : decode cM_sumAt 39 = .ok (.invokestatic 61, 3) := by decide +kernel
theorem dM_sumAt_42 : decode cM_sumAt 42 = .ok (.aload_n 0, 1) := by decide +kernel
theorem dM_sumAt_43 : decode cM_sumAt 43 = .ok (.getfield 7, 3) := by decide +kernel
theorem dM_sumAt_46 : decode cM_sumAt 46 = .ok (.iload_n 1, 1) := by decide +kernel
theorem dM_sumAt_47 : decode cM_sumAt 47 = .ok (.bipush 10, 2) := by decide +kernel
theorem dM_sumAt_49 : decode cM_sumAt 49 = .ok (.iadd, 1) := by decide +kernel
theorem dM_sumAt_50 : decode cM_sumAt 50 = .ok (.iaload, 1) := by decide +kernel
theorem dM_sumAt_51 : decode cM_sumAt 51 = .ok (.invokestatic 61, 3) := by decide +kernel
theorem dM_sumAt_54 : decode cM_sumAt 54 = .ok (.ireturn, 1) := by decide +kernel
theorem dM_mix_0 : decode cM_mix 0 = .ok (.iload_n 0, 1) := by decide +kernel
theorem dM_mix_1 : decode cM_mix 1 = .ok (.iconst 5, 1) := by decide +kernel
theorem dM_mix_2 : decode cM_mix 2 = .ok (.ishl, 1) := by decide +kernel
theorem dM_mix_3 : decode cM_mix 3 = .ok (.iload_n 0, 1) := by decide +kernel
theorem dM_mix_4 : decode cM_mix 4 = .ok (.bipush 27, 2) := by decide +kernel
theorem dM_mix_6 : decode cM_mix 6 = .ok (.iushr, 1) := by decide +kernel
theorem dM_mix_7 : decode cM_mix 7 = .ok (.ior, 1) := by decide +kernel
theorem dM_mix_8 : decode cM_mix 8 = .ok (.iload_n 1, 1) := by decide +kernel
theorem dM_mix_9 : decode cM_mix 9 = .ok (.iadd, 1) := by decide +kernel
theorem dM_mix_10 : decode cM_mix 10 = .ok (.ireturn, 1) := by decide +kernel
theorem dM_thrown_0 : decode cM_thrown 0 = .ok (.aload_n 0, 1) := by decide +kernel
theorem dM_thrown_1 : decode cM_thrown 1 = .ok (.getfield 58, 3) := by decide +kernel
theorem dM_thrown_4 : decode cM_thrown 4 = .ok (.ireturn, 1) := by decide +kernel
theorem dM_write_0 : decode cM_write 0 = .ok (.aload_n 0, 1) := by decide +kernel
theorem dM_write_1 : decode cM_write 1 = .ok (.iload_n 1, 1) := by decide +kernel
theorem dM_write_2 : decode cM_write 2 = .ok (.bipush 64, 2) := by decide +kernel
theorem dM_write_4 : decode cM_write 4 = .ok (.invokestatic 114, 3) := by decide +kernel
theorem dM_write_7 : decode cM_write 7 = .ok (.ifCond .eq 12, 3) := by decide +kernel
theorem dM_write_10 : decode cM_write 10 = .ok (.iload_n 2, 1) := by decide +kernel
theorem dM_write_11 : decode cM_write 11 = .ok (.bipush 8, 2) := by decide +kernel
theorem dM_write_13 : decode cM_write 13 = .ok (.invokestatic 114, 3) := by decide +kernel
theorem dM_write_16 : decode cM_write 16 = .ok (.ifCond .ne 7, 3) := by decide +kernel
theorem dM_write_19 : decode cM_write 19 = .ok (.iconst 1, 1) := by decide +kernel
theorem dM_write_20 : decode cM_write 20 = .ok (.goto 15, 3) := by decide +kernel
theorem dM_write_23 : decode cM_write 23 = .ok (.aload_n 0, 1) := by decide +kernel
theorem dM_write_24 : decode cM_write 24 = .ok (.getfield 80, 3) := by decide +kernel
theorem dM_write_27 : decode cM_write 27 = .ok (.ifCond .eq 7, 3) := by decide +kernel
theorem dM_write_30 : decode cM_write 30 = .ok (.iconst 2, 1) := by decide +kernel
theorem dM_write_31 : decode cM_write 31 = .ok (.goto 4, 3) := by decide +kernel
theorem dM_write_34 : decode cM_write 34 = .ok (.iconst 0, 1) := by decide +kernel
theorem dM_write_35 : decode cM_write 35 = .ok (.putfield 58, 3) := by decide +kernel
theorem dM_write_38 : decode cM_write 38 = .ok (.aload_n 0, 1) := by decide +kernel
theorem dM_write_39 : decode cM_write 39 = .ok (.getfield 58, 3) := by decide +kernel
theorem dM_write_42 : decode cM_write 42 = .ok (.ifCond .le 5, 3) := by decide +kernel
theorem dM_write_45 : decode cM_write 45 = .ok (.iconst 0, 1) := by decide +kernel
theorem dM_write_46 : decode cM_write 46 = .ok (.ireturn, 1) := by decide +kernel
theorem dM_write_47 : decode cM_write 47 = .ok (.aload_n 0, 1) := by decide +kernel
theorem dM_write_48 : decode cM_write 48 = .ok (.iload_n 1, 1) := by decide +kernel
theorem dM_write_49 : decode cM_write 49 = .ok (.invokevirtual 117, 3) := by decide +kernel
theorem dM_write_52 : decode cM_write 52 = .ok (.istore 4, 2) := by decide +kernel
theorem dM_write_54 : decode cM_write 54 = .ok (.iload 4, 2) := by decide +kernel
theorem dM_write_56 : decode cM_write 56 = .ok (.iconst 2, 1) := by decide +kernel
theorem dM_write_57 : decode cM_write 57 = .ok (.if_icmp .ge 20, 3) := by decide +kernel
theorem dM_write_60 : decode cM_write 60 = .ok (.aload_n 0, 1) := by decide +kernel
theorem dM_write_61 : decode cM_write 61 = .ok (.getfield 7, 3) := by decide +kernel
theorem dM_write_64 : decode cM_write 64 = .ok (.iload 4, 2) := by decide +kernel
theorem dM_write_66 : decode cM_write 66 = .ok (.iload_n 1, 1) := by decide +kernel
theorem dM_write_67 : decode cM_write 67 = .ok (.invokestatic 50, 3) := by decide +kernel
theorem dM_write_70 : decode cM_write 70 = .ok (.bipush 10, 2) := by decide +kernel
theorem dM_write_72 : decode cM_write 72 = .ok (.iadd, 1) := by decide +kernel
theorem dM_write_73 : decode cM_write 73 = .ok (.iaload, 1) := by decide +kernel
theorem dM_write_74 : decode cM_write 74 = .ok (.goto 4, 3) := by decide +kernel
theorem dM_write_77 : decode cM_write 77 = .ok (.iconst 0, 1) := by decide +kernel
theorem dM_write_78 : decode cM_write 78 = .ok (.istore 5, 2) := by decide +kernel
theorem dM_write_80 : decode cM_write 80 = .ok (.aload_n 0, 1) := by decide +kernel
theorem dM_write_81 : decode cM_write 81 = .ok (.iload 5, 2) := by decide +kernel
theorem dM_write_83 : decode cM_write 83 = .ok (.bipush 60, 2) := by decide +kernel
theorem dM_write_85 : decode cM_write 85 = .ok (.if_icmp .ne 7, 3) := by decide +kernel
theorem dM_write_88 : decode cM_write 88 = .ok (.iconst 3, 1) := by decide +kernel
theorem dM_write_89 : decode cM_write 89 = .ok (.goto 4, 3) := by decide +kernel
theorem dM_write_92 : decode cM_write 92 = .ok (.iconst 0, 1) := by decide +kernel
theorem dM_write_93 : decode cM_write 93 = .ok (.putfield 58, 3) := by decide +kernel
theorem dM_write_96 : decode cM_write 96 = .ok (.aload_n 0, 1) := by decide +kernel
theorem dM_write_97 : decode cM_write 97 = .ok (.getfield 58, 3) := by decide +kernel
theorem dM_write_100 : decode cM_write 100 = .ok (.ifCond .le 5, 3) := by decide +kernel
theorem dM_write_103 : decode cM_write 103 = .ok (.iconst 0, 1) := by decide +kernel
theorem dM_write_104 : decode cM_write 104 = .ok (.ireturn, 1) := by decide +kernel
theorem dM_write_105 : decode cM_write 105 = .ok (.aload_n 0, 1) := by decide +kernel
theorem dM_write_106 : decode cM_write 106 = .ok (.iload 4, 2) := by decide +kernel
theorem dM_write_108 : decode cM_write 108 = .ok (.putfield 120, 3) := by decide +kernel
theorem dM_write_111 : decode cM_write 111 = .ok (.iload 4, 2) := by decide +kernel
theorem dM_write_113 : decode cM_write 113 = .ok (.iconst 2, 1) := by decide +kernel
theorem dM_write_114 : decode cM_write 114 = .ok (.if_icmp .ne 5, 3) := by decide +kernel
theorem dM_write_117 : decode cM_write 117 = .ok (.iconst 2, 1) := by decide +kernel
theorem dM_write_118 : decode cM_write 118 = .ok (.ireturn, 1) := by decide +kernel
theorem dM_write_119 : decode cM_write 119 = .ok (.aload_n 0, 1) := by decide +kernel
theorem dM_write_120 : decode cM_write 120 = .ok (.iload 4, 2) := by decide +kernel
theorem dM_write_122 : decode cM_write 122 = .ok (.iload_n 1, 1) := by decide +kernel
theorem dM_write_123 : decode cM_write 123 = .ok (.invokevirtual 123, 3) := by decide +kernel
theorem dM_write_126 : decode cM_write 126 = .ok (.aload_n 0, 1) := by decide +kernel
theorem dM_write_127 : decode cM_write 127 = .ok (.getfield 47, 3) := by decide +kernel
theorem dM_write_130 : decode cM_write 130 = .ok (.iload_n 2, 1) := by decide +kernel
theorem dM_write_131 : decode cM_write 131 = .ok (.iload_n 3, 1) := by decide +kernel
theorem dM_write_132 : decode cM_write 132 = .ok (.iastore, 1) := by decide +kernel
theorem dM_write_133 : decode cM_write 133 = .ok (.aload_n 0, 1) := by decide +kernel
theorem dM_write_134 : decode cM_write 134 = .ok (.iload_n 1, 1) := by decide +kernel
theorem dM_write_135 : decode cM_write 135 = .ok (.iload 5, 2) := by decide +kernel
theorem dM_write_137 : decode cM_write 137 = .ok (.iconst 1, 1) := by decide +kernel
theorem dM_write_138 : decode cM_write 138 = .ok (.iadd, 1) := by decide +kernel
theorem dM_write_139 : decode cM_write 139 = .ok (.invokevirtual 126, 3) := by decide +kernel
theorem dM_write_142 : decode cM_write 142 = .ok (.ifCond .eq 7, 3) := by decide +kernel
theorem dM_write_145 : decode cM_write 145 = .ok (.iconst 0, 1) := by decide +kernel
theorem dM_write_146 : decode cM_write 146 = .ok (.goto 4, 3) := by decide +kernel
theorem dM_write_149 : decode cM_write 149 = .ok (.iconst 3, 1) := by decide +kernel
theorem dM_write_150 : decode cM_write 150 = .ok (.ireturn, 1) := by decide +kernel
theorem dM_in_0 : decode cM_in 0 = .ok (.iload_n 0, 1) := by decide +kernel
theorem dM_in_1 : decode cM_in 1 = .ok (.ifCond .lt 12, 3) := by decide +kernel
theorem dM_in_4 : decode cM_in 4 = .ok (.iload_n 0, 1) := by decide +kernel
theorem dM_in_5 : decode cM_in 5 = .ok (.iload_n 1, 1) := by decide +kernel
theorem dM_in_6 : decode cM_in 6 = .ok (.if_icmp .ge 7, 3) := by decide +kernel
theorem dM_in_9 : decode cM_in 9 = .ok (.iconst 1, 1) := by decide +kernel
theorem dM_in_10 : decode cM_in 10 = .ok (.goto 4, 3) := by decide +kernel
theorem dM_in_13 : decode cM_in 13 = .ok (.iconst 0, 1) := by decide +kernel
theorem dM_in_14 : decode cM_in 14 = .ok (.ireturn, 1) := by decide +kernel
theorem dM_codeOf_0 : decode cM_codeOf 0 = .ok (.aload_n 0, 1) := by decide +kernel
theorem dM_codeOf_1 : decode cM_codeOf 1 = .ok (.iconst 0, 1) := by decide +kernel
theorem dM_codeOf_2 : decode cM_codeOf 2 = .ok (.iload_n 1, 1) := by decide +kernel
theorem dM_codeOf_3 : decode cM_codeOf 3 = .ok (.invokevirtual 111, 3) := by decide +kernel
theorem dM_codeOf_6 : decode cM_codeOf 6 = .ok (.ifCond .ne 7, 3) := by decide +kernel
theorem dM_codeOf_9 : decode cM_codeOf 9 = .ok (.iconst 0, 1) := by decide +kernel
theorem dM_codeOf_10 : decode cM_codeOf 10 = .ok (.goto 17, 3) := by decide +kernel
theorem dM_codeOf_13 : decode cM_codeOf 13 = .ok (.aload_n 0, 1) := by decide +kernel
theorem dM_codeOf_14 : decode cM_codeOf 14 = .ok (.iconst 1, 1) := by decide +kernel
theorem dM_codeOf_15 : decode cM_codeOf 15 = .ok (.iload_n 1, 1) := by decide +kernel
theorem dM_codeOf_16 : decode cM_codeOf 16 = .ok (.invokevirtual 111, 3) := by decide +kernel
theorem dM_codeOf_19 : decode cM_codeOf 19 = .ok (.ifCond .ne 7, 3) := by decide +kernel
theorem dM_codeOf_22 : decode cM_codeOf 22 = .ok (.iconst 1, 1) := by decide +kernel
theorem dM_codeOf_23 : decode cM_codeOf 23 = .ok (.goto 4, 3) := by decide +kernel
theorem dM_codeOf_26 : decode cM_codeOf 26 = .ok (.iconst 2, 1) := by decide +kernel
theorem dM_codeOf_27 : decode cM_codeOf 27 = .ok (.ireturn, 1) := by decide +kernel
theorem dM_verdictOf_0 : decode cM_verdictOf 0 = .ok (.iload_n 1, 1) := by decide +kernel
theorem dM_verdictOf_1 : decode cM_verdictOf 1 = .ok (.iload_n 2, 1) := by decide +kernel
theorem dM_verdictOf_2 : decode cM_verdictOf 2 = .ok (.invokestatic 50, 3) := by decide +kernel
theorem dM_verdictOf_5 : decode cM_verdictOf 5 = .ok (.istore_n 3, 1) := by decide +kernel
theorem dM_verdictOf_6 : decode cM_verdictOf 6 = .ok (.aload_n 0, 1) := by decide +kernel
theorem dM_verdictOf_7 : decode cM_verdictOf 7 = .ok (.iload_n 1, 1) := by decide +kernel
theorem dM_verdictOf_8 : decode cM_verdictOf 8 = .ok (.iload_n 2, 1) := by decide +kernel
theorem dM_verdictOf_9 : decode cM_verdictOf 9 = .ok (.invokevirtual 64, 3) := by decide +kernel
theorem dM_verdictOf_12 : decode cM_verdictOf 12 = .ok (.ifCond .ne 5, 3) := by decide +kernel
theorem dM_verdictOf_15 : decode cM_verdictOf 15 = .ok (.iconst 1, 1) := by decide +kernel
theorem dM_verdictOf_16 : decode cM_verdictOf 16 = .ok (.ireturn, 1) := by decide +kernel
theorem dM_verdictOf_17 : decode cM_verdictOf 17 = .ok (.aload_n 0, 1) := by decide +kernel
theorem dM_verdictOf_18 : decode cM_verdictOf 18 = .ok (.getfield 7, 3) := by decide +kernel
theorem dM_verdictOf_21 : decode cM_verdictOf 21 = .ok (.iload_n 3, 1) := by decide +kernel
theorem dM_verdictOf_22 : decode cM_verdictOf 22 = .ok (.bipush 9, 2) := by decide +kernel
theorem dM_verdictOf_24 : decode cM_verdictOf 24 = .ok (.iadd, 1) := by decide +kernel
theorem dM_verdictOf_25 : decode cM_verdictOf 25 = .ok (.iaload, 1) := by decide +kernel
theorem dM_verdictOf_26 : decode cM_verdictOf 26 = .ok (.iload_n 2, 1) := by decide +kernel
theorem dM_verdictOf_27 : decode cM_verdictOf 27 = .ok (.if_icmp .eq 5, 3) := by decide +kernel
theorem dM_verdictOf_30 : decode cM_verdictOf 30 = .ok (.iconst 2, 1) := by decide +kernel
theorem dM_verdictOf_31 : decode cM_verdictOf 31 = .ok (.ireturn, 1) := by decide +kernel
theorem dM_verdictOf_32 : decode cM_verdictOf 32 = .ok (.aload_n 0, 1) := by decide +kernel
theorem dM_verdictOf_33 : decode cM_verdictOf 33 = .ok (.iload_n 1, 1) := by decide +kernel
theorem dM_verdictOf_34 : decode cM_verdictOf 34 = .ok (.iload_n 2, 1) := by decide +kernel
theorem dM_verdictOf_35 : decode cM_verdictOf 35 = .ok (.invokevirtual 74, 3) := by decide +kernel
theorem dM_verdictOf_38 : decode cM_verdictOf 38 = .ok (.ifCond .eq 5, 3) := by decide +kernel
theorem dM_verdictOf_41 : decode cM_verdictOf 41 = .ok (.iconst 3, 1) := by decide +kernel
theorem dM_verdictOf_42 : decode cM_verdictOf 42 = .ok (.ireturn, 1) := by decide +kernel
theorem dM_verdictOf_43 : decode cM_verdictOf 43 = .ok (.aload_n 0, 1) := by decide +kernel
theorem dM_verdictOf_44 : decode cM_verdictOf 44 = .ok (.iload_n 1, 1) := by decide +kernel
theorem dM_verdictOf_45 : decode cM_verdictOf 45 = .ok (.iload_n 2, 1) := by decide +kernel
theorem dM_verdictOf_46 : decode cM_verdictOf 46 = .ok (.invokevirtual 77, 3) := by decide +kernel
theorem dM_verdictOf_49 : decode cM_verdictOf 49 = .ok (.istore 4, 2) := by decide +kernel
theorem dM_verdictOf_51 : decode cM_verdictOf 51 = .ok (.aload_n 0, 1) := by decide +kernel
theorem dM_verdictOf_52 : decode cM_verdictOf 52 = .ok (.getfield 7, 3) := by decide +kernel
theorem dM_verdictOf_55 : decode cM_verdictOf 55 = .ok (.iload_n 3, 1) := by decide +kernel
theorem dM_verdictOf_56 : decode cM_verdictOf 56 = .ok (.bipush 10, 2) := by decide +kernel
theorem dM_verdictOf_58 : decode cM_verdictOf 58 = .ok (.iadd, 1) := by decide +kernel
theorem dM_verdictOf_59 : decode cM_verdictOf 59 = .ok (.iaload, 1) := by decide +kernel
theorem dM_verdictOf_60 : decode cM_verdictOf 60 = .ok (.iload 4, 2) := by decide +kernel
theorem dM_verdictOf_62 : decode cM_verdictOf 62 = .ok (.if_icmp .ge 7, 3) := by decide +kernel
theorem dM_verdictOf_65 : decode cM_verdictOf 65 = .ok (.iconst 4, 1) := by decide +kernel
theorem dM_verdictOf_66 : decode cM_verdictOf 66 = .ok (.goto 22, 3) := by decide +kernel
theorem dM_verdictOf_69 : decode cM_verdictOf 69 = .ok (.aload_n 0, 1) := by decide +kernel
theorem dM_verdictOf_70 : decode cM_verdictOf 70 = .ok (.getfield 7, 3) := by decide +kernel
theorem dM_verdictOf_73 : decode cM_verdictOf 73 = .ok (.iload_n 3, 1) := by decide +kernel
theorem dM_verdictOf_74 : decode cM_verdictOf 74 = .ok (.bipush 10, 2) := by decide +kernel
theorem dM_verdictOf_76 : decode cM_verdictOf 76 = .ok (.iadd, 1) := by decide +kernel
theorem dM_verdictOf_77 : decode cM_verdictOf 77 = .ok (.iaload, 1) := by decide +kernel
theorem dM_verdictOf_78 : decode cM_verdictOf 78 = .ok (.iload 4, 2) := by decide +kernel
theorem dM_verdictOf_80 : decode cM_verdictOf 80 = .ok (.if_icmp .le 7, 3) := by decide +kernel
theorem dM_verdictOf_83 : decode cM_verdictOf 83 = .ok (.iconst 5, 1) := by decide +kernel
theorem dM_verdictOf_84 : decode cM_verdictOf 84 = .ok (.goto 4, 3) := by decide +kernel
theorem dM_verdictOf_87 : decode cM_verdictOf 87 = .ok (.iconst 0, 1) := by decide +kernel
theorem dM_verdictOf_88 : decode cM_verdictOf 88 = .ok (.ireturn, 1) := by decide +kernel
theorem dM_isWhole_0 : decode cM_isWhole 0 = .ok (.iload_n 1, 1) := by decide +kernel
theorem dM_isWhole_1 : decode cM_isWhole 1 = .ok (.iload_n 2, 1) := by decide +kernel
theorem dM_isWhole_2 : decode cM_isWhole 2 = .ok (.invokestatic 50, 3) := by decide +kernel
theorem dM_isWhole_5 : decode cM_isWhole 5 = .ok (.istore_n 3, 1) := by decide +kernel
theorem dM_isWhole_6 : decode cM_isWhole 6 = .ok (.aload_n 0, 1) := by decide +kernel
theorem dM_isWhole_7 : decode cM_isWhole 7 = .ok (.getfield 7, 3) := by decide +kernel
theorem dM_isWhole_10 : decode cM_isWhole 10 = .ok (.iload_n 3, 1) := by decide +kernel
theorem dM_isWhole_11 : decode cM_isWhole 11 = .ok (.bipush 8, 2) := by decide +kernel
theorem dM_isWhole_13 : decode cM_isWhole 13 = .ok (.iadd, 1) := by decide +kernel
theorem dM_isWhole_14 : decode cM_isWhole 14 = .ok (.iaload, 1) := by decide +kernel
theorem dM_isWhole_15 : decode cM_isWhole 15 = .ok (.aload_n 0, 1) := by decide +kernel
theorem dM_isWhole_16 : decode cM_isWhole 16 = .ok (.iload_n 3, 1) := by decide +kernel
theorem dM_isWhole_17 : decode cM_isWhole 17 = .ok (.invokevirtual 54, 3) := by decide +kernel
theorem dM_isWhole_20 : decode cM_isWhole 20 = .ok (.if_icmp .ne 7, 3) := by decide +kernel
theorem dM_isWhole_23 : decode cM_isWhole 23 = .ok (.iconst 1, 1) := by decide +kernel
theorem dM_isWhole_24 : decode cM_isWhole 24 = .ok (.goto 4, 3) := by decide +kernel
theorem dM_isWhole_27 : decode cM_isWhole 27 = .ok (.iconst 0, 1) := by decide +kernel
theorem dM_isWhole_28 : decode cM_isWhole 28 = .ok (.ireturn, 1) := by decide +kernel
theorem dM_isUnknown_0 : decode cM_isUnknown 0 = .ok (.aload_n 0, 1) := by decide +kernel
theorem dM_isUnknown_1 : decode cM_isUnknown 1 = .ok (.iconst 1, 1) := by decide +kernel
theorem dM_isUnknown_2 : decode cM_isUnknown 2 = .ok (.iload_n 1, 1) := by decide +kernel
theorem dM_isUnknown_3 : decode cM_isUnknown 3 = .ok (.isub, 1) := by decide +kernel
theorem dM_isUnknown_4 : decode cM_isUnknown 4 = .ok (.iload_n 2, 1) := by decide +kernel
theorem dM_isUnknown_5 : decode cM_isUnknown 5 = .ok (.bipush 8, 2) := by decide +kernel
theorem dM_isUnknown_7 : decode cM_isUnknown 7 = .ok (.idiv, 1) := by decide +kernel
theorem dM_isUnknown_8 : decode cM_isUnknown 8 = .ok (.invokevirtual 68, 3) := by decide +kernel
theorem dM_isUnknown_11 : decode cM_isUnknown 11 = .ok (.ifCond .ne 19, 3) := by decide +kernel
theorem dM_isUnknown_14 : decode cM_isUnknown 14 = .ok (.aload_n 0, 1) := by decide +kernel
theorem dM_isUnknown_15 : decode cM_isUnknown 15 = .ok (.iload_n 1, 1) := by decide +kernel
theorem dM_isUnknown_16 : decode cM_isUnknown 16 = .ok (.iload_n 2, 1) := by decide +kernel
theorem dM_isUnknown_17 : decode cM_isUnknown 17 = .ok (.bipush 8, 2) := by decide +kernel
theorem dM_isUnknown_19 : decode cM_isUnknown 19 = .ok (.idiv, 1) := by decide +kernel
theorem dM_isUnknown_20 : decode cM_isUnknown 20 = .ok (.invokevirtual 68, 3) := by decide +kernel
theorem dM_isUnknown_23 : decode cM_isUnknown 23 = .ok (.ifCond .ne 7, 3) := by decide +kernel
theorem dM_isUnknown_26 : decode cM_isUnknown 26 = .ok (.iconst 1, 1) := by decide +kernel
theorem dM_isUnknown_27 : decode cM_isUnknown 27 = .ok (.goto 4, 3) := by decide +kernel
theorem dM_isUnknown_30 : decode cM_isUnknown 30 = .ok (.iconst 0, 1) := by decide +kernel
theorem dM_isUnknown_31 : decode cM_isUnknown 31 = .ok (.ireturn, 1) := by decide +kernel
theorem dM_isRightPage_0 : decode cM_isRightPage 0 = .ok (.iload_n 1, 1) := by decide +kernel
theorem dM_isRightPage_1 : decode cM_isRightPage 1 = .ok (.bipush 64, 2) := by decide +kernel
theorem dM_isRightPage_3 : decode cM_isRightPage 3 = .ok (.iload_n 2, 1) := by decide +kernel
theorem dM_isRightPage_4 : decode cM_isRightPage 4 = .ok (.iadd, 1) := by decide +kernel
theorem dM_isRightPage_5 : decode cM_isRightPage 5 = .ok (.invokestatic 50, 3) := by decide +kernel
theorem dM_isRightPage_8 : decode cM_isRightPage 8 = .ok (.istore_n 3, 1) := by decide +kernel
theorem dM_isRightPage_9 : decode cM_isRightPage 9 = .ok (.aload_n 0, 1) := by decide +kernel
theorem dM_isRightPage_10 : decode cM_isRightPage 10 = .ok (.iload_n 1, 1) := by decide +kernel
theorem dM_isRightPage_11 : decode cM_isRightPage 11 = .ok (.bipush 64, 2) := by decide +kernel
theorem dM_isRightPage_13 : decode cM_isRightPage 13 = .ok (.iload_n 2, 1) := by decide +kernel
theorem dM_isRightPage_14 : decode cM_isRightPage 14 = .ok (.iadd, 1) := by decide +kernel
theorem dM_isRightPage_15 : decode cM_isRightPage 15 = .ok (.invokevirtual 64, 3) := by decide +kernel
theorem dM_isRightPage_18 : decode cM_isRightPage 18 = .ok (.ifCond .eq 46, 3) := by decide +kernel
theorem dM_isRightPage_21 : decode cM_isRightPage 21 = .ok (.aload_n 0, 1) := by decide +kernel
theorem dM_isRightPage_22 : decode cM_isRightPage 22 = .ok (.getfield 7, 3) := by decide +kernel
theorem dM_isRightPage_25 : decode cM_isRightPage 25 = .ok (.iload_n 3, 1) := by decide +kernel
theorem dM_isRightPage_26 : decode cM_isRightPage 26 = .ok (.bipush 9, 2) := by decide +kernel
theorem dM_isRightPage_28 : decode cM_isRightPage 28 = .ok (.iadd, 1) := by decide +kernel
theorem dM_isRightPage_29 : decode cM_isRightPage 29 = .ok (.iaload, 1) := by decide +kernel
theorem dM_isRightPage_30 : decode cM_isRightPage 30 = .ok (.bipush 64, 2) := by decide +kernel
theorem dM_isRightPage_32 : decode cM_isRightPage 32 = .ok (.iload_n 2, 1) := by decide +kernel
theorem dM_isRightPage_33 : decode cM_isRightPage 33 = .ok (.iadd, 1) := by decide +kernel
theorem dM_isRightPage_34 : decode cM_isRightPage 34 = .ok (.if_icmp .ne 30, 3) := by decide +kernel
theorem dM_isRightPage_37 : decode cM_isRightPage 37 = .ok (.aload_n 0, 1) := by decide +kernel
theorem dM_isRightPage_38 : decode cM_isRightPage 38 = .ok (.getfield 7, 3) := by decide +kernel
theorem dM_isRightPage_41 : decode cM_isRightPage 41 = .ok (.iload_n 3, 1) := by decide +kernel
theorem dM_isRightPage_42 : decode cM_isRightPage 42 = .ok (.bipush 10, 2) := by decide +kernel
theorem dM_isRightPage_44 : decode cM_isRightPage 44 = .ok (.iadd, 1) := by decide +kernel
theorem dM_isRightPage_45 : decode cM_isRightPage 45 = .ok (.iaload, 1) := by decide +kernel
theorem dM_isRightPage_46 : decode cM_isRightPage 46 = .ok (.aload_n 0, 1) := by decide +kernel
theorem dM_isRightPage_47 : decode cM_isRightPage 47 = .ok (.getfield 13, 3) := by decide +kernel
theorem dM_isRightPage_50 : decode cM_isRightPage 50 = .ok (.bipush 8, 2) := by decide +kernel
theorem dM_isRightPage_52 : decode cM_isRightPage 52 = .ok (.iload_n 1, 1) := by decide +kernel
theorem dM_isRightPage_53 : decode cM_isRightPage 53 = .ok (.imul, 1) := by decide +kernel
theorem dM_isRightPage_54 : decode cM_isRightPage 54 = .ok (.iload_n 2, 1) := by decide +kernel
theorem dM_isRightPage_55 : decode cM_isRightPage 55 = .ok (.iadd, 1) := by decide +kernel
theorem dM_isRightPage_56 : decode cM_isRightPage 56 = .ok (.iaload, 1) := by decide +kernel
theorem dM_isRightPage_57 : decode cM_isRightPage 57 = .ok (.if_icmp .ne 7, 3) := by decide +kernel
theorem dM_isRightPage_60 : decode cM_isRightPage 60 = .ok (.iconst 1, 1) := by decide +kernel
theorem dM_isRightPage_61 : decode cM_isRightPage 61 = .ok (.goto 4, 3) := by decide +kernel
theorem dM_isRightPage_64 : decode cM_isRightPage 64 = .ok (.iconst 0, 1) := by decide +kernel
theorem dM_isRightPage_65 : decode cM_isRightPage 65 = .ok (.ireturn, 1) := by decide +kernel
theorem dM_expectedOf_0 : decode cM_expectedOf 0 = .ok (.iload_n 2, 1) := by decide +kernel
theorem dM_expectedOf_1 : decode cM_expectedOf 1 = .ok (.bipush 8, 2) := by decide +kernel
theorem dM_expectedOf_3 : decode cM_expectedOf 3 = .ok (.idiv, 1) := by decide +kernel
theorem dM_expectedOf_4 : decode cM_expectedOf 4 = .ok (.istore_n 3, 1) := by decide +kernel
theorem dM_expectedOf_5 : decode cM_expectedOf 5 = .ok (.aload_n 0, 1) := by decide +kernel
theorem dM_expectedOf_6 : decode cM_expectedOf 6 = .ok (.iconst 1, 1) := by decide +kernel
theorem dM_expectedOf_7 : decode cM_expectedOf 7 = .ok (.iload_n 1, 1) := by decide +kernel
theorem dM_expectedOf_8 : decode cM_expectedOf 8 = .ok (.isub, 1) := by decide +kernel
theorem dM_expectedOf_9 : decode cM_expectedOf 9 = .ok (.iload_n 3, 1) := by decide +kernel
theorem dM_expectedOf_10 : decode cM_expectedOf 10 = .ok (.invokevirtual 68, 3) := by decide +kernel
theorem dM_expectedOf_13 : decode cM_expectedOf 13 = .ok (.ifCond .eq 14, 3) := by decide +kernel
theorem dM_expectedOf_16 : decode cM_expectedOf 16 = .ok (.aload_n 0, 1) := by decide +kernel
theorem dM_expectedOf_17 : decode cM_expectedOf 17 = .ok (.iconst 1, 1) := by decide +kernel
theorem dM_expectedOf_18 : decode cM_expectedOf 18 = .ok (.iload_n 1, 1) := by decide +kernel
theorem dM_expectedOf_19 : decode cM_expectedOf 19 = .ok (.isub, 1) := by decide +kernel
theorem dM_expectedOf_20 : decode cM_expectedOf 20 = .ok (.iload_n 2, 1) := by decide +kernel
theorem dM_expectedOf_21 : decode cM_expectedOf 21 = .ok (.invokevirtual 71, 3) := by decide +kernel
theorem dM_expectedOf_24 : decode cM_expectedOf 24 = .ok (.goto 22, 3) := by decide +kernel
theorem dM_expectedOf_27 : decode cM_expectedOf 27 = .ok (.aload_n 0, 1) := by decide +kernel
theorem dM_expectedOf_28 : decode cM_expectedOf 28 = .ok (.iload_n 1, 1) := by decide +kernel
theorem dM_expectedOf_29 : decode cM_expectedOf 29 = .ok (.iload_n 3, 1) := by decide +kernel
theorem dM_expectedOf_30 : decode cM_expectedOf 30 = .ok (.invokevirtual 68, 3) := by decide +kernel
theorem dM_expectedOf_33 : decode cM_expectedOf 33 = .ok (.ifCond .eq 12, 3) := by decide +kernel
theorem dM_expectedOf_36 : decode cM_expectedOf 36 = .ok (.aload_n 0, 1) := by decide +kernel
theorem dM_expectedOf_37 : decode cM_expectedOf 37 = .ok (.iload_n 1, 1) := by decide +kernel
theorem dM_expectedOf_38 : decode cM_expectedOf 38 = .ok (.iload_n 2, 1) := by decide +kernel
theorem dM_expectedOf_39 : decode cM_expectedOf 39 = .ok (.invokevirtual 71, 3) := by decide +kernel
theorem dM_expectedOf_42 : decode cM_expectedOf 42 = .ok (.goto 4, 3) := by decide +kernel
theorem dM_expectedOf_45 : decode cM_expectedOf 45 = .ok (.iconst (-1), 1) := by decide +kernel
theorem dM_expectedOf_46 : decode cM_expectedOf 46 = .ok (.ireturn, 1) := by decide +kernel
theorem dM_listed_0 : decode cM_listed 0 = .ok (.aload_n 0, 1) := by decide +kernel
theorem dM_listed_1 : decode cM_listed 1 = .ok (.getfield 7, 3) := by decide +kernel
theorem dM_listed_4 : decode cM_listed 4 = .ok (.iload_n 1, 1) := by decide +kernel
theorem dM_listed_5 : decode cM_listed 5 = .ok (.bipush 64, 2) := by decide +kernel
theorem dM_listed_7 : decode cM_listed 7 = .ok (.iload_n 2, 1) := by decide +kernel
theorem dM_listed_8 : decode cM_listed 8 = .ok (.bipush 8, 2) := by decide +kernel
theorem dM_listed_10 : decode cM_listed 10 = .ok (.idiv, 1) := by decide +kernel
theorem dM_listed_11 : decode cM_listed 11 = .ok (.iadd, 1) := by decide +kernel
theorem dM_listed_12 : decode cM_listed 12 = .ok (.invokestatic 50, 3) := by decide +kernel
theorem dM_listed_15 : decode cM_listed 15 = .ok (.iload_n 2, 1) := by decide +kernel
theorem dM_listed_16 : decode cM_listed 16 = .ok (.bipush 8, 2) := by decide +kernel
theorem dM_listed_18 : decode cM_listed 18 = .ok (.irem, 1) := by decide +kernel
theorem dM_listed_19 : decode cM_listed 19 = .ok (.iadd, 1) := by decide +kernel
theorem dM_listed_20 : decode cM_listed 20 = .ok (.iaload, 1) := by decide +kernel
theorem dM_listed_21 : decode cM_listed 21 = .ok (.ireturn, 1) := by decide +kernel
theorem dM_takeWords_0 : decode cM_takeWords 0 = .ok (.iconst 0, 1) := by decide +kernel
theorem dM_takeWords_1 : decode cM_takeWords 1 = .ok (.istore_n 3, 1) := by decide +kernel
theorem dM_takeWords_2 : decode cM_takeWords 2 = .ok (.iload_n 3, 1) := by decide +kernel
theorem dM_takeWords_3 : decode cM_takeWords 3 = .ok (.bipush 8, 2) := by decide +kernel
theorem dM_takeWords_5 : decode cM_takeWords 5 = .ok (.if_icmp .ge 27, 3) := by decide +kernel
theorem dM_takeWords_8 : decode cM_takeWords 8 = .ok (.aload_n 0, 1) := by decide +kernel
theorem dM_takeWords_9 : decode cM_takeWords 9 = .ok (.getfield 47, 3) := by decide +kernel
theorem dM_takeWords_12 : decode cM_takeWords 12 = .ok (.iload_n 3, 1) := by decide +kernel
theorem dM_takeWords_13 : decode cM_takeWords 13 = .ok (.aload_n 0, 1) := by decide +kernel
theorem dM_takeWords_14 : decode cM_takeWords 14 = .ok (.getfield 7, 3) := by decide +kernel
theorem dM_takeWords_17 : decode cM_takeWords 17 = .ok (.iload_n 1, 1) := by decide +kernel
theorem dM_takeWords_18 : decode cM_takeWords 18 = .ok (.iload_n 2, 1) := by decide +kernel
theorem dM_takeWords_19 : decode cM_takeWords 19 = .ok (.invokestatic 50, 3) := by decide +kernel
theorem dM_takeWords_22 : decode cM_takeWords 22 = .ok (.iload_n 3, 1) := by decide +kernel
theorem dM_takeWords_23 : decode cM_takeWords 23 = .ok (.iadd, 1) := by decide +kernel
theorem dM_takeWords_24 : decode cM_takeWords 24 = .ok (.iaload, 1) := by decide +kernel
theorem dM_takeWords_25 : decode cM_takeWords 25 = .ok (.iastore, 1) := by decide +kernel
theorem dM_takeWords_26 : decode cM_takeWords 26 = .ok (.iinc 3 1, 3) := by decide +kernel
theorem dM_takeWords_29 : decode cM_takeWords 29 = .ok (.goto (-27), 3) := by decide +kernel
theorem dM_takeWords_32 : decode cM_takeWords 32 = .ok (.return_, 1) := by decide +kernel
theorem dM_put_0 : decode cM_put 0 = .ok (.aload_n 0, 1) := by decide +kernel
theorem dM_put_1 : decode cM_put 1 = .ok (.iload_n 1, 1) := by decide +kernel
theorem dM_put_2 : decode cM_put 2 = .ok (.putfield 16, 3) := by decide +kernel
theorem dM_put_5 : decode cM_put 5 = .ok (.aload_n 0, 1) := by decide +kernel
theorem dM_put_6 : decode cM_put 6 = .ok (.iload_n 2, 1) := by decide +kernel
theorem dM_put_7 : decode cM_put 7 = .ok (.putfield 105, 3) := by decide +kernel
theorem dM_put_10 : decode cM_put 10 = .ok (.iconst 0, 1) := by decide +kernel
theorem dM_put_11 : decode cM_put 11 = .ok (.istore_n 3, 1) := by decide +kernel
theorem dM_put_12 : decode cM_put 12 = .ok (.iload_n 3, 1) := by decide +kernel
theorem dM_put_13 : decode cM_put 13 = .ok (.bipush 8, 2) := by decide +kernel
theorem dM_put_15 : decode cM_put 15 = .ok (.if_icmp .ge 21, 3) := by decide +kernel
theorem dM_put_18 : decode cM_put 18 = .ok (.aload_n 0, 1) := by decide +kernel
theorem dM_put_19 : decode cM_put 19 = .ok (.getfield 20, 3) := by decide +kernel
theorem dM_put_22 : decode cM_put 22 = .ok (.iload_n 3, 1) := by decide +kernel
theorem dM_put_23 : decode cM_put 23 = .ok (.aload_n 0, 1) := by decide +kernel
theorem dM_put_24 : decode cM_put 24 = .ok (.getfield 47, 3) := by decide +kernel
theorem dM_put_27 : decode cM_put 27 = .ok (.iload_n 3, 1) := by decide +kernel
theorem dM_put_28 : decode cM_put 28 = .ok (.iaload, 1) := by decide +kernel
theorem dM_put_29 : decode cM_put 29 = .ok (.iastore, 1) := by decide +kernel
theorem dM_put_30 : decode cM_put 30 = .ok (.iinc 3 1, 3) := by decide +kernel
theorem dM_put_33 : decode cM_put 33 = .ok (.goto (-21), 3) := by decide +kernel
theorem dM_put_36 : decode cM_put 36 = .ok (.aload_n 0, 1) := by decide +kernel
theorem dM_put_37 : decode cM_put 37 = .ok (.iconst 0, 1) := by decide +kernel
theorem dM_put_38 : decode cM_put 38 = .ok (.iload_n 1, 1) := by decide +kernel
theorem dM_put_39 : decode cM_put 39 = .ok (.iload_n 2, 1) := by decide +kernel
theorem dM_put_40 : decode cM_put 40 = .ok (.invokevirtual 108, 3) := by decide +kernel
theorem dM_put_43 : decode cM_put 43 = .ok (.ifCond .eq 13, 3) := by decide +kernel
theorem dM_put_46 : decode cM_put 46 = .ok (.aload_n 0, 1) := by decide +kernel
theorem dM_put_47 : decode cM_put 47 = .ok (.iconst 1, 1) := by decide +kernel
theorem dM_put_48 : decode cM_put 48 = .ok (.iload_n 1, 1) := by decide +kernel
theorem dM_put_49 : decode cM_put 49 = .ok (.iload_n 2, 1) := by decide +kernel
theorem dM_put_50 : decode cM_put 50 = .ok (.invokevirtual 108, 3) := by decide +kernel
theorem dM_put_53 : decode cM_put 53 = .ok (.ifCond .ne 5, 3) := by decide +kernel
theorem dM_put_56 : decode cM_put 56 = .ok (.iconst 0, 1) := by decide +kernel
theorem dM_put_57 : decode cM_put 57 = .ok (.ireturn, 1) := by decide +kernel
theorem dM_put_58 : decode cM_put 58 = .ok (.aload_n 0, 1) := by decide +kernel
theorem dM_put_59 : decode cM_put 59 = .ok (.iconst (-1), 1) := by decide +kernel
theorem dM_put_60 : decode cM_put 60 = .ok (.putfield 16, 3) := by decide +kernel
theorem dM_put_63 : decode cM_put 63 = .ok (.iconst 1, 1) := by decide +kernel
theorem dM_put_64 : decode cM_put 64 = .ok (.ireturn, 1) := by decide +kernel
theorem dM_putCopy_0 : decode cM_putCopy 0 = .ok (.aload_n 0, 1) := by decide +kernel
theorem dM_putCopy_1 : decode cM_putCopy 1 = .ok (.iload_n 1, 1) := by decide +kernel
theorem dM_putCopy_2 : decode cM_putCopy 2 = .ok (.iload_n 2, 1) := by decide +kernel
theorem dM_putCopy_3 : decode cM_putCopy 3 = .ok (.iload_n 3, 1) := by decide +kernel
theorem dM_putCopy_4 : decode cM_putCopy 4 = .ok (.invokevirtual 99, 3) := by decide +kernel
theorem dM_putCopy_7 : decode cM_putCopy 7 = .ok (.ifCond .eq 17, 3) := by decide +kernel
theorem dM_putCopy_10 : decode cM_putCopy 10 = .ok (.aload_n 0, 1) := by decide +kernel
theorem dM_putCopy_11 : decode cM_putCopy 11 = .ok (.iload_n 1, 1) := by decide +kernel
theorem dM_putCopy_12 : decode cM_putCopy 12 = .ok (.iload_n 2, 1) := by decide +kernel
theorem dM_putCopy_13 : decode cM_putCopy 13 = .ok (.iload_n 3, 1) := by decide +kernel
theorem dM_putCopy_14 : decode cM_putCopy 14 = .ok (.invokevirtual 102, 3) := by decide +kernel
theorem dM_putCopy_17 : decode cM_putCopy 17 = .ok (.ifCond .eq 7, 3) := by decide +kernel
theorem dM_putCopy_20 : decode cM_putCopy 20 = .ok (.iconst 1, 1) := by decide +kernel
theorem dM_putCopy_21 : decode cM_putCopy 21 = .ok (.goto 4, 3) := by decide +kernel
theorem dM_putCopy_24 : decode cM_putCopy 24 = .ok (.iconst 0, 1) := by decide +kernel
theorem dM_putCopy_25 : decode cM_putCopy 25 = .ok (.ireturn, 1) := by decide +kernel
theorem dM_storeRow_0 : decode cM_storeRow 0 = .ok (.iconst 0, 1) := by decide +kernel
theorem dM_storeRow_1 : decode cM_storeRow 1 = .ok (.istore 4, 2) := by decide +kernel
theorem dM_storeRow_3 : decode cM_storeRow 3 = .ok (.iload 4, 2) := by decide +kernel
theorem dM_storeRow_5 : decode cM_storeRow 5 = .ok (.bipush 8, 2) := by decide +kernel
theorem dM_storeRow_7 : decode cM_storeRow 7 = .ok (.if_icmp .ge 23, 3) := by decide +kernel
theorem dM_storeRow_10 : decode cM_storeRow 10 = .ok (.aload_n 0, 1) := by decide +kernel
theorem dM_storeRow_11 : decode cM_storeRow 11 = .ok (.getfield 44, 3) := by decide +kernel
theorem dM_storeRow_14 : decode cM_storeRow 14 = .ok (.iload 4, 2) := by decide +kernel
theorem dM_storeRow_16 : decode cM_storeRow 16 = .ok (.aload_n 0, 1) := by decide +kernel
theorem dM_storeRow_17 : decode cM_storeRow 17 = .ok (.getfield 47, 3) := by decide +kernel
theorem dM_storeRow_20 : decode cM_storeRow 20 = .ok (.iload 4, 2) := by decide +kernel
theorem dM_storeRow_22 : decode cM_storeRow 22 = .ok (.iaload, 1) := by decide +kernel
theorem dM_storeRow_23 : decode cM_storeRow 23 = .ok (.iastore, 1) := by decide +kernel
theorem dM_storeRow_24 : decode cM_storeRow 24 = .ok (.iinc 4 1, 3) := by decide +kernel
theorem dM_storeRow_27 : decode cM_storeRow 27 = .ok (.goto (-24), 3) := by decide +kernel
theorem dM_storeRow_30 : decode cM_storeRow 30 = .ok (.aload_n 0, 1) := by decide +kernel
theorem dM_storeRow_31 : decode cM_storeRow 31 = .ok (.iload_n 1, 1) := by decide +kernel
theorem dM_storeRow_32 : decode cM_storeRow 32 = .ok (.iload_n 2, 1) := by decide +kernel
theorem dM_storeRow_33 : decode cM_storeRow 33 = .ok (.iload_n 3, 1) := by decide +kernel
theorem dM_storeRow_34 : decode cM_storeRow 34 = .ok (.invokevirtual 95, 3) := by decide +kernel
theorem dM_storeRow_37 : decode cM_storeRow 37 = .ok (.ireturn, 1) := by decide +kernel
theorem dM_store_0 : decode cM_store 0 = .ok (.aload_n 0, 1) := by decide +kernel
theorem dM_store_1 : decode cM_store 1 = .ok (.getfield 23, 3) := by decide +kernel
theorem dM_store_4 : decode cM_store 4 = .ok (.ifCond .ne 10, 3) := by decide +kernel
theorem dM_store_7 : decode cM_store 7 = .ok (.aload_n 0, 1) := by decide +kernel
theorem dM_store_8 : decode cM_store 8 = .ok (.iconst 1, 1) := by decide +kernel
theorem dM_store_9 : decode cM_store 9 = .ok (.putfield 80, 3) := by decide +kernel
theorem dM_store_12 : decode cM_store 12 = .ok (.iconst 0, 1) := by decide +kernel
theorem dM_store_13 : decode cM_store 13 = .ok (.ireturn, 1) := by decide +kernel
theorem dM_store_14 : decode cM_store 14 = .ok (.aload_n 0, 1) := by decide +kernel
theorem dM_store_15 : decode cM_store 15 = .ok (.aload_n 0, 1) := by decide +kernel
theorem dM_store_16 : decode cM_store 16 = .ok (.getfield 23, 3) := by decide +kernel
theorem dM_store_19 : decode cM_store 19 = .ok (.ifCond .le 12, 3) := by decide +kernel
theorem dM_store_22 : decode cM_store 22 = .ok (.aload_n 0, 1) := by decide +kernel
theorem dM_store_23 : decode cM_store 23 = .ok (.getfield 23, 3) := by decide +kernel
theorem dM_store_26 : decode cM_store 26 = .ok (.iconst 1, 1) := by decide +kernel
theorem dM_store_27 : decode cM_store 27 = .ok (.isub, 1) := by decide +kernel
theorem dM_store_28 : decode cM_store 28 = .ok (.goto 7, 3) := by decide +kernel
theorem dM_store_31 : decode cM_store 31 = .ok (.aload_n 0, 1) := by decide +kernel
theorem dM_store_32 : decode cM_store 32 = .ok (.getfield 23, 3) := by decide +kernel
theorem dM_store_35 : decode cM_store 35 = .ok (.putfield 23, 3) := by decide +kernel
theorem dM_store_38 : decode cM_store 38 = .ok (.aload_n 0, 1) := by decide +kernel
theorem dM_store_39 : decode cM_store 39 = .ok (.getfield 44, 3) := by decide +kernel
theorem dM_store_42 : decode cM_store 42 = .ok (.bipush 9, 2) := by decide +kernel
theorem dM_store_44 : decode cM_store 44 = .ok (.iload_n 2, 1) := by decide +kernel
theorem dM_store_45 : decode cM_store 45 = .ok (.iastore, 1) := by decide +kernel
theorem dM_store_46 : decode cM_store 46 = .ok (.aload_n 0, 1) := by decide +kernel
theorem dM_store_47 : decode cM_store 47 = .ok (.getfield 44, 3) := by decide +kernel
theorem dM_store_50 : decode cM_store 50 = .ok (.bipush 10, 2) := by decide +kernel
theorem dM_store_52 : decode cM_store 52 = .ok (.iload_n 3, 1) := by decide +kernel
theorem dM_store_53 : decode cM_store 53 = .ok (.iastore, 1) := by decide +kernel
theorem dM_store_54 : decode cM_store 54 = .ok (.iconst 0, 1) := by decide +kernel
theorem dM_store_55 : decode cM_store 55 = .ok (.istore 4, 2) := by decide +kernel
theorem dM_store_57 : decode cM_store 57 = .ok (.iconst 0, 1) := by decide +kernel
theorem dM_store_58 : decode cM_store 58 = .ok (.istore 5, 2) := by decide +kernel
theorem dM_store_60 : decode cM_store 60 = .ok (.iload 5, 2) := by decide +kernel
theorem dM_store_62 : decode cM_store 62 = .ok (.bipush 8, 2) := by decide +kernel
theorem dM_store_64 : decode cM_store 64 = .ok (.if_icmp .ge 23, 3) := by decide +kernel
theorem dM_store_67 : decode cM_store 67 = .ok (.iload 4, 2) := by decide +kernel
theorem dM_store_69 : decode cM_store 69 = .ok (.aload_n 0, 1) := by decide +kernel
theorem dM_store_70 : decode cM_store 70 = .ok (.getfield 44, 3) := by decide +kernel
theorem dM_store_73 : decode cM_store 73 = .ok (.iload 5, 2) := by decide +kernel
theorem dM_store_75 : decode cM_store 75 = .ok (.iaload, 1) := by decide +kernel
theorem dM_store_76 : decode cM_store 76 = .ok (.invokestatic 61, 3) := by decide +kernel
theorem dM_store_79 : decode cM_store 79 = .ok (.istore 4, 2) := by decide +kernel
theorem dM_store_81 : decode cM_store 81 = .ok (.iinc 5 1, 3) := by decide +kernel
theorem dM_store_84 : decode cM_store 84 = .ok (.goto (-24), 3) := by decide +kernel
theorem dM_store_87 : decode cM_store 87 = .ok (.aload_n 0, 1) := by decide +kernel
theorem dM_store_88 : decode cM_store 88 = .ok (.getfield 44, 3) := by decide +kernel
theorem dM_store_91 : decode cM_store 91 = .ok (.bipush 8, 2) := by decide +kernel
theorem dM_store_93 : decode cM_store 93 = .ok (.iload 4, 2) := by decide +kernel
theorem dM_store_95 : decode cM_store 95 = .ok (.iload_n 2, 1) := by decide +kernel
theorem dM_store_96 : decode cM_store 96 = .ok (.invokestatic 61, 3) := by decide +kernel
theorem dM_store_99 : decode cM_store 99 = .ok (.iload_n 3, 1) := by decide +kernel
theorem dM_store_100 : decode cM_store 100 = .ok (.invokestatic 61, 3) := by decide +kernel
theorem dM_store_103 : decode cM_store 103 = .ok (.iastore, 1) := by decide +kernel
theorem dM_store_104 : decode cM_store 104 = .ok (.aload_n 0, 1) := by decide +kernel
theorem dM_store_105 : decode cM_store 105 = .ok (.getfield 26, 3) := by decide +kernel
theorem dM_store_108 : decode cM_store 108 = .ok (.iload_n 1, 1) := by decide +kernel
theorem dM_store_109 : decode cM_store 109 = .ok (.dup2, 1) := by decide +kernel
theorem dM_store_110 : decode cM_store 110 = .ok (.iaload, 1) := by decide +kernel
theorem dM_store_111 : decode cM_store 111 = .ok (.iconst 1, 1) := by decide +kernel
theorem dM_store_112 : decode cM_store 112 = .ok (.iadd, 1) := by decide +kernel
theorem dM_store_113 : decode cM_store 113 = .ok (.iastore, 1) := by decide +kernel
theorem dM_store_114 : decode cM_store 114 = .ok (.aload_n 0, 1) := by decide +kernel
theorem dM_store_115 : decode cM_store 115 = .ok (.iload_n 1, 1) := by decide +kernel
theorem dM_store_116 : decode cM_store 116 = .ok (.invokevirtual 84, 3) := by decide +kernel
theorem dM_store_119 : decode cM_store 119 = .ok (.istore 5, 2) := by decide +kernel
theorem dM_store_121 : decode cM_store 121 = .ok (.iload 5, 2) := by decide +kernel
theorem dM_store_123 : decode cM_store 123 = .ok (.iconst (-1), 1) := by decide +kernel
theorem dM_store_124 : decode cM_store 124 = .ok (.if_icmp .ne 13, 3) := by decide +kernel
theorem dM_store_127 : decode cM_store 127 = .ok (.aload_n 0, 1) := by decide +kernel
theorem dM_store_128 : decode cM_store 128 = .ok (.iload_n 1, 1) := by decide +kernel
theorem dM_store_129 : decode cM_store 129 = .ok (.iload_n 2, 1) := by decide +kernel
theorem dM_store_130 : decode cM_store 130 = .ok (.bipush 11, 2) := by decide +kernel
theorem dM_store_132 : decode cM_store 132 = .ok (.invokevirtual 87, 3) := by decide +kernel
theorem dM_store_135 : decode cM_store 135 = .ok (.iconst 1, 1) := by decide +kernel
theorem dM_store_136 : decode cM_store 136 = .ok (.ireturn, 1) := by decide +kernel
theorem dM_store_137 : decode cM_store 137 = .ok (.aload_n 0, 1) := by decide +kernel
theorem dM_store_138 : decode cM_store 138 = .ok (.getfield 35, 3) := by decide +kernel
theorem dM_store_141 : decode cM_store 141 = .ok (.bipush 8, 2) := by decide +kernel
theorem dM_store_143 : decode cM_store 143 = .ok (.iload_n 1, 1) := by decide +kernel
theorem dM_store_144 : decode cM_store 144 = .ok (.imul, 1) := by decide +kernel
theorem dM_store_145 : decode cM_store 145 = .ok (.iload 5, 2) := by decide +kernel
theorem dM_store_147 : decode cM_store 147 = .ok (.iadd, 1) := by decide +kernel
theorem dM_store_148 : decode cM_store 148 = .ok (.iaload, 1) := by decide +kernel
theorem dM_store_149 : decode cM_store 149 = .ok (.istore 6, 2) := by decide +kernel
theorem dM_store_151 : decode cM_store 151 = .ok (.aload_n 0, 1) := by decide +kernel
theorem dM_store_152 : decode cM_store 152 = .ok (.getfield 38, 3) := by decide +kernel
theorem dM_store_155 : decode cM_store 155 = .ok (.bipush 8, 2) := by decide +kernel
theorem dM_store_157 : decode cM_store 157 = .ok (.iload_n 1, 1) := by decide +kernel
theorem dM_store_158 : decode cM_store 158 = .ok (.imul, 1) := by decide +kernel
theorem dM_store_159 : decode cM_store 159 = .ok (.iload 5, 2) := by decide +kernel
theorem dM_store_161 : decode cM_store 161 = .ok (.iadd, 1) := by decide +kernel
theorem dM_store_162 : decode cM_store 162 = .ok (.iaload, 1) := by decide +kernel
theorem dM_store_163 : decode cM_store 163 = .ok (.istore 7, 2) := by decide +kernel
theorem dM_store_165 : decode cM_store 165 = .ok (.aload_n 0, 1) := by decide +kernel
theorem dM_store_166 : decode cM_store 166 = .ok (.iload_n 1, 1) := by decide +kernel
theorem dM_store_167 : decode cM_store 167 = .ok (.iload 5, 2) := by decide +kernel
theorem dM_store_169 : decode cM_store 169 = .ok (.invokevirtual 91, 3) := by decide +kernel
theorem dM_store_172 : decode cM_store 172 = .ok (.iload 6, 2) := by decide +kernel
theorem dM_store_174 : decode cM_store 174 = .ok (.iconst 1, 1) := by decide +kernel
theorem dM_store_175 : decode cM_store 175 = .ok (.if_icmp .ne 15, 3) := by decide +kernel
theorem dM_store_178 : decode cM_store 178 = .ok (.aload_n 0, 1) := by decide +kernel
theorem dM_store_179 : decode cM_store 179 = .ok (.iload_n 1, 1) := by decide +kernel
theorem dM_store_180 : decode cM_store 180 = .ok (.iload 7, 2) := by decide +kernel
theorem dM_store_182 : decode cM_store 182 = .ok (.bipush 11, 2) := by decide +kernel
theorem dM_store_184 : decode cM_store 184 = .ok (.invokevirtual 87, 3) := by decide +kernel
theorem dM_store_187 : decode cM_store 187 = .ok (.goto 17, 3) := by decide +kernel
theorem dM_store_190 : decode cM_store 190 = .ok (.iload 6, 2) := by decide +kernel
theorem dM_store_192 : decode cM_store 192 = .ok (.iconst 2, 1) := by decide +kernel
theorem dM_store_193 : decode cM_store 193 = .ok (.if_icmp .ne 11, 3) := by decide +kernel
theorem dM_store_196 : decode cM_store 196 = .ok (.aload_n 0, 1) := by decide +kernel
theorem dM_store_197 : decode cM_store 197 = .ok (.iload_n 1, 1) := by decide +kernel
theorem dM_store_198 : decode cM_store 198 = .ok (.iload_n 2, 1) := by decide +kernel
theorem dM_store_199 : decode cM_store 199 = .ok (.iload 7, 2) := by decide +kernel
theorem dM_store_201 : decode cM_store 201 = .ok (.invokevirtual 87, 3) := by decide +kernel
theorem dM_store_204 : decode cM_store 204 = .ok (.iconst 1, 1) := by decide +kernel
theorem dM_store_205 : decode cM_store 205 = .ok (.ireturn, 1) := by decide +kernel
theorem dM_planOf_0 : decode cM_planOf 0 = .ok (.iconst (-1), 1) := by decide +kernel
theorem dM_planOf_1 : decode cM_planOf 1 = .ok (.istore_n 2, 1) := by decide +kernel
theorem dM_planOf_2 : decode cM_planOf 2 = .ok (.iconst 0, 1) := by decide +kernel
theorem dM_planOf_3 : decode cM_planOf 3 = .ok (.istore_n 3, 1) := by decide +kernel
theorem dM_planOf_4 : decode cM_planOf 4 = .ok (.iload_n 3, 1) := by decide +kernel
theorem dM_planOf_5 : decode cM_planOf 5 = .ok (.aload_n 0, 1) := by decide +kernel
theorem dM_planOf_6 : decode cM_planOf 6 = .ok (.getfield 29, 3) := by decide +kernel
theorem dM_planOf_9 : decode cM_planOf 9 = .ok (.iload_n 1, 1) := by decide +kernel
theorem dM_planOf_10 : decode cM_planOf 10 = .ok (.iaload, 1) := by decide +kernel
theorem dM_planOf_11 : decode cM_planOf 11 = .ok (.if_icmp .ge 35, 3) := by decide +kernel
theorem dM_planOf_14 : decode cM_planOf 14 = .ok (.aload_n 0, 1) := by decide +kernel
theorem dM_planOf_15 : decode cM_planOf 15 = .ok (.getfield 32, 3) := by decide +kernel
theorem dM_planOf_18 : decode cM_planOf 18 = .ok (.bipush 8, 2) := by decide +kernel
theorem dM_planOf_20 : decode cM_planOf 20 = .ok (.iload_n 1, 1) := by decide +kernel
theorem dM_planOf_21 : decode cM_planOf 21 = .ok (.imul, 1) := by decide +kernel
theorem dM_planOf_22 : decode cM_planOf 22 = .ok (.iload_n 3, 1) := by decide +kernel
theorem dM_planOf_23 : decode cM_planOf 23 = .ok (.iadd, 1) := by decide +kernel
theorem dM_planOf_24 : decode cM_planOf 24 = .ok (.iaload, 1) := by decide +kernel
theorem dM_planOf_25 : decode cM_planOf 25 = .ok (.aload_n 0, 1) := by decide +kernel
theorem dM_planOf_26 : decode cM_planOf 26 = .ok (.getfield 26, 3) := by decide +kernel
theorem dM_planOf_29 : decode cM_planOf 29 = .ok (.iload_n 1, 1) := by decide +kernel
theorem dM_planOf_30 : decode cM_planOf 30 = .ok (.iaload, 1) := by decide +kernel
theorem dM_planOf_31 : decode cM_planOf 31 = .ok (.if_icmp .ne 7, 3) := by decide +kernel
theorem dM_planOf_34 : decode cM_planOf 34 = .ok (.iload_n 3, 1) := by decide +kernel
theorem dM_planOf_35 : decode cM_planOf 35 = .ok (.goto 4, 3) := by decide +kernel
theorem dM_planOf_38 : decode cM_planOf 38 = .ok (.iload_n 2, 1) := by decide +kernel
theorem dM_planOf_39 : decode cM_planOf 39 = .ok (.istore_n 2, 1) := by decide +kernel
theorem dM_planOf_40 : decode cM_planOf 40 = .ok (.iinc 3 1, 3) := by decide +kernel
theorem dM_planOf_43 : decode cM_planOf 43 = .ok (.goto (-39), 3) := by decide +kernel
theorem dM_planOf_46 : decode cM_planOf 46 = .ok (.iload_n 2, 1) := by decide +kernel
theorem dM_planOf_47 : decode cM_planOf 47 = .ok (.ireturn, 1) := by decide +kernel
theorem dM_lay_0 : decode cM_lay 0 = .ok (.iconst 0, 1) := by decide +kernel
theorem dM_lay_1 : decode cM_lay 1 = .ok (.istore 4, 2) := by decide +kernel
theorem dM_lay_3 : decode cM_lay 3 = .ok (.iload 4, 2) := by decide +kernel
theorem dM_lay_5 : decode cM_lay 5 = .ok (.iload_n 3, 1) := by decide +kernel
theorem dM_lay_6 : decode cM_lay 6 = .ok (.if_icmp .ge 29, 3) := by decide +kernel
theorem dM_lay_9 : decode cM_lay 9 = .ok (.aload_n 0, 1) := by decide +kernel
theorem dM_lay_10 : decode cM_lay 10 = .ok (.getfield 7, 3) := by decide +kernel
theorem dM_lay_13 : decode cM_lay 13 = .ok (.iload_n 1, 1) := by decide +kernel
theorem dM_lay_14 : decode cM_lay 14 = .ok (.iload_n 2, 1) := by decide +kernel
theorem dM_lay_15 : decode cM_lay 15 = .ok (.invokestatic 50, 3) := by decide +kernel
theorem dM_lay_18 : decode cM_lay 18 = .ok (.iload 4, 2) := by decide +kernel
theorem dM_lay_20 : decode cM_lay 20 = .ok (.iadd, 1) := by decide +kernel
theorem dM_lay_21 : decode cM_lay 21 = .ok (.aload_n 0, 1) := by decide +kernel
theorem dM_lay_22 : decode cM_lay 22 = .ok (.getfield 44, 3) := by decide +kernel
theorem dM_lay_25 : decode cM_lay 25 = .ok (.iload 4, 2) := by decide +kernel
theorem dM_lay_27 : decode cM_lay 27 = .ok (.iaload, 1) := by decide +kernel
theorem dM_lay_28 : decode cM_lay 28 = .ok (.iastore, 1) := by decide +kernel
theorem dM_lay_29 : decode cM_lay 29 = .ok (.iinc 4 1, 3) := by decide +kernel
theorem dM_lay_32 : decode cM_lay 32 = .ok (.goto (-29), 3) := by decide +kernel
theorem dM_lay_35 : decode cM_lay 35 = .ok (.return_, 1) := by decide +kernel
theorem dM_dropPlan_0 : decode cM_dropPlan 0 = .ok (.aload_n 0, 1) := by decide +kernel
theorem dM_dropPlan_1 : decode cM_dropPlan 1 = .ok (.getfield 29, 3) := by decide +kernel
theorem dM_dropPlan_4 : decode cM_dropPlan 4 = .ok (.iload_n 1, 1) := by decide +kernel
theorem dM_dropPlan_5 : decode cM_dropPlan 5 = .ok (.dup2, 1) := by decide +kernel
theorem dM_dropPlan_6 : decode cM_dropPlan 6 = .ok (.iaload, 1) := by decide +kernel
theorem dM_dropPlan_7 : decode cM_dropPlan 7 = .ok (.iconst 1, 1) := by decide +kernel
theorem dM_dropPlan_8 : decode cM_dropPlan 8 = .ok (.isub, 1) := by decide +kernel
theorem dM_dropPlan_9 : decode cM_dropPlan 9 = .ok (.iastore, 1) := by decide +kernel
theorem dM_dropPlan_10 : decode cM_dropPlan 10 = .ok (.bipush 8, 2) := by decide +kernel
theorem dM_dropPlan_12 : decode cM_dropPlan 12 = .ok (.iload_n 1, 1) := by decide +kernel
theorem dM_dropPlan_13 : decode cM_dropPlan 13 = .ok (.imul, 1) := by decide +kernel
theorem dM_dropPlan_14 : decode cM_dropPlan 14 = .ok (.iload_n 2, 1) := by decide +kernel
theorem dM_dropPlan_15 : decode cM_dropPlan 15 = .ok (.iadd, 1) := by decide +kernel
theorem dM_dropPlan_16 : decode cM_dropPlan 16 = .ok (.istore_n 3, 1) := by decide +kernel
theorem dM_dropPlan_17 : decode cM_dropPlan 17 = .ok (.iload_n 3, 1) := by decide +kernel
theorem dM_dropPlan_18 : decode cM_dropPlan 18 = .ok (.bipush 8, 2) := by decide +kernel
theorem dM_dropPlan_20 : decode cM_dropPlan 20 = .ok (.iload_n 1, 1) := by decide +kernel
theorem dM_dropPlan_21 : decode cM_dropPlan 21 = .ok (.imul, 1) := by decide +kernel
theorem dM_dropPlan_22 : decode cM_dropPlan 22 = .ok (.aload_n 0, 1) := by decide +kernel
theorem dM_dropPlan_23 : decode cM_dropPlan 23 = .ok (.getfield 29, 3) := by decide +kernel
theorem dM_dropPlan_26 : decode cM_dropPlan 26 = .ok (.iload_n 1, 1) := by decide +kernel
theorem dM_dropPlan_27 : decode cM_dropPlan 27 = .ok (.iaload, 1) := by decide +kernel
theorem dM_dropPlan_28 : decode cM_dropPlan 28 = .ok (.iadd, 1) := by decide +kernel
theorem dM_dropPlan_29 : decode cM_dropPlan 29 = .ok (.if_icmp .ge 51, 3) := by decide +kernel
theorem dM_dropPlan_32 : decode cM_dropPlan 32 = .ok (.aload_n 0, 1) := by decide +kernel
theorem dM_dropPlan_33 : decode cM_dropPlan 33 = .ok (.getfield 32, 3) := by decide +kernel
theorem dM_dropPlan_36 : decode cM_dropPlan 36 = .ok (.iload_n 3, 1) := by decide +kernel
theorem dM_dropPlan_37 : decode cM_dropPlan 37 = .ok (.aload_n 0, 1) := by decide +kernel
theorem dM_dropPlan_38 : decode cM_dropPlan 38 = .ok (.getfield 32, 3) := by decide +kernel
theorem dM_dropPlan_41 : decode cM_dropPlan 41 = .ok (.iload_n 3, 1) := by decide +kernel
theorem dM_dropPlan_42 : decode cM_dropPlan 42 = .ok (.iconst 1, 1) := by decide +kernel
theorem dM_dropPlan_43 : decode cM_dropPlan 43 = .ok (.iadd, 1) := by decide +kernel
theorem dM_dropPlan_44 : decode cM_dropPlan 44 = .ok (.iaload, 1) := by decide +kernel
theorem dM_dropPlan_45 : decode cM_dropPlan 45 = .ok (.iastore, 1) := by decide +kernel
theorem dM_dropPlan_46 : decode cM_dropPlan 46 = .ok (.aload_n 0, 1) := by decide +kernel
theorem dM_dropPlan_47 : decode cM_dropPlan 47 = .ok (.getfield 35, 3) := by decide +kernel
theorem dM_dropPlan_50 : decode cM_dropPlan 50 = .ok (.iload_n 3, 1) := by decide +kernel
theorem dM_dropPlan_51 : decode cM_dropPlan 51 = .ok (.aload_n 0, 1) := by decide +kernel
theorem dM_dropPlan_52 : decode cM_dropPlan 52 = .ok (.getfield 35, 3) := by decide +kernel
theorem dM_dropPlan_55 : decode cM_dropPlan 55 = .ok (.iload_n 3, 1) := by decide +kernel
theorem dM_dropPlan_56 : decode cM_dropPlan 56 = .ok (.iconst 1, 1) := by decide +kernel
theorem dM_dropPlan_57 : decode cM_dropPlan 57 = .ok (.iadd, 1) := by decide +kernel
theorem dM_dropPlan_58 : decode cM_dropPlan 58 = .ok (.iaload, 1) := by decide +kernel
theorem dM_dropPlan_59 : decode cM_dropPlan 59 = .ok (.iastore, 1) := by decide +kernel
theorem dM_dropPlan_60 : decode cM_dropPlan 60 = .ok (.aload_n 0, 1) := by decide +kernel
theorem dM_dropPlan_61 : decode cM_dropPlan 61 = .ok (.getfield 38, 3) := by decide +kernel
theorem dM_dropPlan_64 : decode cM_dropPlan 64 = .ok (.iload_n 3, 1) := by decide +kernel
theorem dM_dropPlan_65 : decode cM_dropPlan 65 = .ok (.aload_n 0, 1) := by decide +kernel
theorem dM_dropPlan_66 : decode cM_dropPlan 66 = .ok (.getfield 38, 3) := by decide +kernel
theorem dM_dropPlan_69 : decode cM_dropPlan 69 = .ok (.iload_n 3, 1) := by decide +kernel
theorem dM_dropPlan_70 : decode cM_dropPlan 70 = .ok (.iconst 1, 1) := by decide +kernel
theorem dM_dropPlan_71 : decode cM_dropPlan 71 = .ok (.iadd, 1) := by decide +kernel
theorem dM_dropPlan_72 : decode cM_dropPlan 72 = .ok (.iaload, 1) := by decide +kernel
theorem dM_dropPlan_73 : decode cM_dropPlan 73 = .ok (.iastore, 1) := by decide +kernel
theorem dM_dropPlan_74 : decode cM_dropPlan 74 = .ok (.iinc 3 1, 3) := by decide +kernel
theorem dM_dropPlan_77 : decode cM_dropPlan 77 = .ok (.goto (-60), 3) := by decide +kernel
theorem dM_dropPlan_80 : decode cM_dropPlan 80 = .ok (.return_, 1) := by decide +kernel
