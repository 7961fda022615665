/-! decode rows (written by names.py) -/
theorem dG_init_0 : decode cG_init 0 = .ok (.aload_n 0, 1) := by decide +kernel
theorem dG_init_1 : decode cG_init 1 = .ok (.invokespecial 3, 3) := by decide +kernel
theorem dG_init_4 : decode cG_init 4 = .ok (.aload_n 0, 1) := by decide +kernel
theorem dG_init_5 : decode cG_init 5 = .ok (.new 9, 3) := by decide +kernel
theorem dG_init_8 : decode cG_init 8 = .ok (.dup, 1) := by decide +kernel
theorem dG_init_9 : decode cG_init 9 = .ok (.invokespecial 11, 3) := by decide +kernel
theorem dG_init_12 : decode cG_init 12 = .ok (.putfield 12, 3) := by decide +kernel
theorem dG_init_15 : decode cG_init 15 = .ok (.aload_n 0, 1) := by decide +kernel
theorem dG_init_16 : decode cG_init 16 = .ok (.new 9, 3) := by decide +kernel
theorem dG_init_19 : decode cG_init 19 = .ok (.dup, 1) := by decide +kernel
theorem dG_init_20 : decode cG_init 20 = .ok (.invokespecial 11, 3) := by decide +kernel
theorem dG_init_23 : decode cG_init 23 = .ok (.putfield 16, 3) := by decide +kernel
theorem dG_init_26 : decode cG_init 26 = .ok (.aload_n 0, 1) := by decide +kernel
theorem dG_init_27 : decode cG_init 27 = .ok (.new 19, 3) := by decide +kernel
theorem dG_init_30 : decode cG_init 30 = .ok (.dup, 1) := by decide +kernel
theorem dG_init_31 : decode cG_init 31 = .ok (.invokespecial 21, 3) := by decide +kernel
theorem dG_init_34 : decode cG_init 34 = .ok (.putfield 22, 3) := by decide +kernel
theorem dG_init_37 : decode cG_init 37 = .ok (.aload_n 0, 1) := by decide +kernel
theorem dG_init_38 : decode cG_init 38 = .ok (.new 26, 3) := by decide +kernel
theorem dG_init_41 : decode cG_init 41 = .ok (.dup, 1) := by decide +kernel
theorem dG_init_42 : decode cG_init 42 = .ok (.invokespecial 28, 3) := by decide +kernel
theorem dG_init_45 : decode cG_init 45 = .ok (.putfield 29, 3) := by decide +kernel
theorem dG_init_48 : decode cG_init 48 = .ok (.aload_n 0, 1) := by decide +kernel
theorem dG_init_49 : decode cG_init 49 = .ok (.new 33, 3) := by decide +kernel
theorem dG_init_52 : decode cG_init 52 = .ok (.dup, 1) := by decide +kernel
theorem dG_init_53 : decode cG_init 53 = .ok (.invokespecial 35, 3) := by decide +kernel
theorem dG_init_56 : decode cG_init 56 = .ok (.putfield 36, 3) := by decide +kernel
theorem dG_init_59 : decode cG_init 59 = .ok (.aload_n 0, 1) := by decide +kernel
theorem dG_init_60 : decode cG_init 60 = .ok (.bipush 16, 2) := by decide +kernel
theorem dG_init_62 : decode cG_init 62 = .ok (.newarray .int, 2) := by decide +kernel
theorem dG_init_64 : decode cG_init 64 = .ok (.putfield 40, 3) := by decide +kernel
theorem dG_init_67 : decode cG_init 67 = .ok (.aload_n 0, 1) := by decide +kernel
theorem dG_init_68 : decode cG_init 68 = .ok (.iconst 0, 1) := by decide +kernel
theorem dG_init_69 : decode cG_init 69 = .ok (.putfield 44, 3) := by decide +kernel
theorem dG_init_72 : decode cG_init 72 = .ok (.aload_n 0, 1) := by decide +kernel
theorem dG_init_73 : decode cG_init 73 = .ok (.iconst 0, 1) := by decide +kernel
theorem dG_init_74 : decode cG_init 74 = .ok (.putfield 48, 3) := by decide +kernel
theorem dG_init_77 : decode cG_init 77 = .ok (.aload_n 0, 1) := by decide +kernel
theorem dG_init_78 : decode cG_init 78 = .ok (.bipush 11, 2) := by decide +kernel
theorem dG_init_80 : decode cG_init 80 = .ok (.newarray .int, 2) := by decide +kernel
theorem dG_init_82 : decode cG_init 82 = .ok (.putfield 51, 3) := by decide +kernel
theorem dG_init_85 : decode cG_init 85 = .ok (.aload_n 0, 1) := by decide +kernel
theorem dG_init_86 : decode cG_init 86 = .ok (.bipush 8, 2) := by decide +kernel
theorem dG_init_88 : decode cG_init 88 = .ok (.newarray .int, 2) := by decide +kernel
theorem dG_init_90 : decode cG_init 90 = .ok (.putfield 54, 3) := by decide +kernel
theorem dG_init_93 : decode cG_init 93 = .ok (.aload_n 0, 1) := by decide +kernel
theorem dG_init_94 : decode cG_init 94 = .ok (.bipush 8, 2) := by decide +kernel
theorem dG_init_96 : decode cG_init 96 = .ok (.newarray .int, 2) := by decide +kernel
theorem dG_init_98 : decode cG_init 98 = .ok (.putfield 57, 3) := by decide +kernel
theorem dG_init_101 : decode cG_init 101 = .ok (.return_, 1) := by decide +kernel
theorem dD_init_0 : decode cD_init 0 = .ok (.aload_n 0, 1) := by decide +kernel
theorem dD_init_1 : decode cD_init 1 = .ok (.invokespecial 3, 3) := by decide +kernel
theorem dD_init_4 : decode cD_init 4 = .ok (.aload_n 0, 1) := by decide +kernel
theorem dD_init_5 : decode cD_init 5 = .ok (.sipush 792, 3) := by decide +kernel
theorem dD_init_8 : decode cD_init 8 = .ok (.newarray .int, 2) := by decide +kernel
theorem dD_init_10 : decode cD_init 10 = .ok (.putfield 9, 3) := by decide +kernel
theorem dD_init_13 : decode cD_init 13 = .ok (.aload_n 0, 1) := by decide +kernel
theorem dD_init_14 : decode cD_init 14 = .ok (.bipush 8, 2) := by decide +kernel
theorem dD_init_16 : decode cD_init 16 = .ok (.newarray .int, 2) := by decide +kernel
theorem dD_init_18 : decode cD_init 18 = .ok (.putfield 15, 3) := by decide +kernel
theorem dD_init_21 : decode cD_init 21 = .ok (.aload_n 0, 1) := by decide +kernel
theorem dD_init_22 : decode cD_init 22 = .ok (.bipush 8, 2) := by decide +kernel
theorem dD_init_24 : decode cD_init 24 = .ok (.newarray .int, 2) := by decide +kernel
theorem dD_init_26 : decode cD_init 26 = .ok (.putfield 18, 3) := by decide +kernel
theorem dD_init_29 : decode cD_init 29 = .ok (.aload_n 0, 1) := by decide +kernel
theorem dD_init_30 : decode cD_init 30 = .ok (.bipush 8, 2) := by decide +kernel
theorem dD_init_32 : decode cD_init 32 = .ok (.newarray .int, 2) := by decide +kernel
theorem dD_init_34 : decode cD_init 34 = .ok (.putfield 21, 3) := by decide +kernel
theorem dD_init_37 : decode cD_init 37 = .ok (.aload_n 0, 1) := by decide +kernel
theorem dD_init_38 : decode cD_init 38 = .ok (.iconst 0, 1) := by decide +kernel
theorem dD_init_39 : decode cD_init 39 = .ok (.putfield 24, 3) := by decide +kernel
theorem dD_init_42 : decode cD_init 42 = .ok (.aload_n 0, 1) := by decide +kernel
theorem dD_init_43 : decode cD_init 43 = .ok (.iconst 0, 1) := by decide +kernel
theorem dD_init_44 : decode cD_init 44 = .ok (.putfield 28, 3) := by decide +kernel
theorem dD_init_47 : decode cD_init 47 = .ok (.bipush 11, 2) := by decide +kernel
theorem dD_init_49 : decode cD_init 49 = .ok (.newarray .int, 2) := by decide +kernel
theorem dD_init_51 : decode cD_init 51 = .ok (.astore_n 1, 1) := by decide +kernel
theorem dD_init_52 : decode cD_init 52 = .ok (.iconst 0, 1) := by decide +kernel
theorem dD_init_53 : decode cD_init 53 = .ok (.istore_n 2, 1) := by decide +kernel
theorem dD_init_54 : decode cD_init 54 = .ok (.iload_n 2, 1) := by decide +kernel
theorem dD_init_55 : decode cD_init 55 = .ok (.bipush 72, 2) := by decide +kernel
theorem dD_init_57 : decode cD_init 57 = .ok (.if_icmp .ge 38, 3) := by decide +kernel
theorem dD_init_60 : decode cD_init 60 = .ok (.aload_n 1, 1) := by decide +kernel
theorem dD_init_61 : decode cD_init 61 = .ok (.bipush 9, 2) := by decide +kernel
theorem dD_init_63 : decode cD_init 63 = .ok (.iload_n 2, 1) := by decide +kernel
theorem dD_init_64 : decode cD_init 64 = .ok (.iastore, 1) := by decide +kernel
theorem dD_init_65 : decode cD_init 65 = .ok (.aload_n 1, 1) := by decide +kernel
theorem dD_init_66 : decode cD_init 66 = .ok (.bipush 8, 2) := by decide +kernel
theorem dD_init_68 : decode cD_init 68 = .ok (.aload_n 1, 1) := by decide +kernel
theorem dD_init_69 : decode cD_init 69 = .ok (.iconst 0, 1) := by decide +kernel
theorem dD_init_70 : decode cD_init 70 = .ok (.invokestatic 31, 3) := by decide +kernel
theorem dD_init_73 : decode cD_init 73 = .ok (.iastore, 1) := by decide +kernel
theorem dD_init_74 : decode cD_init 74 = .ok (.aload_n 1, 1) := by decide +kernel
theorem dD_init_75 : decode cD_init 75 = .ok (.iconst 0, 1) := by decide +kernel
theorem dD_init_76 : decode cD_init 76 = .ok (.aload_n 0, 1) := by decide +kernel
theorem dD_init_77 : decode cD_init 77 = .ok (.getfield 9, 3) := by decide +kernel
theorem dD_init_80 : decode cD_init 80 = .ok (.iload_n 2, 1) := by decide +kernel
theorem dD_init_81 : decode cD_init 81 = .ok (.bipush 11, 2) := by decide +kernel
theorem dD_init_83 : decode cD_init 83 = .ok (.imul, 1) := by decide +kernel
theorem dD_init_84 : decode cD_init 84 = .ok (.bipush 11, 2) := by decide +kernel
theorem dD_init_86 : decode cD_init 86 = .ok (.invokestatic 35, 3) := by decide +kernel
theorem dD_init_89 : decode cD_init 89 = .ok (.iinc 2 1, 3) := by decide +kernel
theorem dD_init_92 : decode cD_init 92 = .ok (.goto (-38), 3) := by decide +kernel
theorem dD_init_95 : decode cD_init 95 = .ok (.return_, 1) := by decide +kernel
theorem dG_sumOf_0 : decode cG_sumOf 0 = .ok (.iconst 0, 1) := by decide +kernel
theorem dG_sumOf_1 : decode cG_sumOf 1 = .ok (.istore_n 2, 1) := by decide +kernel
theorem dG_sumOf_2 : decode cG_sumOf 2 = .ok (.iconst 0, 1) := by decide +kernel
theorem dG_sumOf_3 : decode cG_sumOf 3 = .ok (.istore_n 3, 1) := by decide +kernel
theorem dG_sumOf_4 : decode cG_sumOf 4 = .ok (.iload_n 3, 1) := by decide +kernel
theorem dG_sumOf_5 : decode cG_sumOf 5 = .ok (.bipush 11, 2) := by decide +kernel
theorem dG_sumOf_7 : decode cG_sumOf 7 = .ok (.if_icmp .ge 30, 3) := by decide +kernel
theorem dG_sumOf_10 : decode cG_sumOf 10 = .ok (.iload_n 3, 1) := by decide +kernel
theorem dG_sumOf_11 : decode cG_sumOf 11 = .ok (.bipush 8, 2) := by decide +kernel
theorem dG_sumOf_13 : decode cG_sumOf 13 = .ok (.if_icmp .eq 18, 3) := by decide +kernel
theorem dG_sumOf_16 : decode cG_sumOf 16 = .ok (.iload_n 2, 1) := by decide +kernel
theorem dG_sumOf_17 : decode cG_sumOf 17 = .ok (.iconst 5, 1) := by decide +kernel
theorem dG_sumOf_18 : decode cG_sumOf 18 = .ok (.ishl, 1) := by decide +kernel
theorem dG_sumOf_19 : decode cG_sumOf 19 = .ok (.iload_n 2, 1) := by decide +kernel
theorem dG_sumOf_20 : decode cG_sumOf 20 = .ok (.bipush 27, 2) := by decide +kernel
theorem dG_sumOf_22 : decode cG_sumOf 22 = .ok (.iushr, 1) := by decide +kernel
theorem dG_sumOf_23 : decode cG_sumOf 23 = .ok (.ior, 1) := by decide +kernel
theorem dG_sumOf_24 : decode cG_sumOf 24 = .ok (.aload_n 0, 1) := by decide +kernel
theorem dG_sumOf_25 : decode cG_sumOf 25 = .ok (.iload_n 1, 1) := by decide +kernel
theorem dG_sumOf_26 : decode cG_sumOf 26 = .ok (.iload_n 3, 1) := by decide +kernel
theorem dG_sumOf_27 : decode cG_sumOf 27 = .ok (.iadd, 1) := by decide +kernel
theorem dG_sumOf_28 : decode cG_sumOf 28 = .ok (.iaload, 1) := by decide +kernel
theorem dG_sumOf_29 : decode cG_sumOf 29 = .ok (.iadd, 1) := by decide +kernel
theorem dG_sumOf_30 : decode cG_sumOf 30 = .ok (.istore_n 2, 1) := by decide +kernel
theorem dG_sumOf_31 : decode cG_sumOf 31 = .ok (.iinc 3 1, 3) := by decide +kernel
theorem dG_sumOf_34 : decode cG_sumOf 34 = .ok (.goto (-30), 3) := by decide +kernel
theorem dG_sumOf_37 : decode cG_sumOf 37 = .ok (.iload_n 2, 1) := by decide +kernel
theorem dG_sumOf_38 : decode cG_sumOf 38 = .ok (.ireturn, 1) := by decide +kernel
theorem dP_init_0 : decode cP_init 0 = .ok (.aload_n 0, 1) := by decide +kernel
theorem dP_init_1 : decode cP_init 1 = .ok (.invokespecial 1, 3) := by decide +kernel
theorem dP_init_4 : decode cP_init 4 = .ok (.aload_n 0, 1) := by decide +kernel
theorem dP_init_5 : decode cP_init 5 = .ok (.iconst 1, 1) := by decide +kernel
theorem dP_init_6 : decode cP_init 6 = .ok (.putfield 7, 3) := by decide +kernel
theorem dP_init_9 : decode cP_init 9 = .ok (.aload_n 0, 1) := by decide +kernel
theorem dP_init_10 : decode cP_init 10 = .ok (.iconst (-1), 1) := by decide +kernel
theorem dP_init_11 : decode cP_init 11 = .ok (.putfield 13, 3) := by decide +kernel
theorem dP_init_14 : decode cP_init 14 = .ok (.return_, 1) := by decide +kernel
theorem dJ_init_0 : decode cJ_init 0 = .ok (.aload_n 0, 1) := by decide +kernel
theorem dJ_init_1 : decode cJ_init 1 = .ok (.invokespecial 3, 3) := by decide +kernel
theorem dJ_init_4 : decode cJ_init 4 = .ok (.aload_n 0, 1) := by decide +kernel
theorem dJ_init_5 : decode cJ_init 5 = .ok (.bipush 8, 2) := by decide +kernel
theorem dJ_init_7 : decode cJ_init 7 = .ok (.newarray .int, 2) := by decide +kernel
theorem dJ_init_9 : decode cJ_init 9 = .ok (.putfield 9, 3) := by decide +kernel
theorem dJ_init_12 : decode cJ_init 12 = .ok (.aload_n 0, 1) := by decide +kernel
theorem dJ_init_13 : decode cJ_init 13 = .ok (.iconst (-1), 1) := by decide +kernel
theorem dJ_init_14 : decode cJ_init 14 = .ok (.putfield 15, 3) := by decide +kernel
theorem dJ_init_17 : decode cJ_init 17 = .ok (.aload_n 0, 1) := by decide +kernel
theorem dJ_init_18 : decode cJ_init 18 = .ok (.iconst 0, 1) := by decide +kernel
theorem dJ_init_19 : decode cJ_init 19 = .ok (.putfield 19, 3) := by decide +kernel
theorem dJ_init_22 : decode cJ_init 22 = .ok (.return_, 1) := by decide +kernel
theorem dF_init_0 : decode cF_init 0 = .ok (.aload_n 0, 1) := by decide +kernel
theorem dF_init_1 : decode cF_init 1 = .ok (.invokespecial 3, 3) := by decide +kernel
theorem dF_init_4 : decode cF_init 4 = .ok (.aload_n 0, 1) := by decide +kernel
theorem dF_init_5 : decode cF_init 5 = .ok (.sipush 400, 3) := by decide +kernel
theorem dF_init_8 : decode cF_init 8 = .ok (.newarray .int, 2) := by decide +kernel
theorem dF_init_10 : decode cF_init 10 = .ok (.putfield 9, 3) := by decide +kernel
theorem dF_init_13 : decode cF_init 13 = .ok (.aload_n 0, 1) := by decide +kernel
theorem dF_init_14 : decode cF_init 14 = .ok (.iconst 0, 1) := by decide +kernel
theorem dF_init_15 : decode cF_init 15 = .ok (.putfield 15, 3) := by decide +kernel
theorem dF_init_18 : decode cF_init 18 = .ok (.aload_n 0, 1) := by decide +kernel
theorem dF_init_19 : decode cF_init 19 = .ok (.iconst 0, 1) := by decide +kernel
theorem dF_init_20 : decode cF_init 20 = .ok (.putfield 19, 3) := by decide +kernel
theorem dF_init_23 : decode cF_init 23 = .ok (.return_, 1) := by decide +kernel
theorem dG_code_0 : decode cG_code 0 = .ok (.aload_n 0, 1) := by decide +kernel
theorem dG_code_1 : decode cG_code 1 = .ok (.getfield 44, 3) := by decide +kernel
theorem dG_code_4 : decode cG_code 4 = .ok (.ireturn, 1) := by decide +kernel
theorem dG_findings_0 : decode cG_findings 0 = .ok (.aload_n 0, 1) := by decide +kernel
theorem dG_findings_1 : decode cG_findings 1 = .ok (.getfield 36, 3) := by decide +kernel
theorem dG_findings_4 : decode cG_findings 4 = .ok (.getfield 138, 3) := by decide +kernel
theorem dG_findings_7 : decode cG_findings 7 = .ok (.istore_n 2, 1) := by decide +kernel
theorem dG_findings_8 : decode cG_findings 8 = .ok (.iload_n 1, 1) := by decide +kernel
theorem dG_findings_9 : decode cG_findings 9 = .ok (.ifCond .eq 11, 3) := by decide +kernel
theorem dG_findings_12 : decode cG_findings 12 = .ok (.aload_n 0, 1) := by decide +kernel
theorem dG_findings_13 : decode cG_findings 13 = .ok (.getfield 36, 3) := by decide +kernel
theorem dG_findings_16 : decode cG_findings 16 = .ok (.iconst 0, 1) := by decide +kernel
theorem dG_findings_17 : decode cG_findings 17 = .ok (.putfield 138, 3) := by decide +kernel
theorem dG_findings_20 : decode cG_findings 20 = .ok (.iload_n 2, 1) := by decide +kernel
theorem dG_findings_21 : decode cG_findings 21 = .ok (.ireturn, 1) := by decide +kernel
theorem dL_write_0 : decode cL_write 0 = .ok (.aload 4, 2) := by decide +kernel
theorem dL_write_2 : decode cL_write 2 = .ok (.iconst 0, 1) := by decide +kernel
theorem dL_write_3 : decode cL_write 3 = .ok (.aload_n 0, 1) := by decide +kernel
theorem dL_write_4 : decode cL_write 4 = .ok (.iload_n 1, 1) := by decide +kernel
theorem dL_write_5 : decode cL_write 5 = .ok (.iload_n 2, 1) := by decide +kernel
theorem dL_write_6 : decode cL_write 6 = .ok (.iload_n 3, 1) := by decide +kernel
theorem dL_write_7 : decode cL_write 7 = .ok (.invokevirtual 7, 3) := by decide +kernel
theorem dL_write_10 : decode cL_write 10 = .ok (.i2l, 1) := by decide +kernel
theorem dL_write_11 : decode cL_write 11 = .ok (.lastore, 1) := by decide +kernel
theorem dL_write_12 : decode cL_write 12 = .ok (.goto 15, 3) := by decide +kernel
theorem dL_write_15 : decode cL_write 15 = .ok (.astore 5, 2) := by decide +kernel
theorem dL_write_17 : decode cL_write 17 = .ok (.iconst 1, 1) := by decide +kernel
theorem dL_write_18 : decode cL_write 18 = .ok (.ireturn, 1) := by decide +kernel
theorem dL_write_19 : decode cL_write 19 = .ok (.astore 5, 2) := by decide +kernel
theorem dL_write_21 : decode cL_write 21 = .ok (.iconst 2, 1) := by decide +kernel
theorem dL_write_22 : decode cL_write 22 = .ok (.ireturn, 1) := by decide +kernel
theorem dL_write_23 : decode cL_write 23 = .ok (.astore 5, 2) := by decide +kernel
theorem dL_write_25 : decode cL_write 25 = .ok (.iconst 3, 1) := by decide +kernel
theorem dL_write_26 : decode cL_write 26 = .ok (.ireturn, 1) := by decide +kernel
theorem dL_write_27 : decode cL_write 27 = .ok (.iconst 0, 1) := by decide +kernel
theorem dL_write_28 : decode cL_write 28 = .ok (.ireturn, 1) := by decide +kernel
theorem dG_write_0 : decode cG_write 0 = .ok (.iload_n 1, 1) := by decide +kernel
theorem dG_write_1 : decode cG_write 1 = .ok (.bipush 64, 2) := by decide +kernel
theorem dG_write_3 : decode cG_write 3 = .ok (.invokestatic 60, 3) := by decide +kernel
theorem dG_write_6 : decode cG_write 6 = .ok (.ifCond .eq 12, 3) := by decide +kernel
theorem dG_write_9 : decode cG_write 9 = .ok (.iload_n 2, 1) := by decide +kernel
theorem dG_write_10 : decode cG_write 10 = .ok (.bipush 8, 2) := by decide +kernel
theorem dG_write_12 : decode cG_write 12 = .ok (.invokestatic 60, 3) := by decide +kernel
theorem dG_write_15 : decode cG_write 15 = .ok (.ifCond .ne 11, 3) := by decide +kernel
theorem dG_write_18 : decode cG_write 18 = .ok (.new 64, 3) := by decide +kernel
theorem dG_write_21 : decode cG_write 21 = .ok (.dup, 1) := by decide +kernel
theorem dG_write_22 : decode cG_write 22 = .ok (.invokespecial 66, 3) := by decide +kernel
theorem dG_write_25 : decode cG_write 25 = .ok (.athrow, 1) := by decide +kernel
theorem dG_write_26 : decode cG_write 26 = .ok (.aload_n 0, 1) := by decide +kernel
theorem dG_write_27 : decode cG_write 27 = .ok (.getfield 22, 3) := by decide +kernel
theorem dG_write_30 : decode cG_write 30 = .ok (.getfield 67, 3) := by decide +kernel
theorem dG_write_33 : decode cG_write 33 = .ok (.ifCond .ne 11, 3) := by decide +kernel
theorem dG_write_36 : decode cG_write 36 = .ok (.new 71, 3) := by decide +kernel
theorem dG_write_39 : decode cG_write 39 = .ok (.dup, 1) := by decide +kernel
theorem dG_write_40 : decode cG_write 40 = .ok (.invokespecial 73, 3) := by decide +kernel
theorem dG_write_43 : decode cG_write 43 = .ok (.athrow, 1) := by decide +kernel
theorem dG_write_44 : decode cG_write 44 = .ok (.aload_n 0, 1) := by decide +kernel
theorem dG_write_45 : decode cG_write 45 = .ok (.iload_n 1, 1) := by decide +kernel
theorem dG_write_46 : decode cG_write 46 = .ok (.invokevirtual 74, 3) := by decide +kernel
theorem dG_write_49 : decode cG_write 49 = .ok (.istore 4, 2) := by decide +kernel
theorem dG_write_51 : decode cG_write 51 = .ok (.iload 4, 2) := by decide +kernel
theorem dG_write_53 : decode cG_write 53 = .ok (.iconst (-1), 1) := by decide +kernel
theorem dG_write_54 : decode cG_write 54 = .ok (.if_icmp .eq 28, 3) := by decide +kernel
theorem dG_write_57 : decode cG_write 57 = .ok (.aload_n 0, 1) := by decide +kernel
theorem dG_write_58 : decode cG_write 58 = .ok (.iload 4, 2) := by decide +kernel
theorem dG_write_60 : decode cG_write 60 = .ok (.invokevirtual 78, 3) := by decide +kernel
theorem dG_write_63 : decode cG_write 63 = .ok (.iload_n 1, 1) := by decide +kernel
theorem dG_write_64 : decode cG_write 64 = .ok (.bipush 10, 2) := by decide +kernel
theorem dG_write_66 : decode cG_write 66 = .ok (.invokevirtual 82, 3) := by decide +kernel
theorem dG_write_69 : decode cG_write 69 = .ok (.bipush 60, 2) := by decide +kernel
theorem dG_write_71 : decode cG_write 71 = .ok (.if_icmp .ne 11, 3) := by decide +kernel
theorem dG_write_74 : decode cG_write 74 = .ok (.new 86, 3) := by decide +kernel
theorem dG_write_77 : decode cG_write 77 = .ok (.dup, 1) := by decide +kernel
theorem dG_write_78 : decode cG_write 78 = .ok (.invokespecial 88, 3) := by decide +kernel
theorem dG_write_81 : decode cG_write 81 = .ok (.athrow, 1) := by decide +kernel
theorem dG_write_82 : decode cG_write 82 = .ok (.aload_n 0, 1) := by decide +kernel
theorem dG_write_83 : decode cG_write 83 = .ok (.iload 4, 2) := by decide +kernel
theorem dG_write_85 : decode cG_write 85 = .ok (.invokestatic 89, 3) := by decide +kernel
theorem dG_write_88 : decode cG_write 88 = .ok (.putfield 44, 3) := by decide +kernel
theorem dG_write_91 : decode cG_write 91 = .ok (.iload 4, 2) := by decide +kernel
theorem dG_write_93 : decode cG_write 93 = .ok (.iconst (-1), 1) := by decide +kernel
theorem dG_write_94 : decode cG_write 94 = .ok (.if_icmp .ne 5, 3) := by decide +kernel
theorem dG_write_97 : decode cG_write 97 = .ok (.iconst 2, 1) := by decide +kernel
theorem dG_write_98 : decode cG_write 98 = .ok (.ireturn, 1) := by decide +kernel
theorem dG_write_99 : decode cG_write 99 = .ok (.aload_n 0, 1) := by decide +kernel
theorem dG_write_100 : decode cG_write 100 = .ok (.iload 4, 2) := by decide +kernel
theorem dG_write_102 : decode cG_write 102 = .ok (.invokevirtual 78, 3) := by decide +kernel
theorem dG_write_105 : decode cG_write 105 = .ok (.iload_n 1, 1) := by decide +kernel
theorem dG_write_106 : decode cG_write 106 = .ok (.aload_n 0, 1) := by decide +kernel
theorem dG_write_107 : decode cG_write 107 = .ok (.getfield 29, 3) := by decide +kernel
theorem dG_write_110 : decode cG_write 110 = .ok (.getfield 92, 3) := by decide +kernel
theorem dG_write_113 : decode cG_write 113 = .ok (.invokevirtual 95, 3) := by decide +kernel
theorem dG_write_116 : decode cG_write 116 = .ok (.aload_n 0, 1) := by decide +kernel
theorem dG_write_117 : decode cG_write 117 = .ok (.getfield 29, 3) := by decide +kernel
theorem dG_write_120 : decode cG_write 120 = .ok (.getfield 92, 3) := by decide +kernel
theorem dG_write_123 : decode cG_write 123 = .ok (.iload_n 2, 1) := by decide +kernel
theorem dG_write_124 : decode cG_write 124 = .ok (.iload_n 3, 1) := by decide +kernel
theorem dG_write_125 : decode cG_write 125 = .ok (.iastore, 1) := by decide +kernel
theorem dG_write_126 : decode cG_write 126 = .ok (.aload_n 0, 1) := by decide +kernel
theorem dG_write_127 : decode cG_write 127 = .ok (.getfield 29, 3) := by decide +kernel
theorem dG_write_130 : decode cG_write 130 = .ok (.aload_n 0, 1) := by decide +kernel
theorem dG_write_131 : decode cG_write 131 = .ok (.iload 4, 2) := by decide +kernel
theorem dG_write_133 : decode cG_write 133 = .ok (.invokevirtual 78, 3) := by decide +kernel
theorem dG_write_136 : decode cG_write 136 = .ok (.iload_n 1, 1) := by decide +kernel
theorem dG_write_137 : decode cG_write 137 = .ok (.bipush 10, 2) := by decide +kernel
theorem dG_write_139 : decode cG_write 139 = .ok (.invokevirtual 82, 3) := by decide +kernel
theorem dG_write_142 : decode cG_write 142 = .ok (.iconst 1, 1) := by decide +kernel
theorem dG_write_143 : decode cG_write 143 = .ok (.iadd, 1) := by decide +kernel
theorem dG_write_144 : decode cG_write 144 = .ok (.putfield 99, 3) := by decide +kernel
theorem dG_write_147 : decode cG_write 147 = .ok (.aload_n 0, 1) := by decide +kernel
theorem dG_write_148 : decode cG_write 148 = .ok (.getfield 29, 3) := by decide +kernel
theorem dG_write_151 : decode cG_write 151 = .ok (.iload_n 1, 1) := by decide +kernel
theorem dG_write_152 : decode cG_write 152 = .ok (.putfield 102, 3) := by decide +kernel
theorem dG_write_155 : decode cG_write 155 = .ok (.aload_n 0, 1) := by decide +kernel
theorem dG_write_156 : decode cG_write 156 = .ok (.invokevirtual 105, 3) := by decide +kernel
theorem dG_write_159 : decode cG_write 159 = .ok (.ifCond .eq 7, 3) := by decide +kernel
theorem dG_write_162 : decode cG_write 162 = .ok (.iconst 0, 1) := by decide +kernel
theorem dG_write_163 : decode cG_write 163 = .ok (.goto 4, 3) := by decide +kernel
theorem dG_write_166 : decode cG_write 166 = .ok (.iconst 3, 1) := by decide +kernel
theorem dG_write_167 : decode cG_write 167 = .ok (.ireturn, 1) := by decide +kernel
theorem dG_isBelow_0 : decode cG_isBelow 0 = .ok (.iload_n 0, 1) := by decide +kernel
theorem dG_isBelow_1 : decode cG_isBelow 1 = .ok (.ifCond .lt 12, 3) := by decide +kernel
theorem dG_isBelow_4 : decode cG_isBelow 4 = .ok (.iload_n 0, 1) := by decide +kernel
theorem dG_isBelow_5 : decode cG_isBelow 5 = .ok (.iload_n 1, 1) := by decide +kernel
theorem dG_isBelow_6 : decode cG_isBelow 6 = .ok (.if_icmp .ge 7, 3) := by decide +kernel
theorem dG_isBelow_9 : decode cG_isBelow 9 = .ok (.iconst 1, 1) := by decide +kernel
theorem dG_isBelow_10 : decode cG_isBelow 10 = .ok (.goto 4, 3) := by decide +kernel
theorem dG_isBelow_13 : decode cG_isBelow 13 = .ok (.iconst 0, 1) := by decide +kernel
theorem dG_isBelow_14 : decode cG_isBelow 14 = .ok (.ireturn, 1) := by decide +kernel
theorem dG_goodCopy_0 : decode cG_goodCopy 0 = .ok (.aload_n 0, 1) := by decide +kernel
theorem dG_goodCopy_1 : decode cG_goodCopy 1 = .ok (.iconst 0, 1) := by decide +kernel
theorem dG_goodCopy_2 : decode cG_goodCopy 2 = .ok (.iload_n 1, 1) := by decide +kernel
theorem dG_goodCopy_3 : decode cG_goodCopy 3 = .ok (.invokevirtual 147, 3) := by decide +kernel
theorem dG_goodCopy_6 : decode cG_goodCopy 6 = .ok (.ifCond .ne 5, 3) := by decide +kernel
theorem dG_goodCopy_9 : decode cG_goodCopy 9 = .ok (.iconst 0, 1) := by decide +kernel
theorem dG_goodCopy_10 : decode cG_goodCopy 10 = .ok (.ireturn, 1) := by decide +kernel
theorem dG_goodCopy_11 : decode cG_goodCopy 11 = .ok (.aload_n 0, 1) := by decide +kernel
theorem dG_goodCopy_12 : decode cG_goodCopy 12 = .ok (.iconst 1, 1) := by decide +kernel
theorem dG_goodCopy_13 : decode cG_goodCopy 13 = .ok (.iload_n 1, 1) := by decide +kernel
theorem dG_goodCopy_14 : decode cG_goodCopy 14 = .ok (.invokevirtual 147, 3) := by decide +kernel
theorem dG_goodCopy_17 : decode cG_goodCopy 17 = .ok (.ifCond .ne 7, 3) := by decide +kernel
theorem dG_goodCopy_20 : decode cG_goodCopy 20 = .ok (.iconst 1, 1) := by decide +kernel
theorem dG_goodCopy_21 : decode cG_goodCopy 21 = .ok (.goto 4, 3) := by decide +kernel
theorem dG_goodCopy_24 : decode cG_goodCopy 24 = .ok (.iconst (-1), 1) := by decide +kernel
theorem dG_goodCopy_25 : decode cG_goodCopy 25 = .ok (.ireturn, 1) := by decide +kernel
theorem dG_judge_0 : decode cG_judge 0 = .ok (.aload_n 0, 1) := by decide +kernel
theorem dG_judge_1 : decode cG_judge 1 = .ok (.iload_n 1, 1) := by decide +kernel
theorem dG_judge_2 : decode cG_judge 2 = .ok (.invokevirtual 78, 3) := by decide +kernel
theorem dG_judge_5 : decode cG_judge 5 = .ok (.astore_n 3, 1) := by decide +kernel
theorem dG_judge_6 : decode cG_judge 6 = .ok (.aload_n 3, 1) := by decide +kernel
theorem dG_judge_7 : decode cG_judge 7 = .ok (.iload_n 2, 1) := by decide +kernel
theorem dG_judge_8 : decode cG_judge 8 = .ok (.bipush 8, 2) := by decide +kernel
theorem dG_judge_10 : decode cG_judge 10 = .ok (.invokevirtual 82, 3) := by decide +kernel
theorem dG_judge_13 : decode cG_judge 13 = .ok (.aload_n 3, 1) := by decide +kernel
theorem dG_judge_14 : decode cG_judge 14 = .ok (.getfield 164, 3) := by decide +kernel
theorem dG_judge_17 : decode cG_judge 17 = .ok (.iload_n 2, 1) := by decide +kernel
theorem dG_judge_18 : decode cG_judge 18 = .ok (.bipush 11, 2) := by decide +kernel
theorem dG_judge_20 : decode cG_judge 20 = .ok (.imul, 1) := by decide +kernel
theorem dG_judge_21 : decode cG_judge 21 = .ok (.invokestatic 165, 3) := by decide +kernel
theorem dG_judge_24 : decode cG_judge 24 = .ok (.if_icmp .eq 5, 3) := by decide +kernel
theorem dG_judge_27 : decode cG_judge 27 = .ok (.iconst 1, 1) := by decide +kernel
theorem dG_judge_28 : decode cG_judge 28 = .ok (.ireturn, 1) := by decide +kernel
theorem dG_judge_29 : decode cG_judge 29 = .ok (.aload_n 3, 1) := by decide +kernel
theorem dG_judge_30 : decode cG_judge 30 = .ok (.iload_n 2, 1) := by decide +kernel
theorem dG_judge_31 : decode cG_judge 31 = .ok (.bipush 9, 2) := by decide +kernel
theorem dG_judge_33 : decode cG_judge 33 = .ok (.invokevirtual 82, 3) := by decide +kernel
theorem dG_judge_36 : decode cG_judge 36 = .ok (.iload_n 2, 1) := by decide +kernel
theorem dG_judge_37 : decode cG_judge 37 = .ok (.if_icmp .eq 5, 3) := by decide +kernel
theorem dG_judge_40 : decode cG_judge 40 = .ok (.iconst 2, 1) := by decide +kernel
theorem dG_judge_41 : decode cG_judge 41 = .ok (.ireturn, 1) := by decide +kernel
theorem dG_judge_42 : decode cG_judge 42 = .ok (.aload_n 0, 1) := by decide +kernel
theorem dG_judge_43 : decode cG_judge 43 = .ok (.iload_n 1, 1) := by decide +kernel
theorem dG_judge_44 : decode cG_judge 44 = .ok (.iload_n 2, 1) := by decide +kernel
theorem dG_judge_45 : decode cG_judge 45 = .ok (.invokevirtual 144, 3) := by decide +kernel
theorem dG_judge_48 : decode cG_judge 48 = .ok (.istore 4, 2) := by decide +kernel
theorem dG_judge_50 : decode cG_judge 50 = .ok (.iload 4, 2) := by decide +kernel
theorem dG_judge_52 : decode cG_judge 52 = .ok (.iconst (-1), 1) := by decide +kernel
theorem dG_judge_53 : decode cG_judge 53 = .ok (.if_icmp .ne 5, 3) := by decide +kernel
theorem dG_judge_56 : decode cG_judge 56 = .ok (.iconst 3, 1) := by decide +kernel
theorem dG_judge_57 : decode cG_judge 57 = .ok (.ireturn, 1) := by decide +kernel
theorem dG_judge_58 : decode cG_judge 58 = .ok (.aload_n 3, 1) := by decide +kernel
theorem dG_judge_59 : decode cG_judge 59 = .ok (.iload_n 2, 1) := by decide +kernel
theorem dG_judge_60 : decode cG_judge 60 = .ok (.bipush 10, 2) := by decide +kernel
theorem dG_judge_62 : decode cG_judge 62 = .ok (.invokevirtual 82, 3) := by decide +kernel
theorem dG_judge_65 : decode cG_judge 65 = .ok (.istore 5, 2) := by decide +kernel
theorem dG_judge_67 : decode cG_judge 67 = .ok (.iload 5, 2) := by decide +kernel
theorem dG_judge_69 : decode cG_judge 69 = .ok (.iload 4, 2) := by decide +kernel
theorem dG_judge_71 : decode cG_judge 71 = .ok (.if_icmp .ge 5, 3) := by decide +kernel
theorem dG_judge_74 : decode cG_judge 74 = .ok (.iconst 4, 1) := by decide +kernel
theorem dG_judge_75 : decode cG_judge 75 = .ok (.ireturn, 1) := by decide +kernel
theorem dG_judge_76 : decode cG_judge 76 = .ok (.iload 5, 2) := by decide +kernel
theorem dG_judge_78 : decode cG_judge 78 = .ok (.iload 4, 2) := by decide +kernel
theorem dG_judge_80 : decode cG_judge 80 = .ok (.if_icmp .le 7, 3) := by decide +kernel
theorem dG_judge_83 : decode cG_judge 83 = .ok (.iconst 5, 1) := by decide +kernel
theorem dG_judge_84 : decode cG_judge 84 = .ok (.goto 4, 3) := by decide +kernel
theorem dG_judge_87 : decode cG_judge 87 = .ok (.iconst 0, 1) := by decide +kernel
theorem dG_judge_88 : decode cG_judge 88 = .ok (.ireturn, 1) := by decide +kernel
theorem dG_driveOf_0 : decode cG_driveOf 0 = .ok (.iload_n 1, 1) := by decide +kernel
theorem dG_driveOf_1 : decode cG_driveOf 1 = .ok (.ifCond .ne 10, 3) := by decide +kernel
theorem dG_driveOf_4 : decode cG_driveOf 4 = .ok (.aload_n 0, 1) := by decide +kernel
theorem dG_driveOf_5 : decode cG_driveOf 5 = .ok (.getfield 12, 3) := by decide +kernel
theorem dG_driveOf_8 : decode cG_driveOf 8 = .ok (.goto 7, 3) := by decide +kernel
theorem dG_driveOf_11 : decode cG_driveOf 11 = .ok (.aload_n 0, 1) := by decide +kernel
theorem dG_driveOf_12 : decode cG_driveOf 12 = .ok (.getfield 16, 3) := by decide +kernel
theorem dG_driveOf_15 : decode cG_driveOf 15 = .ok (.areturn, 1) := by decide +kernel
theorem dD_at_0 : decode cD_at 0 = .ok (.aload_n 0, 1) := by decide +kernel
theorem dD_at_1 : decode cD_at 1 = .ok (.getfield 9, 3) := by decide +kernel
theorem dD_at_4 : decode cD_at 4 = .ok (.iload_n 1, 1) := by decide +kernel
theorem dD_at_5 : decode cD_at 5 = .ok (.bipush 11, 2) := by decide +kernel
theorem dD_at_7 : decode cD_at 7 = .ok (.imul, 1) := by decide +kernel
theorem dD_at_8 : decode cD_at 8 = .ok (.iload_n 2, 1) := by decide +kernel
theorem dD_at_9 : decode cD_at 9 = .ok (.iadd, 1) := by decide +kernel
theorem dD_at_10 : decode cD_at 10 = .ok (.iaload, 1) := by decide +kernel
theorem dD_at_11 : decode cD_at 11 = .ok (.ireturn, 1) := by decide +kernel
theorem dG_expectedVersion_0 : decode cG_expectedVersion 0 = .ok (.iload_n 2, 1) := by decide +kernel
theorem dG_expectedVersion_1 : decode cG_expectedVersion 1 = .ok (.bipush 8, 2) := by decide +kernel
theorem dG_expectedVersion_3 : decode cG_expectedVersion 3 = .ok (.idiv, 1) := by decide +kernel
theorem dG_expectedVersion_4 : decode cG_expectedVersion 4 = .ok (.istore_n 3, 1) := by decide +kernel
theorem dG_expectedVersion_5 : decode cG_expectedVersion 5 = .ok (.aload_n 0, 1) := by decide +kernel
theorem dG_expectedVersion_6 : decode cG_expectedVersion 6 = .ok (.iload_n 1, 1) := by decide +kernel
theorem dG_expectedVersion_7 : decode cG_expectedVersion 7 = .ok (.iload_n 3, 1) := by decide +kernel
theorem dG_expectedVersion_8 : decode cG_expectedVersion 8 = .ok (.invokevirtual 169, 3) := by decide +kernel
theorem dG_expectedVersion_11 : decode cG_expectedVersion 11 = .ok (.istore 4, 2) := by decide +kernel
theorem dG_expectedVersion_13 : decode cG_expectedVersion 13 = .ok (.iload 4, 2) := by decide +kernel
theorem dG_expectedVersion_15 : decode cG_expectedVersion 15 = .ok (.iconst (-1), 1) := by decide +kernel
theorem dG_expectedVersion_16 : decode cG_expectedVersion 16 = .ok (.if_icmp .ne 7, 3) := by decide +kernel
theorem dG_expectedVersion_19 : decode cG_expectedVersion 19 = .ok (.iconst (-1), 1) := by decide +kernel
theorem dG_expectedVersion_20 : decode cG_expectedVersion 20 = .ok (.goto 20, 3) := by decide +kernel
theorem dG_expectedVersion_23 : decode cG_expectedVersion 23 = .ok (.aload_n 0, 1) := by decide +kernel
theorem dG_expectedVersion_24 : decode cG_expectedVersion 24 = .ok (.iload 4, 2) := by decide +kernel
theorem dG_expectedVersion_26 : decode cG_expectedVersion 26 = .ok (.invokevirtual 78, 3) := by decide +kernel
theorem dG_expectedVersion_29 : decode cG_expectedVersion 29 = .ok (.bipush 64, 2) := by decide +kernel
theorem dG_expectedVersion_31 : decode cG_expectedVersion 31 = .ok (.iload_n 3, 1) := by decide +kernel
theorem dG_expectedVersion_32 : decode cG_expectedVersion 32 = .ok (.iadd, 1) := by decide +kernel
theorem dG_expectedVersion_33 : decode cG_expectedVersion 33 = .ok (.iload_n 2, 1) := by decide +kernel
theorem dG_expectedVersion_34 : decode cG_expectedVersion 34 = .ok (.bipush 8, 2) := by decide +kernel
theorem dG_expectedVersion_36 : decode cG_expectedVersion 36 = .ok (.irem, 1) := by decide +kernel
theorem dG_expectedVersion_37 : decode cG_expectedVersion 37 = .ok (.invokevirtual 82, 3) := by decide +kernel
theorem dG_expectedVersion_40 : decode cG_expectedVersion 40 = .ok (.ireturn, 1) := by decide +kernel
theorem dG_listDrive_0 : decode cG_listDrive 0 = .ok (.aload_n 0, 1) := by decide +kernel
theorem dG_listDrive_1 : decode cG_listDrive 1 = .ok (.iconst 1, 1) := by decide +kernel
theorem dG_listDrive_2 : decode cG_listDrive 2 = .ok (.iload_n 1, 1) := by decide +kernel
theorem dG_listDrive_3 : decode cG_listDrive 3 = .ok (.isub, 1) := by decide +kernel
theorem dG_listDrive_4 : decode cG_listDrive 4 = .ok (.iload_n 2, 1) := by decide +kernel
theorem dG_listDrive_5 : decode cG_listDrive 5 = .ok (.invokevirtual 150, 3) := by decide +kernel
theorem dG_listDrive_8 : decode cG_listDrive 8 = .ok (.ifCond .eq 7, 3) := by decide +kernel
theorem dG_listDrive_11 : decode cG_listDrive 11 = .ok (.iconst 1, 1) := by decide +kernel
theorem dG_listDrive_12 : decode cG_listDrive 12 = .ok (.iload_n 1, 1) := by decide +kernel
theorem dG_listDrive_13 : decode cG_listDrive 13 = .ok (.isub, 1) := by decide +kernel
theorem dG_listDrive_14 : decode cG_listDrive 14 = .ok (.ireturn, 1) := by decide +kernel
theorem dG_listDrive_15 : decode cG_listDrive 15 = .ok (.aload_n 0, 1) := by decide +kernel
theorem dG_listDrive_16 : decode cG_listDrive 16 = .ok (.iload_n 1, 1) := by decide +kernel
theorem dG_listDrive_17 : decode cG_listDrive 17 = .ok (.iload_n 2, 1) := by decide +kernel
theorem dG_listDrive_18 : decode cG_listDrive 18 = .ok (.invokevirtual 150, 3) := by decide +kernel
theorem dG_listDrive_21 : decode cG_listDrive 21 = .ok (.ifCond .eq 7, 3) := by decide +kernel
theorem dG_listDrive_24 : decode cG_listDrive 24 = .ok (.iload_n 1, 1) := by decide +kernel
theorem dG_listDrive_25 : decode cG_listDrive 25 = .ok (.goto 4, 3) := by decide +kernel
theorem dG_listDrive_28 : decode cG_listDrive 28 = .ok (.iconst (-1), 1) := by decide +kernel
theorem dG_listDrive_29 : decode cG_listDrive 29 = .ok (.ireturn, 1) := by decide +kernel
theorem dG_isPageRight_0 : decode cG_isPageRight 0 = .ok (.aload_n 0, 1) := by decide +kernel
theorem dG_isPageRight_1 : decode cG_isPageRight 1 = .ok (.iload_n 1, 1) := by decide +kernel
theorem dG_isPageRight_2 : decode cG_isPageRight 2 = .ok (.invokevirtual 78, 3) := by decide +kernel
theorem dG_isPageRight_5 : decode cG_isPageRight 5 = .ok (.astore_n 3, 1) := by decide +kernel
theorem dG_isPageRight_6 : decode cG_isPageRight 6 = .ok (.bipush 64, 2) := by decide +kernel
theorem dG_isPageRight_8 : decode cG_isPageRight 8 = .ok (.iload_n 2, 1) := by decide +kernel
theorem dG_isPageRight_9 : decode cG_isPageRight 9 = .ok (.iadd, 1) := by decide +kernel
theorem dG_isPageRight_10 : decode cG_isPageRight 10 = .ok (.istore 4, 2) := by decide +kernel
theorem dG_isPageRight_12 : decode cG_isPageRight 12 = .ok (.aload_n 3, 1) := by decide +kernel
theorem dG_isPageRight_13 : decode cG_isPageRight 13 = .ok (.iload 4, 2) := by decide +kernel
theorem dG_isPageRight_15 : decode cG_isPageRight 15 = .ok (.bipush 8, 2) := by decide +kernel
theorem dG_isPageRight_17 : decode cG_isPageRight 17 = .ok (.invokevirtual 82, 3) := by decide +kernel
theorem dG_isPageRight_20 : decode cG_isPageRight 20 = .ok (.aload_n 3, 1) := by decide +kernel
theorem dG_isPageRight_21 : decode cG_isPageRight 21 = .ok (.getfield 164, 3) := by decide +kernel
theorem dG_isPageRight_24 : decode cG_isPageRight 24 = .ok (.iload 4, 2) := by decide +kernel
theorem dG_isPageRight_26 : decode cG_isPageRight 26 = .ok (.bipush 11, 2) := by decide +kernel
theorem dG_isPageRight_28 : decode cG_isPageRight 28 = .ok (.imul, 1) := by decide +kernel
theorem dG_isPageRight_29 : decode cG_isPageRight 29 = .ok (.invokestatic 165, 3) := by decide +kernel
theorem dG_isPageRight_32 : decode cG_isPageRight 32 = .ok (.if_icmp .ne 42, 3) := by decide +kernel
theorem dG_isPageRight_35 : decode cG_isPageRight 35 = .ok (.aload_n 3, 1) := by decide +kernel
theorem dG_isPageRight_36 : decode cG_isPageRight 36 = .ok (.iload 4, 2) := by decide +kernel
theorem dG_isPageRight_38 : decode cG_isPageRight 38 = .ok (.bipush 9, 2) := by decide +kernel
theorem dG_isPageRight_40 : decode cG_isPageRight 40 = .ok (.invokevirtual 82, 3) := by decide +kernel
theorem dG_isPageRight_43 : decode cG_isPageRight 43 = .ok (.iload 4, 2) := by decide +kernel
theorem dG_isPageRight_45 : decode cG_isPageRight 45 = .ok (.if_icmp .ne 29, 3) := by decide +kernel
theorem dG_isPageRight_48 : decode cG_isPageRight 48 = .ok (.aload_n 3, 1) := by decide +kernel
theorem dG_isPageRight_49 : decode cG_isPageRight 49 = .ok (.iload 4, 2) := by decide +kernel
theorem dG_isPageRight_51 : decode cG_isPageRight 51 = .ok (.bipush 10, 2) := by decide +kernel
theorem dG_isPageRight_53 : decode cG_isPageRight 53 = .ok (.invokevirtual 82, 3) := by decide +kernel
theorem dG_isPageRight_56 : decode cG_isPageRight 56 = .ok (.aload_n 0, 1) := by decide +kernel
theorem dG_isPageRight_57 : decode cG_isPageRight 57 = .ok (.getfield 40, 3) := by decide +kernel
theorem dG_isPageRight_60 : decode cG_isPageRight 60 = .ok (.iload_n 1, 1) := by decide +kernel
theorem dG_isPageRight_61 : decode cG_isPageRight 61 = .ok (.bipush 8, 2) := by decide +kernel
theorem dG_isPageRight_63 : decode cG_isPageRight 63 = .ok (.imul, 1) := by decide +kernel
theorem dG_isPageRight_64 : decode cG_isPageRight 64 = .ok (.iload_n 2, 1) := by decide +kernel
theorem dG_isPageRight_65 : decode cG_isPageRight 65 = .ok (.iadd, 1) := by decide +kernel
theorem dG_isPageRight_66 : decode cG_isPageRight 66 = .ok (.iaload, 1) := by decide +kernel
theorem dG_isPageRight_67 : decode cG_isPageRight 67 = .ok (.if_icmp .ne 7, 3) := by decide +kernel
theorem dG_isPageRight_70 : decode cG_isPageRight 70 = .ok (.iconst 1, 1) := by decide +kernel
theorem dG_isPageRight_71 : decode cG_isPageRight 71 = .ok (.goto 4, 3) := by decide +kernel
theorem dG_isPageRight_74 : decode cG_isPageRight 74 = .ok (.iconst 0, 1) := by decide +kernel
theorem dG_isPageRight_75 : decode cG_isPageRight 75 = .ok (.ireturn, 1) := by decide +kernel
theorem dG_codeOf_0 : decode cG_codeOf 0 = .ok (.iload_n 0, 1) := by decide +kernel
theorem dG_codeOf_1 : decode cG_codeOf 1 = .ok (.iconst (-1), 1) := by decide +kernel
theorem dG_codeOf_2 : decode cG_codeOf 2 = .ok (.if_icmp .ne 7, 3) := by decide +kernel
theorem dG_codeOf_5 : decode cG_codeOf 5 = .ok (.iconst 2, 1) := by decide +kernel
theorem dG_codeOf_6 : decode cG_codeOf 6 = .ok (.goto 4, 3) := by decide +kernel
theorem dG_codeOf_9 : decode cG_codeOf 9 = .ok (.iload_n 0, 1) := by decide +kernel
theorem dG_codeOf_10 : decode cG_codeOf 10 = .ok (.ireturn, 1) := by decide +kernel
theorem dD_giveWords_0 : decode cD_giveWords 0 = .ok (.aload_n 0, 1) := by decide +kernel
theorem dD_giveWords_1 : decode cD_giveWords 1 = .ok (.getfield 9, 3) := by decide +kernel
theorem dD_giveWords_4 : decode cD_giveWords 4 = .ok (.iload_n 1, 1) := by decide +kernel
theorem dD_giveWords_5 : decode cD_giveWords 5 = .ok (.bipush 11, 2) := by decide +kernel
theorem dD_giveWords_7 : decode cD_giveWords 7 = .ok (.imul, 1) := by decide +kernel
theorem dD_giveWords_8 : decode cD_giveWords 8 = .ok (.aload_n 2, 1) := by decide +kernel
theorem dD_giveWords_9 : decode cD_giveWords 9 = .ok (.iconst 0, 1) := by decide +kernel
theorem dD_giveWords_10 : decode cD_giveWords 10 = .ok (.bipush 8, 2) := by decide +kernel
theorem dD_giveWords_12 : decode cD_giveWords 12 = .ok (.invokestatic 35, 3) := by decide +kernel
theorem dD_giveWords_15 : decode cD_giveWords 15 = .ok (.return_, 1) := by decide +kernel
theorem dG_putNotedBlock_0 : decode cG_putNotedBlock 0 = .ok (.iconst 0, 1) := by decide +kernel
theorem dG_putNotedBlock_1 : decode cG_putNotedBlock 1 = .ok (.istore_n 1, 1) := by decide +kernel
theorem dG_putNotedBlock_2 : decode cG_putNotedBlock 2 = .ok (.iload_n 1, 1) := by decide +kernel
theorem dG_putNotedBlock_3 : decode cG_putNotedBlock 3 = .ok (.iconst 2, 1) := by decide +kernel
theorem dG_putNotedBlock_4 : decode cG_putNotedBlock 4 = .ok (.if_icmp .ge 40, 3) := by decide +kernel
theorem dG_putNotedBlock_7 : decode cG_putNotedBlock 7 = .ok (.aload_n 0, 1) := by decide +kernel
theorem dG_putNotedBlock_8 : decode cG_putNotedBlock 8 = .ok (.iload_n 1, 1) := by decide +kernel
theorem dG_putNotedBlock_9 : decode cG_putNotedBlock 9 = .ok (.aload_n 0, 1) := by decide +kernel
theorem dG_putNotedBlock_10 : decode cG_putNotedBlock 10 = .ok (.getfield 29, 3) := by decide +kernel
theorem dG_putNotedBlock_13 : decode cG_putNotedBlock 13 = .ok (.getfield 102, 3) := by decide +kernel
theorem dG_putNotedBlock_16 : decode cG_putNotedBlock 16 = .ok (.aload_n 0, 1) := by decide +kernel
theorem dG_putNotedBlock_17 : decode cG_putNotedBlock 17 = .ok (.getfield 29, 3) := by decide +kernel
theorem dG_putNotedBlock_20 : decode cG_putNotedBlock 20 = .ok (.getfield 92, 3) := by decide +kernel
theorem dG_putNotedBlock_23 : decode cG_putNotedBlock 23 = .ok (.aload_n 0, 1) := by decide +kernel
theorem dG_putNotedBlock_24 : decode cG_putNotedBlock 24 = .ok (.getfield 29, 3) := by decide +kernel
theorem dG_putNotedBlock_27 : decode cG_putNotedBlock 27 = .ok (.getfield 99, 3) := by decide +kernel
theorem dG_putNotedBlock_30 : decode cG_putNotedBlock 30 = .ok (.invokevirtual 197, 3) := by decide +kernel
theorem dG_putNotedBlock_33 : decode cG_putNotedBlock 33 = .ok (.ifCond .ne 5, 3) := by decide +kernel
theorem dG_putNotedBlock_36 : decode cG_putNotedBlock 36 = .ok (.iconst 0, 1) := by decide +kernel
theorem dG_putNotedBlock_37 : decode cG_putNotedBlock 37 = .ok (.ireturn, 1) := by decide +kernel
theorem dG_putNotedBlock_38 : decode cG_putNotedBlock 38 = .ok (.iinc 1 1, 3) := by decide +kernel
theorem dG_putNotedBlock_41 : decode cG_putNotedBlock 41 = .ok (.goto (-39), 3) := by decide +kernel
theorem dG_putNotedBlock_44 : decode cG_putNotedBlock 44 = .ok (.aload_n 0, 1) := by decide +kernel
theorem dG_putNotedBlock_45 : decode cG_putNotedBlock 45 = .ok (.getfield 29, 3) := by decide +kernel
theorem dG_putNotedBlock_48 : decode cG_putNotedBlock 48 = .ok (.iconst (-1), 1) := by decide +kernel
theorem dG_putNotedBlock_49 : decode cG_putNotedBlock 49 = .ok (.putfield 102, 3) := by decide +kernel
theorem dG_putNotedBlock_52 : decode cG_putNotedBlock 52 = .ok (.iconst 1, 1) := by decide +kernel
theorem dG_putNotedBlock_53 : decode cG_putNotedBlock 53 = .ok (.ireturn, 1) := by decide +kernel
theorem dG_putCopy_0 : decode cG_putCopy 0 = .ok (.aload_n 0, 1) := by decide +kernel
theorem dG_putCopy_1 : decode cG_putCopy 1 = .ok (.iload_n 1, 1) := by decide +kernel
theorem dG_putCopy_2 : decode cG_putCopy 2 = .ok (.iload_n 2, 1) := by decide +kernel
theorem dG_putCopy_3 : decode cG_putCopy 3 = .ok (.aload_n 3, 1) := by decide +kernel
theorem dG_putCopy_4 : decode cG_putCopy 4 = .ok (.iload 4, 2) := by decide +kernel
theorem dG_putCopy_6 : decode cG_putCopy 6 = .ok (.invokevirtual 190, 3) := by decide +kernel
theorem dG_putCopy_9 : decode cG_putCopy 9 = .ok (.ifCond .eq 18, 3) := by decide +kernel
theorem dG_putCopy_12 : decode cG_putCopy 12 = .ok (.aload_n 0, 1) := by decide +kernel
theorem dG_putCopy_13 : decode cG_putCopy 13 = .ok (.iload_n 1, 1) := by decide +kernel
theorem dG_putCopy_14 : decode cG_putCopy 14 = .ok (.iload_n 2, 1) := by decide +kernel
theorem dG_putCopy_15 : decode cG_putCopy 15 = .ok (.iload 4, 2) := by decide +kernel
theorem dG_putCopy_17 : decode cG_putCopy 17 = .ok (.invokevirtual 194, 3) := by decide +kernel
theorem dG_putCopy_20 : decode cG_putCopy 20 = .ok (.ifCond .eq 7, 3) := by decide +kernel
theorem dG_putCopy_23 : decode cG_putCopy 23 = .ok (.iconst 1, 1) := by decide +kernel
theorem dG_putCopy_24 : decode cG_putCopy 24 = .ok (.goto 4, 3) := by decide +kernel
theorem dG_putCopy_27 : decode cG_putCopy 27 = .ok (.iconst 0, 1) := by decide +kernel
theorem dG_putCopy_28 : decode cG_putCopy 28 = .ok (.ireturn, 1) := by decide +kernel
theorem dG_store_0 : decode cG_store 0 = .ok (.aload_n 0, 1) := by decide +kernel
theorem dG_store_1 : decode cG_store 1 = .ok (.getfield 22, 3) := by decide +kernel
theorem dG_store_4 : decode cG_store 4 = .ok (.invokevirtual 172, 3) := by decide +kernel
theorem dG_store_7 : decode cG_store 7 = .ok (.ifCond .ne 5, 3) := by decide +kernel
theorem dG_store_10 : decode cG_store 10 = .ok (.iconst 0, 1) := by decide +kernel
theorem dG_store_11 : decode cG_store 11 = .ok (.ireturn, 1) := by decide +kernel
theorem dG_store_12 : decode cG_store 12 = .ok (.aload_n 3, 1) := by decide +kernel
theorem dG_store_13 : decode cG_store 13 = .ok (.iconst 0, 1) := by decide +kernel
theorem dG_store_14 : decode cG_store 14 = .ok (.aload_n 0, 1) := by decide +kernel
theorem dG_store_15 : decode cG_store 15 = .ok (.getfield 51, 3) := by decide +kernel
theorem dG_store_18 : decode cG_store 18 = .ok (.iconst 0, 1) := by decide +kernel
theorem dG_store_19 : decode cG_store 19 = .ok (.bipush 8, 2) := by decide +kernel
theorem dG_store_21 : decode cG_store 21 = .ok (.invokestatic 175, 3) := by decide +kernel
theorem dG_store_24 : decode cG_store 24 = .ok (.aload_n 0, 1) := by decide +kernel
theorem dG_store_25 : decode cG_store 25 = .ok (.getfield 51, 3) := by decide +kernel
theorem dG_store_28 : decode cG_store 28 = .ok (.bipush 9, 2) := by decide +kernel
theorem dG_store_30 : decode cG_store 30 = .ok (.iload_n 2, 1) := by decide +kernel
theorem dG_store_31 : decode cG_store 31 = .ok (.iastore, 1) := by decide +kernel
theorem dG_store_32 : decode cG_store 32 = .ok (.aload_n 0, 1) := by decide +kernel
theorem dG_store_33 : decode cG_store 33 = .ok (.getfield 51, 3) := by decide +kernel
theorem dG_store_36 : decode cG_store 36 = .ok (.bipush 10, 2) := by decide +kernel
theorem dG_store_38 : decode cG_store 38 = .ok (.iload 4, 2) := by decide +kernel
theorem dG_store_40 : decode cG_store 40 = .ok (.iastore, 1) := by decide +kernel
theorem dG_store_41 : decode cG_store 41 = .ok (.aload_n 0, 1) := by decide +kernel
theorem dG_store_42 : decode cG_store 42 = .ok (.getfield 51, 3) := by decide +kernel
theorem dG_store_45 : decode cG_store 45 = .ok (.bipush 8, 2) := by decide +kernel
theorem dG_store_47 : decode cG_store 47 = .ok (.aload_n 0, 1) := by decide +kernel
theorem dG_store_48 : decode cG_store 48 = .ok (.getfield 51, 3) := by decide +kernel
theorem dG_store_51 : decode cG_store 51 = .ok (.iconst 0, 1) := by decide +kernel
theorem dG_store_52 : decode cG_store 52 = .ok (.invokestatic 165, 3) := by decide +kernel
theorem dG_store_55 : decode cG_store 55 = .ok (.iastore, 1) := by decide +kernel
theorem dG_store_56 : decode cG_store 56 = .ok (.aload_n 0, 1) := by decide +kernel
theorem dG_store_57 : decode cG_store 57 = .ok (.iload_n 1, 1) := by decide +kernel
theorem dG_store_58 : decode cG_store 58 = .ok (.invokevirtual 78, 3) := by decide +kernel
theorem dG_store_61 : decode cG_store 61 = .ok (.iload_n 2, 1) := by decide +kernel
theorem dG_store_62 : decode cG_store 62 = .ok (.aload_n 0, 1) := by decide +kernel
theorem dG_store_63 : decode cG_store 63 = .ok (.getfield 51, 3) := by decide +kernel
theorem dG_store_66 : decode cG_store 66 = .ok (.invokevirtual 181, 3) := by decide +kernel
theorem dG_store_69 : decode cG_store 69 = .ok (.iconst 1, 1) := by decide +kernel
theorem dG_store_70 : decode cG_store 70 = .ok (.ireturn, 1) := by decide +kernel
theorem dP_allowsWrite_0 : decode cP_allowsWrite 0 = .ok (.aload_n 0, 1) := by decide +kernel
theorem dP_allowsWrite_1 : decode cP_allowsWrite 1 = .ok (.getfield 13, 3) := by decide +kernel
theorem dP_allowsWrite_4 : decode cP_allowsWrite 4 = .ok (.ifCond .ne 10, 3) := by decide +kernel
theorem dP_allowsWrite_7 : decode cP_allowsWrite 7 = .ok (.aload_n 0, 1) := by decide +kernel
theorem dP_allowsWrite_8 : decode cP_allowsWrite 8 = .ok (.iconst 0, 1) := by decide +kernel
theorem dP_allowsWrite_9 : decode cP_allowsWrite 9 = .ok (.putfield 7, 3) := by decide +kernel
theorem dP_allowsWrite_12 : decode cP_allowsWrite 12 = .ok (.iconst 0, 1) := by decide +kernel
theorem dP_allowsWrite_13 : decode cP_allowsWrite 13 = .ok (.ireturn, 1) := by decide +kernel
theorem dP_allowsWrite_14 : decode cP_allowsWrite 14 = .ok (.aload_n 0, 1) := by decide +kernel
theorem dP_allowsWrite_15 : decode cP_allowsWrite 15 = .ok (.getfield 13, 3) := by decide +kernel
theorem dP_allowsWrite_18 : decode cP_allowsWrite 18 = .ok (.ifCond .le 13, 3) := by decide +kernel
theorem dP_allowsWrite_21 : decode cP_allowsWrite 21 = .ok (.aload_n 0, 1) := by decide +kernel
theorem dP_allowsWrite_22 : decode cP_allowsWrite 22 = .ok (.dup, 1) := by decide +kernel
theorem dP_allowsWrite_23 : decode cP_allowsWrite 23 = .ok (.getfield 13, 3) := by decide +kernel
theorem dP_allowsWrite_26 : decode cP_allowsWrite 26 = .ok (.iconst 1, 1) := by decide +kernel
theorem dP_allowsWrite_27 : decode cP_allowsWrite 27 = .ok (.isub, 1) := by decide +kernel
theorem dP_allowsWrite_28 : decode cP_allowsWrite 28 = .ok (.putfield 13, 3) := by decide +kernel
theorem dP_allowsWrite_31 : decode cP_allowsWrite 31 = .ok (.iconst 1, 1) := by decide +kernel
theorem dP_allowsWrite_32 : decode cP_allowsWrite 32 = .ok (.ireturn, 1) := by decide +kernel
theorem dD_take_0 : decode cD_take 0 = .ok (.aload_n 0, 1) := by decide +kernel
theorem dD_take_1 : decode cD_take 1 = .ok (.iconst 1, 1) := by decide +kernel
theorem dD_take_2 : decode cD_take 2 = .ok (.invokevirtual 47, 3) := by decide +kernel
theorem dD_take_5 : decode cD_take 5 = .ok (.istore_n 3, 1) := by decide +kernel
theorem dD_take_6 : decode cD_take 6 = .ok (.aload_n 0, 1) := by decide +kernel
theorem dD_take_7 : decode cD_take 7 = .ok (.dup, 1) := by decide +kernel
theorem dD_take_8 : decode cD_take 8 = .ok (.getfield 28, 3) := by decide +kernel
theorem dD_take_11 : decode cD_take 11 = .ok (.iconst 1, 1) := by decide +kernel
theorem dD_take_12 : decode cD_take 12 = .ok (.iadd, 1) := by decide +kernel
theorem dD_take_13 : decode cD_take 13 = .ok (.putfield 28, 3) := by decide +kernel
theorem dD_take_16 : decode cD_take 16 = .ok (.iload_n 3, 1) := by decide +kernel
theorem dD_take_17 : decode cD_take 17 = .ok (.iconst (-1), 1) := by decide +kernel
theorem dD_take_18 : decode cD_take 18 = .ok (.if_icmp .ne 12, 3) := by decide +kernel
theorem dD_take_21 : decode cD_take 21 = .ok (.aload_n 0, 1) := by decide +kernel
theorem dD_take_22 : decode cD_take 22 = .ok (.iload_n 1, 1) := by decide +kernel
theorem dD_take_23 : decode cD_take 23 = .ok (.aload_n 2, 1) := by decide +kernel
theorem dD_take_24 : decode cD_take 24 = .ok (.bipush 11, 2) := by decide +kernel
theorem dD_take_26 : decode cD_take 26 = .ok (.invokevirtual 51, 3) := by decide +kernel
theorem dD_take_29 : decode cD_take 29 = .ok (.return_, 1) := by decide +kernel
theorem dD_take_30 : decode cD_take 30 = .ok (.aload_n 0, 1) := by decide +kernel
theorem dD_take_31 : decode cD_take 31 = .ok (.getfield 18, 3) := by decide +kernel
theorem dD_take_34 : decode cD_take 34 = .ok (.iload_n 3, 1) := by decide +kernel
theorem dD_take_35 : decode cD_take 35 = .ok (.iaload, 1) := by decide +kernel
theorem dD_take_36 : decode cD_take 36 = .ok (.istore 4, 2) := by decide +kernel
theorem dD_take_38 : decode cD_take 38 = .ok (.aload_n 0, 1) := by decide +kernel
theorem dD_take_39 : decode cD_take 39 = .ok (.getfield 21, 3) := by decide +kernel
theorem dD_take_42 : decode cD_take 42 = .ok (.iload_n 3, 1) := by decide +kernel
theorem dD_take_43 : decode cD_take 43 = .ok (.iaload, 1) := by decide +kernel
theorem dD_take_44 : decode cD_take 44 = .ok (.istore 5, 2) := by decide +kernel
theorem dD_take_46 : decode cD_take 46 = .ok (.aload_n 0, 1) := by decide +kernel
theorem dD_take_47 : decode cD_take 47 = .ok (.iload_n 3, 1) := by decide +kernel
theorem dD_take_48 : decode cD_take 48 = .ok (.invokevirtual 55, 3) := by decide +kernel
theorem dD_take_51 : decode cD_take 51 = .ok (.iload 4, 2) := by decide +kernel
theorem dD_take_53 : decode cD_take 53 = .ok (.iconst 1, 1) := by decide +kernel
theorem dD_take_54 : decode cD_take 54 = .ok (.if_icmp .ne 15, 3) := by decide +kernel
theorem dD_take_57 : decode cD_take 57 = .ok (.aload_n 0, 1) := by decide +kernel
theorem dD_take_58 : decode cD_take 58 = .ok (.iload 5, 2) := by decide +kernel
theorem dD_take_60 : decode cD_take 60 = .ok (.aload_n 2, 1) := by decide +kernel
theorem dD_take_61 : decode cD_take 61 = .ok (.bipush 11, 2) := by decide +kernel
theorem dD_take_63 : decode cD_take 63 = .ok (.invokevirtual 51, 3) := by decide +kernel
theorem dD_take_66 : decode cD_take 66 = .ok (.goto 17, 3) := by decide +kernel
theorem dD_take_69 : decode cD_take 69 = .ok (.iload 4, 2) := by decide +kernel
theorem dD_take_71 : decode cD_take 71 = .ok (.iconst 2, 1) := by decide +kernel
theorem dD_take_72 : decode cD_take 72 = .ok (.if_icmp .ne 11, 3) := by decide +kernel
theorem dD_take_75 : decode cD_take 75 = .ok (.aload_n 0, 1) := by decide +kernel
theorem dD_take_76 : decode cD_take 76 = .ok (.iload_n 1, 1) := by decide +kernel
theorem dD_take_77 : decode cD_take 77 = .ok (.aload_n 2, 1) := by decide +kernel
theorem dD_take_78 : decode cD_take 78 = .ok (.iload 5, 2) := by decide +kernel
theorem dD_take_80 : decode cD_take 80 = .ok (.invokevirtual 51, 3) := by decide +kernel
theorem dD_take_83 : decode cD_take 83 = .ok (.return_, 1) := by decide +kernel
theorem dD_planOfNext_0 : decode cD_planOfNext 0 = .ok (.iconst 0, 1) := by decide +kernel
theorem dD_planOfNext_1 : decode cD_planOfNext 1 = .ok (.istore_n 2, 1) := by decide +kernel
theorem dD_planOfNext_2 : decode cD_planOfNext 2 = .ok (.iload_n 2, 1) := by decide +kernel
theorem dD_planOfNext_3 : decode cD_planOfNext 3 = .ok (.aload_n 0, 1) := by decide +kernel
theorem dD_planOfNext_4 : decode cD_planOfNext 4 = .ok (.getfield 24, 3) := by decide +kernel
theorem dD_planOfNext_7 : decode cD_planOfNext 7 = .ok (.if_icmp .ge 26, 3) := by decide +kernel
theorem dD_planOfNext_10 : decode cD_planOfNext 10 = .ok (.aload_n 0, 1) := by decide +kernel
theorem dD_planOfNext_11 : decode cD_planOfNext 11 = .ok (.getfield 15, 3) := by decide +kernel
theorem dD_planOfNext_14 : decode cD_planOfNext 14 = .ok (.iload_n 2, 1) := by decide +kernel
theorem dD_planOfNext_15 : decode cD_planOfNext 15 = .ok (.iaload, 1) := by decide +kernel
theorem dD_planOfNext_16 : decode cD_planOfNext 16 = .ok (.aload_n 0, 1) := by decide +kernel
theorem dD_planOfNext_17 : decode cD_planOfNext 17 = .ok (.getfield 28, 3) := by decide +kernel
theorem dD_planOfNext_20 : decode cD_planOfNext 20 = .ok (.iload_n 1, 1) := by decide +kernel
theorem dD_planOfNext_21 : decode cD_planOfNext 21 = .ok (.iadd, 1) := by decide +kernel
theorem dD_planOfNext_22 : decode cD_planOfNext 22 = .ok (.if_icmp .ne 5, 3) := by decide +kernel
theorem dD_planOfNext_25 : decode cD_planOfNext 25 = .ok (.iload_n 2, 1) := by decide +kernel
theorem dD_planOfNext_26 : decode cD_planOfNext 26 = .ok (.ireturn, 1) := by decide +kernel
theorem dD_planOfNext_27 : decode cD_planOfNext 27 = .ok (.iinc 2 1, 3) := by decide +kernel
theorem dD_planOfNext_30 : decode cD_planOfNext 30 = .ok (.goto (-28), 3) := by decide +kernel
theorem dD_planOfNext_33 : decode cD_planOfNext 33 = .ok (.iconst (-1), 1) := by decide +kernel
theorem dD_planOfNext_34 : decode cD_planOfNext 34 = .ok (.ireturn, 1) := by decide +kernel
theorem dD_keep_0 : decode cD_keep 0 = .ok (.aload_n 2, 1) := by decide +kernel
theorem dD_keep_1 : decode cD_keep 1 = .ok (.iconst 0, 1) := by decide +kernel
theorem dD_keep_2 : decode cD_keep 2 = .ok (.aload_n 0, 1) := by decide +kernel
theorem dD_keep_3 : decode cD_keep 3 = .ok (.getfield 9, 3) := by decide +kernel
theorem dD_keep_6 : decode cD_keep 6 = .ok (.iload_n 1, 1) := by decide +kernel
theorem dD_keep_7 : decode cD_keep 7 = .ok (.bipush 11, 2) := by decide +kernel
theorem dD_keep_9 : decode cD_keep 9 = .ok (.imul, 1) := by decide +kernel
theorem dD_keep_10 : decode cD_keep 10 = .ok (.iload_n 3, 1) := by decide +kernel
theorem dD_keep_11 : decode cD_keep 11 = .ok (.invokestatic 35, 3) := by decide +kernel
theorem dD_keep_14 : decode cD_keep 14 = .ok (.return_, 1) := by decide +kernel
theorem dD_removePlan_0 : decode cD_removePlan 0 = .ok (.aload_n 0, 1) := by decide +kernel
theorem dD_removePlan_1 : decode cD_removePlan 1 = .ok (.dup, 1) := by decide +kernel
theorem dD_removePlan_2 : decode cD_removePlan 2 = .ok (.getfield 24, 3) := by decide +kernel
theorem dD_removePlan_5 : decode cD_removePlan 5 = .ok (.iconst 1, 1) := by decide +kernel
theorem dD_removePlan_6 : decode cD_removePlan 6 = .ok (.isub, 1) := by decide +kernel
theorem dD_removePlan_7 : decode cD_removePlan 7 = .ok (.putfield 24, 3) := by decide +kernel
theorem dD_removePlan_10 : decode cD_removePlan 10 = .ok (.aload_n 0, 1) := by decide +kernel
theorem dD_removePlan_11 : decode cD_removePlan 11 = .ok (.getfield 15, 3) := by decide +kernel
theorem dD_removePlan_14 : decode cD_removePlan 14 = .ok (.iload_n 1, 1) := by decide +kernel
theorem dD_removePlan_15 : decode cD_removePlan 15 = .ok (.aload_n 0, 1) := by decide +kernel
theorem dD_removePlan_16 : decode cD_removePlan 16 = .ok (.getfield 15, 3) := by decide +kernel
theorem dD_removePlan_19 : decode cD_removePlan 19 = .ok (.aload_n 0, 1) := by decide +kernel
theorem dD_removePlan_20 : decode cD_removePlan 20 = .ok (.getfield 24, 3) := by decide +kernel
theorem dD_removePlan_23 : decode cD_removePlan 23 = .ok (.iaload, 1) := by decide +kernel
theorem dD_removePlan_24 : decode cD_removePlan 24 = .ok (.iastore, 1) := by decide +kernel
theorem dD_removePlan_25 : decode cD_removePlan 25 = .ok (.aload_n 0, 1) := by decide +kernel
theorem dD_removePlan_26 : decode cD_removePlan 26 = .ok (.getfield 18, 3) := by decide +kernel
theorem dD_removePlan_29 : decode cD_removePlan 29 = .ok (.iload_n 1, 1) := by decide +kernel
theorem dD_removePlan_30 : decode cD_removePlan 30 = .ok (.aload_n 0, 1) := by decide +kernel
theorem dD_removePlan_31 : decode cD_removePlan 31 = .ok (.getfield 18, 3) := by decide +kernel
theorem dD_removePlan_34 : decode cD_removePlan 34 = .ok (.aload_n 0, 1) := by decide +kernel
theorem dD_removePlan_35 : decode cD_removePlan 35 = .ok (.getfield 24, 3) := by decide +kernel
theorem dD_removePlan_38 : decode cD_removePlan 38 = .ok (.iaload, 1) := by decide +kernel
theorem dD_removePlan_39 : decode cD_removePlan 39 = .ok (.iastore, 1) := by decide +kernel
theorem dD_removePlan_40 : decode cD_removePlan 40 = .ok (.aload_n 0, 1) := by decide +kernel
theorem dD_removePlan_41 : decode cD_removePlan 41 = .ok (.getfield 21, 3) := by decide +kernel
theorem dD_removePlan_44 : decode cD_removePlan 44 = .ok (.iload_n 1, 1) := by decide +kernel
theorem dD_removePlan_45 : decode cD_removePlan 45 = .ok (.aload_n 0, 1) := by decide +kernel
theorem dD_removePlan_46 : decode cD_removePlan 46 = .ok (.getfield 21, 3) := by decide +kernel
theorem dD_removePlan_49 : decode cD_removePlan 49 = .ok (.aload_n 0, 1) := by decide +kernel
theorem dD_removePlan_50 : decode cD_removePlan 50 = .ok (.getfield 24, 3) := by decide +kernel
theorem dD_removePlan_53 : decode cD_removePlan 53 = .ok (.iaload, 1) := by decide +kernel
theorem dD_removePlan_54 : decode cD_removePlan 54 = .ok (.iastore, 1) := by decide +kernel
theorem dD_removePlan_55 : decode cD_removePlan 55 = .ok (.return_, 1) := by decide +kernel
theorem dG_storeList_0 : decode cG_storeList 0 = .ok (.iload_n 2, 1) := by decide +kernel
theorem dG_storeList_1 : decode cG_storeList 1 = .ok (.bipush 8, 2) := by decide +kernel
theorem dG_storeList_3 : decode cG_storeList 3 = .ok (.idiv, 1) := by decide +kernel
theorem dG_storeList_4 : decode cG_storeList 4 = .ok (.istore 4, 2) := by decide +kernel
theorem dG_storeList_6 : decode cG_storeList 6 = .ok (.aload_n 0, 1) := by decide +kernel
theorem dG_storeList_7 : decode cG_storeList 7 = .ok (.iload_n 1, 1) := by decide +kernel
theorem dG_storeList_8 : decode cG_storeList 8 = .ok (.iload 4, 2) := by decide +kernel
theorem dG_storeList_10 : decode cG_storeList 10 = .ok (.invokevirtual 169, 3) := by decide +kernel
theorem dG_storeList_13 : decode cG_storeList 13 = .ok (.istore 5, 2) := by decide +kernel
theorem dG_storeList_15 : decode cG_storeList 15 = .ok (.iload 5, 2) := by decide +kernel
theorem dG_storeList_17 : decode cG_storeList 17 = .ok (.iconst (-1), 1) := by decide +kernel
theorem dG_storeList_18 : decode cG_storeList 18 = .ok (.if_icmp .ne 14, 3) := by decide +kernel
theorem dG_storeList_21 : decode cG_storeList 21 = .ok (.aload_n 0, 1) := by decide +kernel
theorem dG_storeList_22 : decode cG_storeList 22 = .ok (.getfield 54, 3) := by decide +kernel
theorem dG_storeList_25 : decode cG_storeList 25 = .ok (.iconst 0, 1) := by decide +kernel
theorem dG_storeList_26 : decode cG_storeList 26 = .ok (.invokestatic 184, 3) := by decide +kernel
theorem dG_storeList_29 : decode cG_storeList 29 = .ok (.goto 21, 3) := by decide +kernel
theorem dG_storeList_32 : decode cG_storeList 32 = .ok (.aload_n 0, 1) := by decide +kernel
theorem dG_storeList_33 : decode cG_storeList 33 = .ok (.iload 5, 2) := by decide +kernel
theorem dG_storeList_35 : decode cG_storeList 35 = .ok (.invokevirtual 78, 3) := by decide +kernel
theorem dG_storeList_38 : decode cG_storeList 38 = .ok (.bipush 64, 2) := by decide +kernel
theorem dG_storeList_40 : decode cG_storeList 40 = .ok (.iload 4, 2) := by decide +kernel
theorem dG_storeList_42 : decode cG_storeList 42 = .ok (.iadd, 1) := by decide +kernel
theorem dG_storeList_43 : decode cG_storeList 43 = .ok (.aload_n 0, 1) := by decide +kernel
theorem dG_storeList_44 : decode cG_storeList 44 = .ok (.getfield 54, 3) := by decide +kernel
theorem dG_storeList_47 : decode cG_storeList 47 = .ok (.invokevirtual 95, 3) := by decide +kernel
theorem dG_storeList_50 : decode cG_storeList 50 = .ok (.aload_n 0, 1) := by decide +kernel
theorem dG_storeList_51 : decode cG_storeList 51 = .ok (.getfield 54, 3) := by decide +kernel
theorem dG_storeList_54 : decode cG_storeList 54 = .ok (.iload_n 2, 1) := by decide +kernel
theorem dG_storeList_55 : decode cG_storeList 55 = .ok (.bipush 8, 2) := by decide +kernel
theorem dG_storeList_57 : decode cG_storeList 57 = .ok (.irem, 1) := by decide +kernel
theorem dG_storeList_58 : decode cG_storeList 58 = .ok (.iload_n 3, 1) := by decide +kernel
theorem dG_storeList_59 : decode cG_storeList 59 = .ok (.iastore, 1) := by decide +kernel
theorem dG_storeList_60 : decode cG_storeList 60 = .ok (.iconst 1, 1) := by decide +kernel
theorem dG_storeList_61 : decode cG_storeList 61 = .ok (.iload_n 1, 1) := by decide +kernel
theorem dG_storeList_62 : decode cG_storeList 62 = .ok (.isub, 1) := by decide +kernel
theorem dG_storeList_63 : decode cG_storeList 63 = .ok (.bipush 8, 2) := by decide +kernel
theorem dG_storeList_65 : decode cG_storeList 65 = .ok (.imul, 1) := by decide +kernel
theorem dG_storeList_66 : decode cG_storeList 66 = .ok (.iload 4, 2) := by decide +kernel
theorem dG_storeList_68 : decode cG_storeList 68 = .ok (.iadd, 1) := by decide +kernel
theorem dG_storeList_69 : decode cG_storeList 69 = .ok (.istore 6, 2) := by decide +kernel
theorem dG_storeList_71 : decode cG_storeList 71 = .ok (.aload_n 0, 1) := by decide +kernel
theorem dG_storeList_72 : decode cG_storeList 72 = .ok (.getfield 40, 3) := by decide +kernel
theorem dG_storeList_75 : decode cG_storeList 75 = .ok (.iload 6, 2) := by decide +kernel
theorem dG_storeList_77 : decode cG_storeList 77 = .ok (.iaload, 1) := by decide +kernel
theorem dG_storeList_78 : decode cG_storeList 78 = .ok (.iconst 1, 1) := by decide +kernel
theorem dG_storeList_79 : decode cG_storeList 79 = .ok (.iadd, 1) := by decide +kernel
theorem dG_storeList_80 : decode cG_storeList 80 = .ok (.istore 7, 2) := by decide +kernel
theorem dG_storeList_82 : decode cG_storeList 82 = .ok (.aload_n 0, 1) := by decide +kernel
theorem dG_storeList_83 : decode cG_storeList 83 = .ok (.iconst 1, 1) := by decide +kernel
theorem dG_storeList_84 : decode cG_storeList 84 = .ok (.iload_n 1, 1) := by decide +kernel
theorem dG_storeList_85 : decode cG_storeList 85 = .ok (.isub, 1) := by decide +kernel
theorem dG_storeList_86 : decode cG_storeList 86 = .ok (.bipush 64, 2) := by decide +kernel
theorem dG_storeList_88 : decode cG_storeList 88 = .ok (.iload 4, 2) := by decide +kernel
theorem dG_storeList_90 : decode cG_storeList 90 = .ok (.iadd, 1) := by decide +kernel
theorem dG_storeList_91 : decode cG_storeList 91 = .ok (.aload_n 0, 1) := by decide +kernel
theorem dG_storeList_92 : decode cG_storeList 92 = .ok (.getfield 54, 3) := by decide +kernel
theorem dG_storeList_95 : decode cG_storeList 95 = .ok (.iload 7, 2) := by decide +kernel
theorem dG_storeList_97 : decode cG_storeList 97 = .ok (.invokevirtual 190, 3) := by decide +kernel
theorem dG_storeList_100 : decode cG_storeList 100 = .ok (.ifCond .ne 5, 3) := by decide +kernel
theorem dG_storeList_103 : decode cG_storeList 103 = .ok (.iconst 0, 1) := by decide +kernel
theorem dG_storeList_104 : decode cG_storeList 104 = .ok (.ireturn, 1) := by decide +kernel
theorem dG_storeList_105 : decode cG_storeList 105 = .ok (.aload_n 0, 1) := by decide +kernel
theorem dG_storeList_106 : decode cG_storeList 106 = .ok (.getfield 40, 3) := by decide +kernel
theorem dG_storeList_109 : decode cG_storeList 109 = .ok (.iload 6, 2) := by decide +kernel
theorem dG_storeList_111 : decode cG_storeList 111 = .ok (.iload 7, 2) := by decide +kernel
theorem dG_storeList_113 : decode cG_storeList 113 = .ok (.iastore, 1) := by decide +kernel
theorem dG_storeList_114 : decode cG_storeList 114 = .ok (.iconst 1, 1) := by decide +kernel
theorem dG_storeList_115 : decode cG_storeList 115 = .ok (.ireturn, 1) := by decide +kernel
theorem dAf_fill_0 : decode cAf_fill 0 = .ok (.iconst 0, 1) := by decide +kernel
theorem dAf_fill_1 : decode cAf_fill 1 = .ok (.istore_n 2, 1) := by decide +kernel
theorem dAf_fill_2 : decode cAf_fill 2 = .ok (.aload_n 0, 1) := by decide +kernel
theorem dAf_fill_3 : decode cAf_fill 3 = .ok (.arraylength, 1) := by decide +kernel
theorem dAf_fill_4 : decode cAf_fill 4 = .ok (.istore_n 3, 1) := by decide +kernel
theorem dAf_fill_5 : decode cAf_fill 5 = .ok (.iload_n 2, 1) := by decide +kernel
theorem dAf_fill_6 : decode cAf_fill 6 = .ok (.iload_n 3, 1) := by decide +kernel
theorem dAf_fill_7 : decode cAf_fill 7 = .ok (.if_icmp .ge 13, 3) := by decide +kernel
theorem dAf_fill_10 : decode cAf_fill 10 = .ok (.aload_n 0, 1) := by decide +kernel
theorem dAf_fill_11 : decode cAf_fill 11 = .ok (.iload_n 2, 1) := by decide +kernel
theorem dAf_fill_12 : decode cAf_fill 12 = .ok (.iload_n 1, 1) := by decide +kernel
theorem dAf_fill_13 : decode cAf_fill 13 = .ok (.iastore, 1) := by decide +kernel
theorem dAf_fill_14 : decode cAf_fill 14 = .ok (.iinc 2 1, 3) := by decide +kernel
theorem dAf_fill_17 : decode cAf_fill 17 = .ok (.goto (-12), 3) := by decide +kernel
theorem dAf_fill_20 : decode cAf_fill 20 = .ok (.return_, 1) := by decide +kernel
theorem dL_read_0 : decode cL_read 0 = .ok (.aload_n 3, 1) := by decide +kernel
theorem dL_read_1 : decode cL_read 1 = .ok (.iconst 0, 1) := by decide +kernel
theorem dL_read_2 : decode cL_read 2 = .ok (.aload_n 0, 1) := by decide +kernel
theorem dL_read_3 : decode cL_read 3 = .ok (.iload_n 1, 1) := by decide +kernel
theorem dL_read_4 : decode cL_read 4 = .ok (.iload_n 2, 1) := by decide +kernel
theorem dL_read_5 : decode cL_read 5 = .ok (.invokevirtual 19, 3) := by decide +kernel
theorem dL_read_8 : decode cL_read 8 = .ok (.i2l, 1) := by decide +kernel
theorem dL_read_9 : decode cL_read 9 = .ok (.lastore, 1) := by decide +kernel
theorem dL_read_10 : decode cL_read 10 = .ok (.goto 11, 3) := by decide +kernel
theorem dL_read_13 : decode cL_read 13 = .ok (.astore 4, 2) := by decide +kernel
theorem dL_read_15 : decode cL_read 15 = .ok (.iconst 1, 1) := by decide +kernel
theorem dL_read_16 : decode cL_read 16 = .ok (.ireturn, 1) := by decide +kernel
theorem dL_read_17 : decode cL_read 17 = .ok (.astore 4, 2) := by decide +kernel
theorem dL_read_19 : decode cL_read 19 = .ok (.iconst 2, 1) := by decide +kernel
theorem dL_read_20 : decode cL_read 20 = .ok (.ireturn, 1) := by decide +kernel
theorem dL_read_21 : decode cL_read 21 = .ok (.iconst 0, 1) := by decide +kernel
theorem dL_read_22 : decode cL_read 22 = .ok (.ireturn, 1) := by decide +kernel
theorem dG_read_0 : decode cG_read 0 = .ok (.iload_n 1, 1) := by decide +kernel
theorem dG_read_1 : decode cG_read 1 = .ok (.bipush 64, 2) := by decide +kernel
theorem dG_read_3 : decode cG_read 3 = .ok (.invokestatic 60, 3) := by decide +kernel
theorem dG_read_6 : decode cG_read 6 = .ok (.ifCond .eq 12, 3) := by decide +kernel
theorem dG_read_9 : decode cG_read 9 = .ok (.iload_n 2, 1) := by decide +kernel
theorem dG_read_10 : decode cG_read 10 = .ok (.bipush 8, 2) := by decide +kernel
theorem dG_read_12 : decode cG_read 12 = .ok (.invokestatic 60, 3) := by decide +kernel
theorem dG_read_15 : decode cG_read 15 = .ok (.ifCond .ne 11, 3) := by decide +kernel
theorem dG_read_18 : decode cG_read 18 = .ok (.new 64, 3) := by decide +kernel
theorem dG_read_21 : decode cG_read 21 = .ok (.dup, 1) := by decide +kernel
theorem dG_read_22 : decode cG_read 22 = .ok (.invokespecial 66, 3) := by decide +kernel
theorem dG_read_25 : decode cG_read 25 = .ok (.athrow, 1) := by decide +kernel
theorem dG_read_26 : decode cG_read 26 = .ok (.aload_n 0, 1) := by decide +kernel
theorem dG_read_27 : decode cG_read 27 = .ok (.getfield 22, 3) := by decide +kernel
theorem dG_read_30 : decode cG_read 30 = .ok (.getfield 67, 3) := by decide +kernel
theorem dG_read_33 : decode cG_read 33 = .ok (.ifCond .ne 11, 3) := by decide +kernel
theorem dG_read_36 : decode cG_read 36 = .ok (.new 71, 3) := by decide +kernel
theorem dG_read_39 : decode cG_read 39 = .ok (.dup, 1) := by decide +kernel
theorem dG_read_40 : decode cG_read 40 = .ok (.invokespecial 73, 3) := by decide +kernel
theorem dG_read_43 : decode cG_read 43 = .ok (.athrow, 1) := by decide +kernel
theorem dG_read_44 : decode cG_read 44 = .ok (.aload_n 0, 1) := by decide +kernel
theorem dG_read_45 : decode cG_read 45 = .ok (.iload_n 1, 1) := by decide +kernel
theorem dG_read_46 : decode cG_read 46 = .ok (.invokevirtual 74, 3) := by decide +kernel
theorem dG_read_49 : decode cG_read 49 = .ok (.istore_n 3, 1) := by decide +kernel
theorem dG_read_50 : decode cG_read 50 = .ok (.aload_n 0, 1) := by decide +kernel
theorem dG_read_51 : decode cG_read 51 = .ok (.iload_n 3, 1) := by decide +kernel
theorem dG_read_52 : decode cG_read 52 = .ok (.invokestatic 89, 3) := by decide +kernel
theorem dG_read_55 : decode cG_read 55 = .ok (.putfield 44, 3) := by decide +kernel
theorem dG_read_58 : decode cG_read 58 = .ok (.iload_n 3, 1) := by decide +kernel
theorem dG_read_59 : decode cG_read 59 = .ok (.iconst (-1), 1) := by decide +kernel
theorem dG_read_60 : decode cG_read 60 = .ok (.if_icmp .ne 7, 3) := by decide +kernel
theorem dG_read_63 : decode cG_read 63 = .ok (.iconst 0, 1) := by decide +kernel
theorem dG_read_64 : decode cG_read 64 = .ok (.goto 13, 3) := by decide +kernel
theorem dG_read_67 : decode cG_read 67 = .ok (.aload_n 0, 1) := by decide +kernel
theorem dG_read_68 : decode cG_read 68 = .ok (.iload_n 3, 1) := by decide +kernel
theorem dG_read_69 : decode cG_read 69 = .ok (.invokevirtual 78, 3) := by decide +kernel
theorem dG_read_72 : decode cG_read 72 = .ok (.iload_n 1, 1) := by decide +kernel
theorem dG_read_73 : decode cG_read 73 = .ok (.iload_n 2, 1) := by decide +kernel
theorem dG_read_74 : decode cG_read 74 = .ok (.invokevirtual 82, 3) := by decide +kernel
theorem dG_read_77 : decode cG_read 77 = .ok (.ireturn, 1) := by decide +kernel
theorem dL_plan_0 : decode cL_plan 0 = .ok (.aload_n 0, 1) := by decide +kernel
theorem dL_plan_1 : decode cL_plan 1 = .ok (.iload_n 1, 1) := by decide +kernel
theorem dL_plan_2 : decode cL_plan 2 = .ok (.iload_n 2, 1) := by decide +kernel
theorem dL_plan_3 : decode cL_plan 3 = .ok (.iload_n 3, 1) := by decide +kernel
theorem dL_plan_4 : decode cL_plan 4 = .ok (.iload 4, 2) := by decide +kernel
theorem dL_plan_6 : decode cL_plan 6 = .ok (.invokevirtual 23, 3) := by decide +kernel
theorem dL_plan_9 : decode cL_plan 9 = .ok (.goto 15, 3) := by decide +kernel
theorem dL_plan_12 : decode cL_plan 12 = .ok (.astore 5, 2) := by decide +kernel
theorem dL_plan_14 : decode cL_plan 14 = .ok (.iconst 1, 1) := by decide +kernel
theorem dL_plan_15 : decode cL_plan 15 = .ok (.ireturn, 1) := by decide +kernel
theorem dL_plan_16 : decode cL_plan 16 = .ok (.astore 5, 2) := by decide +kernel
theorem dL_plan_18 : decode cL_plan 18 = .ok (.iconst 2, 1) := by decide +kernel
theorem dL_plan_19 : decode cL_plan 19 = .ok (.ireturn, 1) := by decide +kernel
theorem dL_plan_20 : decode cL_plan 20 = .ok (.astore 5, 2) := by decide +kernel
theorem dL_plan_22 : decode cL_plan 22 = .ok (.iconst 3, 1) := by decide +kernel
theorem dL_plan_23 : decode cL_plan 23 = .ok (.ireturn, 1) := by decide +kernel
theorem dL_plan_24 : decode cL_plan 24 = .ok (.iconst 0, 1) := by decide +kernel
theorem dL_plan_25 : decode cL_plan 25 = .ok (.ireturn, 1) := by decide +kernel
theorem dG_plan_0 : decode cG_plan 0 = .ok (.iload_n 1, 1) := by decide +kernel
theorem dG_plan_1 : decode cG_plan 1 = .ok (.iconst 2, 1) := by decide +kernel
theorem dG_plan_2 : decode cG_plan 2 = .ok (.invokestatic 60, 3) := by decide +kernel
theorem dG_plan_5 : decode cG_plan 5 = .ok (.ifCond .ne 11, 3) := by decide +kernel
theorem dG_plan_8 : decode cG_plan 8 = .ok (.new 64, 3) := by decide +kernel
theorem dG_plan_11 : decode cG_plan 11 = .ok (.dup, 1) := by decide +kernel
theorem dG_plan_12 : decode cG_plan 12 = .ok (.invokespecial 66, 3) := by decide +kernel
theorem dG_plan_15 : decode cG_plan 15 = .ok (.athrow, 1) := by decide +kernel
theorem dG_plan_16 : decode cG_plan 16 = .ok (.iload_n 2, 1) := by decide +kernel
theorem dG_plan_17 : decode cG_plan 17 = .ok (.iconst 1, 1) := by decide +kernel
theorem dG_plan_18 : decode cG_plan 18 = .ok (.if_icmp .lt 31, 3) := by decide +kernel
theorem dG_plan_21 : decode cG_plan 21 = .ok (.iload_n 2, 1) := by decide +kernel
theorem dG_plan_22 : decode cG_plan 22 = .ok (.bipush 50, 2) := by decide +kernel
theorem dG_plan_24 : decode cG_plan 24 = .ok (.if_icmp .gt 25, 3) := by decide +kernel
theorem dG_plan_27 : decode cG_plan 27 = .ok (.iload_n 3, 1) := by decide +kernel
theorem dG_plan_28 : decode cG_plan 28 = .ok (.iload 4, 2) := by decide +kernel
theorem dG_plan_30 : decode cG_plan 30 = .ok (.invokestatic 109, 3) := by decide +kernel
theorem dG_plan_33 : decode cG_plan 33 = .ok (.ifCond .eq 16, 3) := by decide +kernel
theorem dG_plan_36 : decode cG_plan 36 = .ok (.aload_n 0, 1) := by decide +kernel
theorem dG_plan_37 : decode cG_plan 37 = .ok (.iload_n 1, 1) := by decide +kernel
theorem dG_plan_38 : decode cG_plan 38 = .ok (.invokevirtual 78, 3) := by decide +kernel
theorem dG_plan_41 : decode cG_plan 41 = .ok (.iload_n 2, 1) := by decide +kernel
theorem dG_plan_42 : decode cG_plan 42 = .ok (.invokevirtual 112, 3) := by decide +kernel
theorem dG_plan_45 : decode cG_plan 45 = .ok (.iconst (-1), 1) := by decide +kernel
theorem dG_plan_46 : decode cG_plan 46 = .ok (.if_icmp .eq 11, 3) := by decide +kernel
theorem dG_plan_49 : decode cG_plan 49 = .ok (.new 115, 3) := by decide +kernel
theorem dG_plan_52 : decode cG_plan 52 = .ok (.dup, 1) := by decide +kernel
theorem dG_plan_53 : decode cG_plan 53 = .ok (.invokespecial 117, 3) := by decide +kernel
theorem dG_plan_56 : decode cG_plan 56 = .ok (.athrow, 1) := by decide +kernel
theorem dG_plan_57 : decode cG_plan 57 = .ok (.aload_n 0, 1) := by decide +kernel
theorem dG_plan_58 : decode cG_plan 58 = .ok (.iload_n 1, 1) := by decide +kernel
theorem dG_plan_59 : decode cG_plan 59 = .ok (.invokevirtual 78, 3) := by decide +kernel
theorem dG_plan_62 : decode cG_plan 62 = .ok (.getfield 118, 3) := by decide +kernel
theorem dG_plan_65 : decode cG_plan 65 = .ok (.bipush 8, 2) := by decide +kernel
theorem dG_plan_67 : decode cG_plan 67 = .ok (.if_icmp .ne 11, 3) := by decide +kernel
theorem dG_plan_70 : decode cG_plan 70 = .ok (.new 86, 3) := by decide +kernel
theorem dG_plan_73 : decode cG_plan 73 = .ok (.dup, 1) := by decide +kernel
theorem dG_plan_74 : decode cG_plan 74 = .ok (.invokespecial 88, 3) := by decide +kernel
theorem dG_plan_77 : decode cG_plan 77 = .ok (.athrow, 1) := by decide +kernel
theorem dG_plan_78 : decode cG_plan 78 = .ok (.aload_n 0, 1) := by decide +kernel
theorem dG_plan_79 : decode cG_plan 79 = .ok (.iload_n 1, 1) := by decide +kernel
theorem dG_plan_80 : decode cG_plan 80 = .ok (.invokevirtual 78, 3) := by decide +kernel
theorem dG_plan_83 : decode cG_plan 83 = .ok (.iload_n 2, 1) := by decide +kernel
theorem dG_plan_84 : decode cG_plan 84 = .ok (.iload_n 3, 1) := by decide +kernel
theorem dG_plan_85 : decode cG_plan 85 = .ok (.iload 4, 2) := by decide +kernel
theorem dG_plan_87 : decode cG_plan 87 = .ok (.invokevirtual 121, 3) := by decide +kernel
theorem dG_plan_90 : decode cG_plan 90 = .ok (.return_, 1) := by decide +kernel
theorem dG_isPlan_0 : decode cG_isPlan 0 = .ok (.iload_n 0, 1) := by decide +kernel
theorem dG_isPlan_1 : decode cG_isPlan 1 = .ok (.tableswitch 53 0 2 #[27, 29, 36], 27) := by decide +kernel
theorem dG_isPlan_28 : decode cG_isPlan 28 = .ok (.iconst 1, 1) := by decide +kernel
theorem dG_isPlan_29 : decode cG_isPlan 29 = .ok (.ireturn, 1) := by decide +kernel
theorem dG_isPlan_30 : decode cG_isPlan 30 = .ok (.iload_n 1, 1) := by decide +kernel
theorem dG_isPlan_31 : decode cG_isPlan 31 = .ok (.bipush 72, 2) := by decide +kernel
theorem dG_isPlan_33 : decode cG_isPlan 33 = .ok (.invokestatic 60, 3) := by decide +kernel
theorem dG_isPlan_36 : decode cG_isPlan 36 = .ok (.ireturn, 1) := by decide +kernel
theorem dG_isPlan_37 : decode cG_isPlan 37 = .ok (.iload_n 1, 1) := by decide +kernel
theorem dG_isPlan_38 : decode cG_isPlan 38 = .ok (.iconst 1, 1) := by decide +kernel
theorem dG_isPlan_39 : decode cG_isPlan 39 = .ok (.if_icmp .lt 13, 3) := by decide +kernel
theorem dG_isPlan_42 : decode cG_isPlan 42 = .ok (.iload_n 1, 1) := by decide +kernel
theorem dG_isPlan_43 : decode cG_isPlan 43 = .ok (.bipush 11, 2) := by decide +kernel
theorem dG_isPlan_45 : decode cG_isPlan 45 = .ok (.if_icmp .ge 7, 3) := by decide +kernel
theorem dG_isPlan_48 : decode cG_isPlan 48 = .ok (.iconst 1, 1) := by decide +kernel
theorem dG_isPlan_49 : decode cG_isPlan 49 = .ok (.goto 4, 3) := by decide +kernel
theorem dG_isPlan_52 : decode cG_isPlan 52 = .ok (.iconst 0, 1) := by decide +kernel
theorem dG_isPlan_53 : decode cG_isPlan 53 = .ok (.ireturn, 1) := by decide +kernel
theorem dG_isPlan_54 : decode cG_isPlan 54 = .ok (.iconst 0, 1) := by decide +kernel
theorem dG_isPlan_55 : decode cG_isPlan 55 = .ok (.ireturn, 1) := by decide +kernel
theorem dD_addPlan_0 : decode cD_addPlan 0 = .ok (.aload_n 0, 1) := by decide +kernel
theorem dD_addPlan_1 : decode cD_addPlan 1 = .ok (.getfield 15, 3) := by decide +kernel
theorem dD_addPlan_4 : decode cD_addPlan 4 = .ok (.aload_n 0, 1) := by decide +kernel
theorem dD_addPlan_5 : decode cD_addPlan 5 = .ok (.getfield 24, 3) := by decide +kernel
theorem dD_addPlan_8 : decode cD_addPlan 8 = .ok (.aload_n 0, 1) := by decide +kernel
theorem dD_addPlan_9 : decode cD_addPlan 9 = .ok (.getfield 28, 3) := by decide +kernel
theorem dD_addPlan_12 : decode cD_addPlan 12 = .ok (.iload_n 1, 1) := by decide +kernel
theorem dD_addPlan_13 : decode cD_addPlan 13 = .ok (.iadd, 1) := by decide +kernel
theorem dD_addPlan_14 : decode cD_addPlan 14 = .ok (.iastore, 1) := by decide +kernel
theorem dD_addPlan_15 : decode cD_addPlan 15 = .ok (.aload_n 0, 1) := by decide +kernel
theorem dD_addPlan_16 : decode cD_addPlan 16 = .ok (.getfield 18, 3) := by decide +kernel
theorem dD_addPlan_19 : decode cD_addPlan 19 = .ok (.aload_n 0, 1) := by decide +kernel
theorem dD_addPlan_20 : decode cD_addPlan 20 = .ok (.getfield 24, 3) := by decide +kernel
theorem dD_addPlan_23 : decode cD_addPlan 23 = .ok (.iload_n 2, 1) := by decide +kernel
theorem dD_addPlan_24 : decode cD_addPlan 24 = .ok (.iastore, 1) := by decide +kernel
theorem dD_addPlan_25 : decode cD_addPlan 25 = .ok (.aload_n 0, 1) := by decide +kernel
theorem dD_addPlan_26 : decode cD_addPlan 26 = .ok (.getfield 21, 3) := by decide +kernel
theorem dD_addPlan_29 : decode cD_addPlan 29 = .ok (.aload_n 0, 1) := by decide +kernel
theorem dD_addPlan_30 : decode cD_addPlan 30 = .ok (.getfield 24, 3) := by decide +kernel
theorem dD_addPlan_33 : decode cD_addPlan 33 = .ok (.iload_n 3, 1) := by decide +kernel
theorem dD_addPlan_34 : decode cD_addPlan 34 = .ok (.iastore, 1) := by decide +kernel
theorem dD_addPlan_35 : decode cD_addPlan 35 = .ok (.aload_n 0, 1) := by decide +kernel
theorem dD_addPlan_36 : decode cD_addPlan 36 = .ok (.dup, 1) := by decide +kernel
theorem dD_addPlan_37 : decode cD_addPlan 37 = .ok (.getfield 24, 3) := by decide +kernel
theorem dD_addPlan_40 : decode cD_addPlan 40 = .ok (.iconst 1, 1) := by decide +kernel
theorem dD_addPlan_41 : decode cD_addPlan 41 = .ok (.iadd, 1) := by decide +kernel
theorem dD_addPlan_42 : decode cD_addPlan 42 = .ok (.putfield 24, 3) := by decide +kernel
theorem dD_addPlan_45 : decode cD_addPlan 45 = .ok (.return_, 1) := by decide +kernel
theorem dL_cutAfter_0 : decode cL_cutAfter 0 = .ok (.aload_n 0, 1) := by decide +kernel
theorem dL_cutAfter_1 : decode cL_cutAfter 1 = .ok (.iload_n 1, 1) := by decide +kernel
theorem dL_cutAfter_2 : decode cL_cutAfter 2 = .ok (.invokevirtual 29, 3) := by decide +kernel
theorem dL_cutAfter_5 : decode cL_cutAfter 5 = .ok (.goto 9, 3) := by decide +kernel
theorem dL_cutAfter_8 : decode cL_cutAfter 8 = .ok (.astore_n 2, 1) := by decide +kernel
theorem dL_cutAfter_9 : decode cL_cutAfter 9 = .ok (.iconst 1, 1) := by decide +kernel
theorem dL_cutAfter_10 : decode cL_cutAfter 10 = .ok (.ireturn, 1) := by decide +kernel
theorem dL_cutAfter_11 : decode cL_cutAfter 11 = .ok (.astore_n 2, 1) := by decide +kernel
theorem dL_cutAfter_12 : decode cL_cutAfter 12 = .ok (.iconst 2, 1) := by decide +kernel
theorem dL_cutAfter_13 : decode cL_cutAfter 13 = .ok (.ireturn, 1) := by decide +kernel
theorem dL_cutAfter_14 : decode cL_cutAfter 14 = .ok (.iconst 0, 1) := by decide +kernel
theorem dL_cutAfter_15 : decode cL_cutAfter 15 = .ok (.ireturn, 1) := by decide +kernel
theorem dG_cutAfter_0 : decode cG_cutAfter 0 = .ok (.iload_n 1, 1) := by decide +kernel
theorem dG_cutAfter_1 : decode cG_cutAfter 1 = .ok (.iconst (-1), 1) := by decide +kernel
theorem dG_cutAfter_2 : decode cG_cutAfter 2 = .ok (.if_icmp .lt 9, 3) := by decide +kernel
theorem dG_cutAfter_5 : decode cG_cutAfter 5 = .ok (.iload_n 1, 1) := by decide +kernel
theorem dG_cutAfter_6 : decode cG_cutAfter 6 = .ok (.bipush 100, 2) := by decide +kernel
theorem dG_cutAfter_8 : decode cG_cutAfter 8 = .ok (.if_icmp .le 11, 3) := by decide +kernel
theorem dG_cutAfter_11 : decode cG_cutAfter 11 = .ok (.new 115, 3) := by decide +kernel
theorem dG_cutAfter_14 : decode cG_cutAfter 14 = .ok (.dup, 1) := by decide +kernel
theorem dG_cutAfter_15 : decode cG_cutAfter 15 = .ok (.invokespecial 117, 3) := by decide +kernel
theorem dG_cutAfter_18 : decode cG_cutAfter 18 = .ok (.athrow, 1) := by decide +kernel
theorem dG_cutAfter_19 : decode cG_cutAfter 19 = .ok (.aload_n 0, 1) := by decide +kernel
theorem dG_cutAfter_20 : decode cG_cutAfter 20 = .ok (.getfield 22, 3) := by decide +kernel
theorem dG_cutAfter_23 : decode cG_cutAfter 23 = .ok (.getfield 67, 3) := by decide +kernel
theorem dG_cutAfter_26 : decode cG_cutAfter 26 = .ok (.ifCond .ne 11, 3) := by decide +kernel
theorem dG_cutAfter_29 : decode cG_cutAfter 29 = .ok (.new 71, 3) := by decide +kernel
theorem dG_cutAfter_32 : decode cG_cutAfter 32 = .ok (.dup, 1) := by decide +kernel
theorem dG_cutAfter_33 : decode cG_cutAfter 33 = .ok (.invokespecial 73, 3) := by decide +kernel
theorem dG_cutAfter_36 : decode cG_cutAfter 36 = .ok (.athrow, 1) := by decide +kernel
theorem dG_cutAfter_37 : decode cG_cutAfter 37 = .ok (.aload_n 0, 1) := by decide +kernel
theorem dG_cutAfter_38 : decode cG_cutAfter 38 = .ok (.getfield 22, 3) := by decide +kernel
theorem dG_cutAfter_41 : decode cG_cutAfter 41 = .ok (.iload_n 1, 1) := by decide +kernel
theorem dG_cutAfter_42 : decode cG_cutAfter 42 = .ok (.putfield 125, 3) := by decide +kernel
theorem dG_cutAfter_45 : decode cG_cutAfter 45 = .ok (.return_, 1) := by decide +kernel
theorem dL_start_0 : decode cL_start 0 = .ok (.aload_n 1, 1) := by decide +kernel
theorem dL_start_1 : decode cL_start 1 = .ok (.iconst 0, 1) := by decide +kernel
theorem dL_start_2 : decode cL_start 2 = .ok (.aload_n 0, 1) := by decide +kernel
theorem dL_start_3 : decode cL_start 3 = .ok (.invokevirtual 33, 3) := by decide +kernel
theorem dL_start_6 : decode cL_start 6 = .ok (.i2l, 1) := by decide +kernel
theorem dL_start_7 : decode cL_start 7 = .ok (.lastore, 1) := by decide +kernel
theorem dL_start_8 : decode cL_start 8 = .ok (.goto 6, 3) := by decide +kernel
theorem dL_start_11 : decode cL_start 11 = .ok (.astore_n 2, 1) := by decide +kernel
theorem dL_start_12 : decode cL_start 12 = .ok (.iconst 1, 1) := by decide +kernel
theorem dL_start_13 : decode cL_start 13 = .ok (.ireturn, 1) := by decide +kernel
theorem dL_start_14 : decode cL_start 14 = .ok (.iconst 0, 1) := by decide +kernel
theorem dL_start_15 : decode cL_start 15 = .ok (.ireturn, 1) := by decide +kernel
theorem dG_start_0 : decode cG_start 0 = .ok (.aload_n 0, 1) := by decide +kernel
theorem dG_start_1 : decode cG_start 1 = .ok (.getfield 22, 3) := by decide +kernel
theorem dG_start_4 : decode cG_start 4 = .ok (.getfield 67, 3) := by decide +kernel
theorem dG_start_7 : decode cG_start 7 = .ok (.ifCond .eq 11, 3) := by decide +kernel
theorem dG_start_10 : decode cG_start 10 = .ok (.new 71, 3) := by decide +kernel
theorem dG_start_13 : decode cG_start 13 = .ok (.dup, 1) := by decide +kernel
theorem dG_start_14 : decode cG_start 14 = .ok (.invokespecial 73, 3) := by decide +kernel
theorem dG_start_17 : decode cG_start 17 = .ok (.athrow, 1) := by decide +kernel
theorem dG_start_18 : decode cG_start 18 = .ok (.aload_n 0, 1) := by decide +kernel
theorem dG_start_19 : decode cG_start 19 = .ok (.getfield 22, 3) := by decide +kernel
theorem dG_start_22 : decode cG_start 22 = .ok (.iconst 1, 1) := by decide +kernel
theorem dG_start_23 : decode cG_start 23 = .ok (.putfield 67, 3) := by decide +kernel
theorem dG_start_26 : decode cG_start 26 = .ok (.aload_n 0, 1) := by decide +kernel
theorem dG_start_27 : decode cG_start 27 = .ok (.getfield 22, 3) := by decide +kernel
theorem dG_start_30 : decode cG_start 30 = .ok (.iconst (-1), 1) := by decide +kernel
theorem dG_start_31 : decode cG_start 31 = .ok (.putfield 125, 3) := by decide +kernel
theorem dG_start_34 : decode cG_start 34 = .ok (.aload_n 0, 1) := by decide +kernel
theorem dG_start_35 : decode cG_start 35 = .ok (.getfield 12, 3) := by decide +kernel
theorem dG_start_38 : decode cG_start 38 = .ok (.getfield 128, 3) := by decide +kernel
theorem dG_start_41 : decode cG_start 41 = .ok (.aload_n 0, 1) := by decide +kernel
theorem dG_start_42 : decode cG_start 42 = .ok (.getfield 16, 3) := by decide +kernel
theorem dG_start_45 : decode cG_start 45 = .ok (.getfield 128, 3) := by decide +kernel
theorem dG_start_48 : decode cG_start 48 = .ok (.iadd, 1) := by decide +kernel
theorem dG_start_49 : decode cG_start 49 = .ok (.istore_n 1, 1) := by decide +kernel
theorem dG_start_50 : decode cG_start 50 = .ok (.aload_n 0, 1) := by decide +kernel
theorem dG_start_51 : decode cG_start 51 = .ok (.getfield 29, 3) := by decide +kernel
theorem dG_start_54 : decode cG_start 54 = .ok (.getfield 102, 3) := by decide +kernel
theorem dG_start_57 : decode cG_start 57 = .ok (.iconst (-1), 1) := by decide +kernel
theorem dG_start_58 : decode cG_start 58 = .ok (.if_icmp .eq 8, 3) := by decide +kernel
theorem dG_start_61 : decode cG_start 61 = .ok (.aload_n 0, 1) := by decide +kernel
theorem dG_start_62 : decode cG_start 62 = .ok (.invokevirtual 105, 3) := by decide +kernel
theorem dG_start_65 : decode cG_start 65 = .ok (.pop, 1) := by decide +kernel
theorem dG_start_66 : decode cG_start 66 = .ok (.aload_n 0, 1) := by decide +kernel
theorem dG_start_67 : decode cG_start 67 = .ok (.getfield 12, 3) := by decide +kernel
theorem dG_start_70 : decode cG_start 70 = .ok (.getfield 128, 3) := by decide +kernel
theorem dG_start_73 : decode cG_start 73 = .ok (.aload_n 0, 1) := by decide +kernel
theorem dG_start_74 : decode cG_start 74 = .ok (.getfield 16, 3) := by decide +kernel
theorem dG_start_77 : decode cG_start 77 = .ok (.getfield 128, 3) := by decide +kernel
theorem dG_start_80 : decode cG_start 80 = .ok (.iadd, 1) := by decide +kernel
theorem dG_start_81 : decode cG_start 81 = .ok (.iload_n 1, 1) := by decide +kernel
theorem dG_start_82 : decode cG_start 82 = .ok (.isub, 1) := by decide +kernel
theorem dG_start_83 : decode cG_start 83 = .ok (.ireturn, 1) := by decide +kernel
theorem dL_scrub_0 : decode cL_scrub 0 = .ok (.aload_n 2, 1) := by decide +kernel
theorem dL_scrub_1 : decode cL_scrub 1 = .ok (.iconst 0, 1) := by decide +kernel
theorem dL_scrub_2 : decode cL_scrub 2 = .ok (.aload_n 0, 1) := by decide +kernel
theorem dL_scrub_3 : decode cL_scrub 3 = .ok (.iload_n 1, 1) := by decide +kernel
theorem dL_scrub_4 : decode cL_scrub 4 = .ok (.invokevirtual 37, 3) := by decide +kernel
theorem dL_scrub_7 : decode cL_scrub 7 = .ok (.i2l, 1) := by decide +kernel
theorem dL_scrub_8 : decode cL_scrub 8 = .ok (.lastore, 1) := by decide +kernel
theorem dL_scrub_9 : decode cL_scrub 9 = .ok (.goto 9, 3) := by decide +kernel
theorem dL_scrub_12 : decode cL_scrub 12 = .ok (.astore_n 3, 1) := by decide +kernel
theorem dL_scrub_13 : decode cL_scrub 13 = .ok (.iconst 1, 1) := by decide +kernel
theorem dL_scrub_14 : decode cL_scrub 14 = .ok (.ireturn, 1) := by decide +kernel
theorem dL_scrub_15 : decode cL_scrub 15 = .ok (.astore_n 3, 1) := by decide +kernel
theorem dL_scrub_16 : decode cL_scrub 16 = .ok (.iconst 2, 1) := by decide +kernel
theorem dL_scrub_17 : decode cL_scrub 17 = .ok (.ireturn, 1) := by decide +kernel
theorem dL_scrub_18 : decode cL_scrub 18 = .ok (.iconst 0, 1) := by decide +kernel
theorem dL_scrub_19 : decode cL_scrub 19 = .ok (.ireturn, 1) := by decide +kernel
theorem dG_scrub_0 : decode cG_scrub 0 = .ok (.aload_n 0, 1) := by decide +kernel
theorem dG_scrub_1 : decode cG_scrub 1 = .ok (.getfield 22, 3) := by decide +kernel
theorem dG_scrub_4 : decode cG_scrub 4 = .ok (.getfield 67, 3) := by decide +kernel
theorem dG_scrub_7 : decode cG_scrub 7 = .ok (.ifCond .ne 11, 3) := by decide +kernel
theorem dG_scrub_10 : decode cG_scrub 10 = .ok (.new 71, 3) := by decide +kernel
theorem dG_scrub_13 : decode cG_scrub 13 = .ok (.dup, 1) := by decide +kernel
theorem dG_scrub_14 : decode cG_scrub 14 = .ok (.invokespecial 73, 3) := by decide +kernel
theorem dG_scrub_17 : decode cG_scrub 17 = .ok (.athrow, 1) := by decide +kernel
theorem dG_scrub_18 : decode cG_scrub 18 = .ok (.iload_n 1, 1) := by decide +kernel
theorem dG_scrub_19 : decode cG_scrub 19 = .ok (.ifCond .lt 9, 3) := by decide +kernel
theorem dG_scrub_22 : decode cG_scrub 22 = .ok (.iload_n 1, 1) := by decide +kernel
theorem dG_scrub_23 : decode cG_scrub 23 = .ok (.bipush 64, 2) := by decide +kernel
theorem dG_scrub_25 : decode cG_scrub 25 = .ok (.if_icmp .le 11, 3) := by decide +kernel
theorem dG_scrub_28 : decode cG_scrub 28 = .ok (.new 115, 3) := by decide +kernel
theorem dG_scrub_31 : decode cG_scrub 31 = .ok (.dup, 1) := by decide +kernel
theorem dG_scrub_32 : decode cG_scrub 32 = .ok (.invokespecial 117, 3) := by decide +kernel
theorem dG_scrub_35 : decode cG_scrub 35 = .ok (.athrow, 1) := by decide +kernel
theorem dG_scrub_36 : decode cG_scrub 36 = .ok (.aload_n 0, 1) := by decide +kernel
theorem dG_scrub_37 : decode cG_scrub 37 = .ok (.getfield 36, 3) := by decide +kernel
theorem dG_scrub_40 : decode cG_scrub 40 = .ok (.getfield 131, 3) := by decide +kernel
theorem dG_scrub_43 : decode cG_scrub 43 = .ok (.istore_n 2, 1) := by decide +kernel
theorem dG_scrub_44 : decode cG_scrub 44 = .ok (.iconst 0, 1) := by decide +kernel
theorem dG_scrub_45 : decode cG_scrub 45 = .ok (.istore_n 3, 1) := by decide +kernel
theorem dG_scrub_46 : decode cG_scrub 46 = .ok (.iload_n 3, 1) := by decide +kernel
theorem dG_scrub_47 : decode cG_scrub 47 = .ok (.iload_n 1, 1) := by decide +kernel
theorem dG_scrub_48 : decode cG_scrub 48 = .ok (.if_icmp .ge 33, 3) := by decide +kernel
theorem dG_scrub_51 : decode cG_scrub 51 = .ok (.aload_n 0, 1) := by decide +kernel
theorem dG_scrub_52 : decode cG_scrub 52 = .ok (.aload_n 0, 1) := by decide +kernel
theorem dG_scrub_53 : decode cG_scrub 53 = .ok (.getfield 48, 3) := by decide +kernel
theorem dG_scrub_56 : decode cG_scrub 56 = .ok (.invokevirtual 134, 3) := by decide +kernel
theorem dG_scrub_59 : decode cG_scrub 59 = .ok (.ifCond .eq 22, 3) := by decide +kernel
theorem dG_scrub_62 : decode cG_scrub 62 = .ok (.aload_n 0, 1) := by decide +kernel
theorem dG_scrub_63 : decode cG_scrub 63 = .ok (.aload_n 0, 1) := by decide +kernel
theorem dG_scrub_64 : decode cG_scrub 64 = .ok (.getfield 48, 3) := by decide +kernel
theorem dG_scrub_67 : decode cG_scrub 67 = .ok (.iconst 1, 1) := by decide +kernel
theorem dG_scrub_68 : decode cG_scrub 68 = .ok (.iadd, 1) := by decide +kernel
theorem dG_scrub_69 : decode cG_scrub 69 = .ok (.bipush 64, 2) := by decide +kernel
theorem dG_scrub_71 : decode cG_scrub 71 = .ok (.irem, 1) := by decide +kernel
theorem dG_scrub_72 : decode cG_scrub 72 = .ok (.putfield 48, 3) := by decide +kernel
theorem dG_scrub_75 : decode cG_scrub 75 = .ok (.iinc 3 1, 3) := by decide +kernel
theorem dG_scrub_78 : decode cG_scrub 78 = .ok (.goto (-32), 3) := by decide +kernel
theorem dG_scrub_81 : decode cG_scrub 81 = .ok (.aload_n 0, 1) := by decide +kernel
theorem dG_scrub_82 : decode cG_scrub 82 = .ok (.getfield 36, 3) := by decide +kernel
theorem dG_scrub_85 : decode cG_scrub 85 = .ok (.getfield 131, 3) := by decide +kernel
theorem dG_scrub_88 : decode cG_scrub 88 = .ok (.iload_n 2, 1) := by decide +kernel
theorem dG_scrub_89 : decode cG_scrub 89 = .ok (.isub, 1) := by decide +kernel
theorem dG_scrub_90 : decode cG_scrub 90 = .ok (.ireturn, 1) := by decide +kernel
theorem dG_scrubBlock_0 : decode cG_scrubBlock 0 = .ok (.aload_n 0, 1) := by decide +kernel
theorem dG_scrubBlock_1 : decode cG_scrubBlock 1 = .ok (.iconst 0, 1) := by decide +kernel
theorem dG_scrubBlock_2 : decode cG_scrubBlock 2 = .ok (.iload_n 1, 1) := by decide +kernel
theorem dG_scrubBlock_3 : decode cG_scrubBlock 3 = .ok (.invokevirtual 200, 3) := by decide +kernel
theorem dG_scrubBlock_6 : decode cG_scrubBlock 6 = .ok (.ifCond .eq 24, 3) := by decide +kernel
theorem dG_scrubBlock_9 : decode cG_scrubBlock 9 = .ok (.aload_n 0, 1) := by decide +kernel
theorem dG_scrubBlock_10 : decode cG_scrubBlock 10 = .ok (.iconst 1, 1) := by decide +kernel
theorem dG_scrubBlock_11 : decode cG_scrubBlock 11 = .ok (.iload_n 1, 1) := by decide +kernel
theorem dG_scrubBlock_12 : decode cG_scrubBlock 12 = .ok (.invokevirtual 200, 3) := by decide +kernel
theorem dG_scrubBlock_15 : decode cG_scrubBlock 15 = .ok (.ifCond .eq 15, 3) := by decide +kernel
theorem dG_scrubBlock_18 : decode cG_scrubBlock 18 = .ok (.aload_n 0, 1) := by decide +kernel
theorem dG_scrubBlock_19 : decode cG_scrubBlock 19 = .ok (.iload_n 1, 1) := by decide +kernel
theorem dG_scrubBlock_20 : decode cG_scrubBlock 20 = .ok (.invokevirtual 203, 3) := by decide +kernel
theorem dG_scrubBlock_23 : decode cG_scrubBlock 23 = .ok (.ifCond .eq 7, 3) := by decide +kernel
theorem dG_scrubBlock_26 : decode cG_scrubBlock 26 = .ok (.iconst 1, 1) := by decide +kernel
theorem dG_scrubBlock_27 : decode cG_scrubBlock 27 = .ok (.goto 4, 3) := by decide +kernel
theorem dG_scrubBlock_30 : decode cG_scrubBlock 30 = .ok (.iconst 0, 1) := by decide +kernel
theorem dG_scrubBlock_31 : decode cG_scrubBlock 31 = .ok (.ireturn, 1) := by decide +kernel
theorem dG_mendList_0 : decode cG_mendList 0 = .ok (.iload_n 2, 1) := by decide +kernel
theorem dG_mendList_1 : decode cG_mendList 1 = .ok (.bipush 8, 2) := by decide +kernel
theorem dG_mendList_3 : decode cG_mendList 3 = .ok (.idiv, 1) := by decide +kernel
theorem dG_mendList_4 : decode cG_mendList 4 = .ok (.istore_n 3, 1) := by decide +kernel
theorem dG_mendList_5 : decode cG_mendList 5 = .ok (.aload_n 0, 1) := by decide +kernel
theorem dG_mendList_6 : decode cG_mendList 6 = .ok (.iconst 1, 1) := by decide +kernel
theorem dG_mendList_7 : decode cG_mendList 7 = .ok (.iload_n 1, 1) := by decide +kernel
theorem dG_mendList_8 : decode cG_mendList 8 = .ok (.isub, 1) := by decide +kernel
theorem dG_mendList_9 : decode cG_mendList 9 = .ok (.iload_n 3, 1) := by decide +kernel
theorem dG_mendList_10 : decode cG_mendList 10 = .ok (.invokevirtual 150, 3) := by decide +kernel
theorem dG_mendList_13 : decode cG_mendList 13 = .ok (.ifCond .ne 12, 3) := by decide +kernel
theorem dG_mendList_16 : decode cG_mendList 16 = .ok (.aload_n 0, 1) := by decide +kernel
theorem dG_mendList_17 : decode cG_mendList 17 = .ok (.iload_n 1, 1) := by decide +kernel
theorem dG_mendList_18 : decode cG_mendList 18 = .ok (.iload_n 3, 1) := by decide +kernel
theorem dG_mendList_19 : decode cG_mendList 19 = .ok (.invokevirtual 150, 3) := by decide +kernel
theorem dG_mendList_22 : decode cG_mendList 22 = .ok (.ifCond .ne 5, 3) := by decide +kernel
theorem dG_mendList_25 : decode cG_mendList 25 = .ok (.iconst 1, 1) := by decide +kernel
theorem dG_mendList_26 : decode cG_mendList 26 = .ok (.ireturn, 1) := by decide +kernel
theorem dG_mendList_27 : decode cG_mendList 27 = .ok (.bipush 64, 2) := by decide +kernel
theorem dG_mendList_29 : decode cG_mendList 29 = .ok (.iload_n 3, 1) := by decide +kernel
theorem dG_mendList_30 : decode cG_mendList 30 = .ok (.iadd, 1) := by decide +kernel
theorem dG_mendList_31 : decode cG_mendList 31 = .ok (.istore 4, 2) := by decide +kernel
theorem dG_mendList_33 : decode cG_mendList 33 = .ok (.aload_n 0, 1) := by decide +kernel
theorem dG_mendList_34 : decode cG_mendList 34 = .ok (.getfield 36, 3) := by decide +kernel
theorem dG_mendList_37 : decode cG_mendList 37 = .ok (.iload_n 2, 1) := by decide +kernel
theorem dG_mendList_38 : decode cG_mendList 38 = .ok (.iconst 1, 1) := by decide +kernel
theorem dG_mendList_39 : decode cG_mendList 39 = .ok (.iload_n 1, 1) := by decide +kernel
theorem dG_mendList_40 : decode cG_mendList 40 = .ok (.isub, 1) := by decide +kernel
theorem dG_mendList_41 : decode cG_mendList 41 = .ok (.bipush 6, 2) := by decide +kernel
theorem dG_mendList_43 : decode cG_mendList 43 = .ok (.aload_n 0, 1) := by decide +kernel
theorem dG_mendList_44 : decode cG_mendList 44 = .ok (.iconst 1, 1) := by decide +kernel
theorem dG_mendList_45 : decode cG_mendList 45 = .ok (.iload_n 1, 1) := by decide +kernel
theorem dG_mendList_46 : decode cG_mendList 46 = .ok (.isub, 1) := by decide +kernel
theorem dG_mendList_47 : decode cG_mendList 47 = .ok (.invokevirtual 78, 3) := by decide +kernel
theorem dG_mendList_50 : decode cG_mendList 50 = .ok (.iload 4, 2) := by decide +kernel
theorem dG_mendList_52 : decode cG_mendList 52 = .ok (.bipush 9, 2) := by decide +kernel
theorem dG_mendList_54 : decode cG_mendList 54 = .ok (.invokevirtual 82, 3) := by decide +kernel
theorem dG_mendList_57 : decode cG_mendList 57 = .ok (.invokevirtual 206, 3) := by decide +kernel
theorem dG_mendList_60 : decode cG_mendList 60 = .ok (.aload_n 0, 1) := by decide +kernel
theorem dG_mendList_61 : decode cG_mendList 61 = .ok (.iload_n 1, 1) := by decide +kernel
theorem dG_mendList_62 : decode cG_mendList 62 = .ok (.iload_n 2, 1) := by decide +kernel
theorem dG_mendList_63 : decode cG_mendList 63 = .ok (.aload_n 0, 1) := by decide +kernel
theorem dG_mendList_64 : decode cG_mendList 64 = .ok (.iload_n 1, 1) := by decide +kernel
theorem dG_mendList_65 : decode cG_mendList 65 = .ok (.invokevirtual 78, 3) := by decide +kernel
theorem dG_mendList_68 : decode cG_mendList 68 = .ok (.iload 4, 2) := by decide +kernel
theorem dG_mendList_70 : decode cG_mendList 70 = .ok (.iload_n 2, 1) := by decide +kernel
theorem dG_mendList_71 : decode cG_mendList 71 = .ok (.bipush 8, 2) := by decide +kernel
theorem dG_mendList_73 : decode cG_mendList 73 = .ok (.irem, 1) := by decide +kernel
theorem dG_mendList_74 : decode cG_mendList 74 = .ok (.invokevirtual 82, 3) := by decide +kernel
theorem dG_mendList_77 : decode cG_mendList 77 = .ok (.invokevirtual 194, 3) := by decide +kernel
theorem dG_mendList_80 : decode cG_mendList 80 = .ok (.ireturn, 1) := by decide +kernel
theorem dF_tell_0 : decode cF_tell 0 = .ok (.aload_n 0, 1) := by decide +kernel
theorem dF_tell_1 : decode cF_tell 1 = .ok (.dup, 1) := by decide +kernel
theorem dF_tell_2 : decode cF_tell 2 = .ok (.getfield 19, 3) := by decide +kernel
theorem dF_tell_5 : decode cF_tell 5 = .ok (.iconst 1, 1) := by decide +kernel
theorem dF_tell_6 : decode cF_tell 6 = .ok (.iadd, 1) := by decide +kernel
theorem dF_tell_7 : decode cF_tell 7 = .ok (.putfield 19, 3) := by decide +kernel
theorem dF_tell_10 : decode cF_tell 10 = .ok (.aload_n 0, 1) := by decide +kernel
theorem dF_tell_11 : decode cF_tell 11 = .ok (.getfield 15, 3) := by decide +kernel
theorem dF_tell_14 : decode cF_tell 14 = .ok (.bipush 100, 2) := by decide +kernel
theorem dF_tell_16 : decode cF_tell 16 = .ok (.if_icmp .ne 4, 3) := by decide +kernel
theorem dF_tell_19 : decode cF_tell 19 = .ok (.return_, 1) := by decide +kernel
theorem dF_tell_20 : decode cF_tell 20 = .ok (.aload_n 0, 1) := by decide +kernel
theorem dF_tell_21 : decode cF_tell 21 = .ok (.getfield 15, 3) := by decide +kernel
theorem dF_tell_24 : decode cF_tell 24 = .ok (.iconst 4, 1) := by decide +kernel
theorem dF_tell_25 : decode cF_tell 25 = .ok (.imul, 1) := by decide +kernel
theorem dF_tell_26 : decode cF_tell 26 = .ok (.istore 5, 2) := by decide +kernel
theorem dF_tell_28 : decode cF_tell 28 = .ok (.aload_n 0, 1) := by decide +kernel
theorem dF_tell_29 : decode cF_tell 29 = .ok (.getfield 9, 3) := by decide +kernel
theorem dF_tell_32 : decode cF_tell 32 = .ok (.iload 5, 2) := by decide +kernel
theorem dF_tell_34 : decode cF_tell 34 = .ok (.iload_n 1, 1) := by decide +kernel
theorem dF_tell_35 : decode cF_tell 35 = .ok (.iastore, 1) := by decide +kernel
theorem dF_tell_36 : decode cF_tell 36 = .ok (.aload_n 0, 1) := by decide +kernel
theorem dF_tell_37 : decode cF_tell 37 = .ok (.getfield 9, 3) := by decide +kernel
theorem dF_tell_40 : decode cF_tell 40 = .ok (.iload 5, 2) := by decide +kernel
theorem dF_tell_42 : decode cF_tell 42 = .ok (.iconst 1, 1) := by decide +kernel
theorem dF_tell_43 : decode cF_tell 43 = .ok (.iadd, 1) := by decide +kernel
theorem dF_tell_44 : decode cF_tell 44 = .ok (.iload_n 2, 1) := by decide +kernel
theorem dF_tell_45 : decode cF_tell 45 = .ok (.iastore, 1) := by decide +kernel
theorem dF_tell_46 : decode cF_tell 46 = .ok (.aload_n 0, 1) := by decide +kernel
theorem dF_tell_47 : decode cF_tell 47 = .ok (.getfield 9, 3) := by decide +kernel
theorem dF_tell_50 : decode cF_tell 50 = .ok (.iload 5, 2) := by decide +kernel
theorem dF_tell_52 : decode cF_tell 52 = .ok (.iconst 2, 1) := by decide +kernel
theorem dF_tell_53 : decode cF_tell 53 = .ok (.iadd, 1) := by decide +kernel
theorem dF_tell_54 : decode cF_tell 54 = .ok (.iload_n 3, 1) := by decide +kernel
theorem dF_tell_55 : decode cF_tell 55 = .ok (.iastore, 1) := by decide +kernel
theorem dF_tell_56 : decode cF_tell 56 = .ok (.aload_n 0, 1) := by decide +kernel
theorem dF_tell_57 : decode cF_tell 57 = .ok (.getfield 9, 3) := by decide +kernel
theorem dF_tell_60 : decode cF_tell 60 = .ok (.iload 5, 2) := by decide +kernel
theorem dF_tell_62 : decode cF_tell 62 = .ok (.iconst 3, 1) := by decide +kernel
theorem dF_tell_63 : decode cF_tell 63 = .ok (.iadd, 1) := by decide +kernel
theorem dF_tell_64 : decode cF_tell 64 = .ok (.iload 4, 2) := by decide +kernel
theorem dF_tell_66 : decode cF_tell 66 = .ok (.iastore, 1) := by decide +kernel
theorem dF_tell_67 : decode cF_tell 67 = .ok (.aload_n 0, 1) := by decide +kernel
theorem dF_tell_68 : decode cF_tell 68 = .ok (.dup, 1) := by decide +kernel
theorem dF_tell_69 : decode cF_tell 69 = .ok (.getfield 15, 3) := by decide +kernel
theorem dF_tell_72 : decode cF_tell 72 = .ok (.iconst 1, 1) := by decide +kernel
theorem dF_tell_73 : decode cF_tell 73 = .ok (.iadd, 1) := by decide +kernel
theorem dF_tell_74 : decode cF_tell 74 = .ok (.putfield 15, 3) := by decide +kernel
theorem dF_tell_77 : decode cF_tell 77 = .ok (.return_, 1) := by decide +kernel
