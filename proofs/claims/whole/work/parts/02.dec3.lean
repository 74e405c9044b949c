theorem dX11_sum_24 : decode cX11_sum 24 = .ok (.iload_n 3, 1) := by decide +kernel
theorem dX11_sum_25 : decode cX11_sum 25 = .ok (.iconst 0, 1) := by decide +kernel
theorem dX11_sum_26 : decode cX11_sum 26 = .ok (.sipush 929, 3) := by decide +kernel
theorem dX11_sum_29 : decode cX11_sum 29 = .ok (.invokestatic 166, 3) := by decide +kernel
theorem dX11_sum_32 : decode cX11_sum 32 = .ok (.ifCond .eq 24, 3) := by decide +kernel
theorem dX11_sum_35 : decode cX11_sum 35 = .ok (.iload 4, 2) := by decide +kernel
theorem dX11_sum_37 : decode cX11_sum 37 = .ok (.iconst 0, 1) := by decide +kernel
theorem dX11_sum_38 : decode cX11_sum 38 = .ok (.bipush 15, 2) := by decide +kernel
theorem dX11_sum_40 : decode cX11_sum 40 = .ok (.invokestatic 166, 3) := by decide +kernel
theorem dX11_sum_43 : decode cX11_sum 43 = .ok (.ifCond .eq 13, 3) := by decide +kernel
theorem dX11_sum_46 : decode cX11_sum 46 = .ok (.iload 5, 2) := by decide +kernel
theorem dX11_sum_48 : decode cX11_sum 48 = .ok (.iconst 0, 1) := by decide +kernel
theorem dX11_sum_49 : decode cX11_sum 49 = .ok (.iconst 2, 1) := by decide +kernel
theorem dX11_sum_50 : decode cX11_sum 50 = .ok (.invokestatic 166, 3) := by decide +kernel
theorem dX11_sum_53 : decode cX11_sum 53 = .ok (.ifCond .ne 5, 3) := by decide +kernel
theorem dX11_sum_56 : decode cX11_sum 56 = .ok (.iconst 0, 1) := by decide +kernel
theorem dX11_sum_57 : decode cX11_sum 57 = .ok (.ireturn, 1) := by decide +kernel
theorem dX11_sum_58 : decode cX11_sum 58 = .ok (.aload_n 0, 1) := by decide +kernel
theorem dX11_sum_59 : decode cX11_sum 59 = .ok (.iload_n 2, 1) := by decide +kernel
theorem dX11_sum_60 : decode cX11_sum 60 = .ok (.invokevirtual 289, 3) := by decide +kernel
theorem dX11_sum_63 : decode cX11_sum 63 = .ok (.aload_n 0, 1) := by decide +kernel
theorem dX11_sum_64 : decode cX11_sum 64 = .ok (.iload_n 2, 1) := by decide +kernel
theorem dX11_sum_65 : decode cX11_sum 65 = .ok (.iload_n 3, 1) := by decide +kernel
theorem dX11_sum_66 : decode cX11_sum 66 = .ok (.bipush 62, 2) := by decide +kernel
theorem dX11_sum_68 : decode cX11_sum 68 = .ok (.idiv, 1) := by decide +kernel
theorem dX11_sum_69 : decode cX11_sum 69 = .ok (.iload 4, 2) := by decide +kernel
theorem dX11_sum_71 : decode cX11_sum 71 = .ok (.invokevirtual 299, 3) := by decide +kernel
theorem dX11_sum_74 : decode cX11_sum 74 = .ok (.aload_n 0, 1) := by decide +kernel
theorem dX11_sum_75 : decode cX11_sum 75 = .ok (.iload_n 1, 1) := by decide +kernel
theorem dX11_sum_76 : decode cX11_sum 76 = .ok (.iload_n 3, 1) := by decide +kernel
theorem dX11_sum_77 : decode cX11_sum 77 = .ok (.bipush 62, 2) := by decide +kernel
theorem dX11_sum_79 : decode cX11_sum 79 = .ok (.irem, 1) := by decide +kernel
theorem dX11_sum_80 : decode cX11_sum 80 = .ok (.invokevirtual 302, 3) := by decide +kernel
theorem dX11_sum_83 : decode cX11_sum 83 = .ok (.istore 6, 2) := by decide +kernel
theorem dX11_sum_85 : decode cX11_sum 85 = .ok (.iload 5, 2) := by decide +kernel
theorem dX11_sum_87 : decode cX11_sum 87 = .ok (.ifCond .ne 10, 3) := by decide +kernel
theorem dX11_sum_90 : decode cX11_sum 90 = .ok (.aload_n 0, 1) := by decide +kernel
theorem dX11_sum_91 : decode cX11_sum 91 = .ok (.getfield 293, 3) := by decide +kernel
theorem dX11_sum_94 : decode cX11_sum 94 = .ok (.goto 18, 3) := by decide +kernel
theorem dX11_sum_97 : decode cX11_sum 97 = .ok (.iload 5, 2) := by decide +kernel
theorem dX11_sum_99 : decode cX11_sum 99 = .ok (.iconst 1, 1) := by decide +kernel
theorem dX11_sum_100 : decode cX11_sum 100 = .ok (.if_icmp .ne 10, 3) := by decide +kernel
theorem dX11_sum_103 : decode cX11_sum 103 = .ok (.aload_n 0, 1) := by decide +kernel
theorem dX11_sum_104 : decode cX11_sum 104 = .ok (.getfield 296, 3) := by decide +kernel
theorem dX11_sum_107 : decode cX11_sum 107 = .ok (.goto 5, 3) := by decide +kernel
theorem dX11_sum_110 : decode cX11_sum 110 = .ok (.iload 6, 2) := by decide +kernel
theorem dX11_sum_112 : decode cX11_sum 112 = .ok (.ireturn, 1) := by decide +kernel
theorem dX11_apart_0 : decode cX11_apart 0 = .ok (.iload_n 0, 1) := by decide +kernel
theorem dX11_apart_1 : decode cX11_apart 1 = .ok (.iload_n 1, 1) := by decide +kernel
theorem dX11_apart_2 : decode cX11_apart 2 = .ok (.if_icmp .le 9, 3) := by decide +kernel
theorem dX11_apart_5 : decode cX11_apart 5 = .ok (.iload_n 0, 1) := by decide +kernel
theorem dX11_apart_6 : decode cX11_apart 6 = .ok (.iload_n 1, 1) := by decide +kernel
theorem dX11_apart_7 : decode cX11_apart 7 = .ok (.isub, 1) := by decide +kernel
theorem dX11_apart_8 : decode cX11_apart 8 = .ok (.goto 6, 3) := by decide +kernel
theorem dX11_apart_11 : decode cX11_apart 11 = .ok (.iload_n 1, 1) := by decide +kernel
theorem dX11_apart_12 : decode cX11_apart 12 = .ok (.iload_n 0, 1) := by decide +kernel
theorem dX11_apart_13 : decode cX11_apart 13 = .ok (.isub, 1) := by decide +kernel
theorem dX11_apart_14 : decode cX11_apart 14 = .ok (.istore_n 3, 1) := by decide +kernel
theorem dX11_apart_15 : decode cX11_apart 15 = .ok (.iload_n 3, 1) := by decide +kernel
theorem dX11_apart_16 : decode cX11_apart 16 = .ok (.iload_n 2, 1) := by decide +kernel
theorem dX11_apart_17 : decode cX11_apart 17 = .ok (.iload_n 3, 1) := by decide +kernel
theorem dX11_apart_18 : decode cX11_apart 18 = .ok (.isub, 1) := by decide +kernel
theorem dX11_apart_19 : decode cX11_apart 19 = .ok (.if_icmp .ge 7, 3) := by decide +kernel
theorem dX11_apart_22 : decode cX11_apart 22 = .ok (.iload_n 3, 1) := by decide +kernel
theorem dX11_apart_23 : decode cX11_apart 23 = .ok (.goto 6, 3) := by decide +kernel
theorem dX11_apart_26 : decode cX11_apart 26 = .ok (.iload_n 2, 1) := by decide +kernel
theorem dX11_apart_27 : decode cX11_apart 27 = .ok (.iload_n 3, 1) := by decide +kernel
theorem dX11_apart_28 : decode cX11_apart 28 = .ok (.isub, 1) := by decide +kernel
theorem dX11_apart_29 : decode cX11_apart 29 = .ok (.ireturn, 1) := by decide +kernel
theorem dX11_addsPowers_0 : decode cX11_addsPowers 0 = .ok (.aload_n 0, 1) := by decide +kernel
theorem dX11_addsPowers_1 : decode cX11_addsPowers 1 = .ok (.iload_n 2, 1) := by decide +kernel
theorem dX11_addsPowers_2 : decode cX11_addsPowers 2 = .ok (.invokevirtual 289, 3) := by decide +kernel
theorem dX11_addsPowers_5 : decode cX11_addsPowers 5 = .ok (.iconst 0, 1) := by decide +kernel
theorem dX11_addsPowers_6 : decode cX11_addsPowers 6 = .ok (.istore_n 3, 1) := by decide +kernel
theorem dX11_addsPowers_7 : decode cX11_addsPowers 7 = .ok (.iload_n 3, 1) := by decide +kernel
theorem dX11_addsPowers_8 : decode cX11_addsPowers 8 = .ok (.bipush 15, 2) := by decide +kernel
theorem dX11_addsPowers_10 : decode cX11_addsPowers 10 = .ok (.if_icmp .ge 55, 3) := by decide +kernel
theorem dX11_addsPowers_13 : decode cX11_addsPowers 13 = .ok (.aload_n 0, 1) := by decide +kernel
theorem dX11_addsPowers_14 : decode cX11_addsPowers 14 = .ok (.iload_n 2, 1) := by decide +kernel
theorem dX11_addsPowers_15 : decode cX11_addsPowers 15 = .ok (.iload_n 3, 1) := by decide +kernel
theorem dX11_addsPowers_16 : decode cX11_addsPowers 16 = .ok (.iconst 0, 1) := by decide +kernel
theorem dX11_addsPowers_17 : decode cX11_addsPowers 17 = .ok (.invokevirtual 299, 3) := by decide +kernel
theorem dX11_addsPowers_20 : decode cX11_addsPowers 20 = .ok (.iconst 0, 1) := by decide +kernel
theorem dX11_addsPowers_21 : decode cX11_addsPowers 21 = .ok (.istore 4, 2) := by decide +kernel
theorem dX11_addsPowers_23 : decode cX11_addsPowers 23 = .ok (.iload 4, 2) := by decide +kernel
theorem dX11_addsPowers_25 : decode cX11_addsPowers 25 = .ok (.bipush 62, 2) := by decide +kernel
theorem dX11_addsPowers_27 : decode cX11_addsPowers 27 = .ok (.if_icmp .ge 32, 3) := by decide +kernel
theorem dX11_addsPowers_30 : decode cX11_addsPowers 30 = .ok (.aload_n 0, 1) := by decide +kernel
theorem dX11_addsPowers_31 : decode cX11_addsPowers 31 = .ok (.getfield 51, 3) := by decide +kernel
theorem dX11_addsPowers_34 : decode cX11_addsPowers 34 = .ok (.bipush 62, 2) := by decide +kernel
theorem dX11_addsPowers_36 : decode cX11_addsPowers 36 = .ok (.iload_n 3, 1) := by decide +kernel
theorem dX11_addsPowers_37 : decode cX11_addsPowers 37 = .ok (.imul, 1) := by decide +kernel
theorem dX11_addsPowers_38 : decode cX11_addsPowers 38 = .ok (.iload 4, 2) := by decide +kernel
theorem dX11_addsPowers_40 : decode cX11_addsPowers 40 = .ok (.iadd, 1) := by decide +kernel
theorem dX11_addsPowers_41 : decode cX11_addsPowers 41 = .ok (.dup2, 1) := by decide +kernel
theorem dX11_addsPowers_42 : decode cX11_addsPowers 42 = .ok (.laload, 1) := by decide +kernel
theorem dX11_addsPowers_43 : decode cX11_addsPowers 43 = .ok (.aload_n 0, 1) := by decide +kernel
theorem dX11_addsPowers_44 : decode cX11_addsPowers 44 = .ok (.iload_n 1, 1) := by decide +kernel
theorem dX11_addsPowers_45 : decode cX11_addsPowers 45 = .ok (.iload 4, 2) := by decide +kernel
theorem dX11_addsPowers_47 : decode cX11_addsPowers 47 = .ok (.invokevirtual 302, 3) := by decide +kernel
theorem dX11_addsPowers_50 : decode cX11_addsPowers 50 = .ok (.i2l, 1) := by decide +kernel
theorem dX11_addsPowers_51 : decode cX11_addsPowers 51 = .ok (.ladd, 1) := by decide +kernel
theorem dX11_addsPowers_52 : decode cX11_addsPowers 52 = .ok (.lastore, 1) := by decide +kernel
theorem dX11_addsPowers_53 : decode cX11_addsPowers 53 = .ok (.iinc 4 1, 3) := by decide +kernel
theorem dX11_addsPowers_56 : decode cX11_addsPowers 56 = .ok (.goto (-33), 3) := by decide +kernel
theorem dX11_addsPowers_59 : decode cX11_addsPowers 59 = .ok (.iinc 3 1, 3) := by decide +kernel
theorem dX11_addsPowers_62 : decode cX11_addsPowers 62 = .ok (.goto (-55), 3) := by decide +kernel
theorem dX11_addsPowers_65 : decode cX11_addsPowers 65 = .ok (.return_, 1) := by decide +kernel
theorem dX11_hunts_0 : decode cX11_hunts 0 = .ok (.iconst 0, 1) := by decide +kernel
theorem dX11_hunts_1 : decode cX11_hunts 1 = .ok (.istore 4, 2) := by decide +kernel
theorem dX11_hunts_3 : decode cX11_hunts 3 = .ok (.iload 4, 2) := by decide +kernel
theorem dX11_hunts_5 : decode cX11_hunts 5 = .ok (.sipush 930, 3) := by decide +kernel
theorem dX11_hunts_8 : decode cX11_hunts 8 = .ok (.if_icmp .ge 17, 3) := by decide +kernel
theorem dX11_hunts_11 : decode cX11_hunts 11 = .ok (.aload_n 0, 1) := by decide +kernel
theorem dX11_hunts_12 : decode cX11_hunts 12 = .ok (.getfield 51, 3) := by decide +kernel
theorem dX11_hunts_15 : decode cX11_hunts 15 = .ok (.iload 4, 2) := by decide +kernel
theorem dX11_hunts_17 : decode cX11_hunts 17 = .ok (.lconst 0, 1) := by decide +kernel
theorem dX11_hunts_18 : decode cX11_hunts 18 = .ok (.lastore, 1) := by decide +kernel
theorem dX11_hunts_19 : decode cX11_hunts 19 = .ok (.iinc 4 1, 3) := by decide +kernel
theorem dX11_hunts_22 : decode cX11_hunts 22 = .ok (.goto (-19), 3) := by decide +kernel
theorem dX11_hunts_25 : decode cX11_hunts 25 = .ok (.iconst 0, 1) := by decide +kernel
theorem dX11_hunts_26 : decode cX11_hunts 26 = .ok (.istore 4, 2) := by decide +kernel
theorem dX11_hunts_28 : decode cX11_hunts 28 = .ok (.iload 4, 2) := by decide +kernel
theorem dX11_hunts_30 : decode cX11_hunts 30 = .ok (.iload_n 3, 1) := by decide +kernel
theorem dX11_hunts_31 : decode cX11_hunts 31 = .ok (.if_icmp .ge 18, 3) := by decide +kernel
theorem dX11_hunts_34 : decode cX11_hunts 34 = .ok (.aload_n 0, 1) := by decide +kernel
theorem dX11_hunts_35 : decode cX11_hunts 35 = .ok (.iload_n 1, 1) := by decide +kernel
theorem dX11_hunts_36 : decode cX11_hunts 36 = .ok (.iload_n 2, 1) := by decide +kernel
theorem dX11_hunts_37 : decode cX11_hunts 37 = .ok (.iload 4, 2) := by decide +kernel
theorem dX11_hunts_39 : decode cX11_hunts 39 = .ok (.iadd, 1) := by decide +kernel
theorem dX11_hunts_40 : decode cX11_hunts 40 = .ok (.invokevirtual 305, 3) := by decide +kernel
theorem dX11_hunts_43 : decode cX11_hunts 43 = .ok (.iinc 4 1, 3) := by decide +kernel
theorem dX11_hunts_46 : decode cX11_hunts 46 = .ok (.goto (-18), 3) := by decide +kernel
theorem dX11_hunts_49 : decode cX11_hunts 49 = .ok (.aload_n 0, 1) := by decide +kernel
theorem dX11_hunts_50 : decode cX11_hunts 50 = .ok (.invokevirtual 308, 3) := by decide +kernel
theorem dX11_hunts_53 : decode cX11_hunts 53 = .ok (.return_, 1) := by decide +kernel
theorem dX11_laysPeak_0 : decode cX11_laysPeak 0 = .ok (.aload_n 0, 1) := by decide +kernel
theorem dX11_laysPeak_1 : decode cX11_laysPeak 1 = .ok (.iconst 0, 1) := by decide +kernel
theorem dX11_laysPeak_2 : decode cX11_laysPeak 2 = .ok (.putfield 311, 3) := by decide +kernel
theorem dX11_laysPeak_5 : decode cX11_laysPeak 5 = .ok (.aload_n 0, 1) := by decide +kernel
theorem dX11_laysPeak_6 : decode cX11_laysPeak 6 = .ok (.lconst 0, 1) := by decide +kernel
theorem dX11_laysPeak_7 : decode cX11_laysPeak 7 = .ok (.putfield 314, 3) := by decide +kernel
theorem dX11_laysPeak_10 : decode cX11_laysPeak 10 = .ok (.iconst 1, 1) := by decide +kernel
theorem dX11_laysPeak_11 : decode cX11_laysPeak 11 = .ok (.istore_n 1, 1) := by decide +kernel
theorem dX11_laysPeak_12 : decode cX11_laysPeak 12 = .ok (.iload_n 1, 1) := by decide +kernel
theorem dX11_laysPeak_13 : decode cX11_laysPeak 13 = .ok (.sipush 930, 3) := by decide +kernel
theorem dX11_laysPeak_16 : decode cX11_laysPeak 16 = .ok (.if_icmp .ge 40, 3) := by decide +kernel
theorem dX11_laysPeak_19 : decode cX11_laysPeak 19 = .ok (.aload_n 0, 1) := by decide +kernel
theorem dX11_laysPeak_20 : decode cX11_laysPeak 20 = .ok (.aload_n 0, 1) := by decide +kernel
theorem dX11_laysPeak_21 : decode cX11_laysPeak 21 = .ok (.getfield 51, 3) := by decide +kernel
theorem dX11_laysPeak_24 : decode cX11_laysPeak 24 = .ok (.iload_n 1, 1) := by decide +kernel
theorem dX11_laysPeak_25 : decode cX11_laysPeak 25 = .ok (.laload, 1) := by decide +kernel
theorem dX11_laysPeak_26 : decode cX11_laysPeak 26 = .ok (.aload_n 0, 1) := by decide +kernel
theorem dX11_laysPeak_27 : decode cX11_laysPeak 27 = .ok (.getfield 51, 3) := by decide +kernel
theorem dX11_laysPeak_30 : decode cX11_laysPeak 30 = .ok (.aload_n 0, 1) := by decide +kernel
theorem dX11_laysPeak_31 : decode cX11_laysPeak 31 = .ok (.getfield 311, 3) := by decide +kernel
theorem dX11_laysPeak_34 : decode cX11_laysPeak 34 = .ok (.laload, 1) := by decide +kernel
theorem dX11_laysPeak_35 : decode cX11_laysPeak 35 = .ok (.lcmp, 1) := by decide +kernel
theorem dX11_laysPeak_36 : decode cX11_laysPeak 36 = .ok (.ifCond .le 7, 3) := by decide +kernel
theorem dX11_laysPeak_39 : decode cX11_laysPeak 39 = .ok (.iload_n 1, 1) := by decide +kernel
theorem dX11_laysPeak_40 : decode cX11_laysPeak 40 = .ok (.goto 7, 3) := by decide +kernel
theorem dX11_laysPeak_43 : decode cX11_laysPeak 43 = .ok (.aload_n 0, 1) := by decide +kernel
theorem dX11_laysPeak_44 : decode cX11_laysPeak 44 = .ok (.getfield 311, 3) := by decide +kernel
theorem dX11_laysPeak_47 : decode cX11_laysPeak 47 = .ok (.putfield 311, 3) := by decide +kernel
theorem dX11_laysPeak_50 : decode cX11_laysPeak 50 = .ok (.iinc 1 1, 3) := by decide +kernel
theorem dX11_laysPeak_53 : decode cX11_laysPeak 53 = .ok (.goto (-41), 3) := by decide +kernel
theorem dX11_laysPeak_56 : decode cX11_laysPeak 56 = .ok (.iconst 0, 1) := by decide +kernel
theorem dX11_laysPeak_57 : decode cX11_laysPeak 57 = .ok (.istore_n 1, 1) := by decide +kernel
theorem dX11_laysPeak_58 : decode cX11_laysPeak 58 = .ok (.iload_n 1, 1) := by decide +kernel
theorem dX11_laysPeak_59 : decode cX11_laysPeak 59 = .ok (.sipush 930, 3) := by decide +kernel
theorem dX11_laysPeak_62 : decode cX11_laysPeak 62 = .ok (.if_icmp .ge 53, 3) := by decide +kernel
theorem dX11_laysPeak_65 : decode cX11_laysPeak 65 = .ok (.iload_n 1, 1) := by decide +kernel
theorem dX11_laysPeak_66 : decode cX11_laysPeak 66 = .ok (.bipush 62, 2) := by decide +kernel
theorem dX11_laysPeak_68 : decode cX11_laysPeak 68 = .ok (.irem, 1) := by decide +kernel
theorem dX11_laysPeak_69 : decode cX11_laysPeak 69 = .ok (.aload_n 0, 1) := by decide +kernel
theorem dX11_laysPeak_70 : decode cX11_laysPeak 70 = .ok (.getfield 311, 3) := by decide +kernel
theorem dX11_laysPeak_73 : decode cX11_laysPeak 73 = .ok (.bipush 62, 2) := by decide +kernel
theorem dX11_laysPeak_75 : decode cX11_laysPeak 75 = .ok (.irem, 1) := by decide +kernel
theorem dX11_laysPeak_76 : decode cX11_laysPeak 76 = .ok (.bipush 62, 2) := by decide +kernel
theorem dX11_laysPeak_78 : decode cX11_laysPeak 78 = .ok (.invokestatic 318, 3) := by decide +kernel
theorem dX11_laysPeak_81 : decode cX11_laysPeak 81 = .ok (.iconst 3, 1) := by decide +kernel
theorem dX11_laysPeak_82 : decode cX11_laysPeak 82 = .ok (.if_icmp .lt 27, 3) := by decide +kernel
theorem dX11_laysPeak_85 : decode cX11_laysPeak 85 = .ok (.aload_n 0, 1) := by decide +kernel
theorem dX11_laysPeak_86 : decode cX11_laysPeak 86 = .ok (.getfield 51, 3) := by decide +kernel
theorem dX11_laysPeak_89 : decode cX11_laysPeak 89 = .ok (.iload_n 1, 1) := by decide +kernel
theorem dX11_laysPeak_90 : decode cX11_laysPeak 90 = .ok (.laload, 1) := by decide +kernel
theorem dX11_laysPeak_91 : decode cX11_laysPeak 91 = .ok (.aload_n 0, 1) := by decide +kernel
theorem dX11_laysPeak_92 : decode cX11_laysPeak 92 = .ok (.getfield 314, 3) := by decide +kernel
theorem dX11_laysPeak_95 : decode cX11_laysPeak 95 = .ok (.lcmp, 1) := by decide +kernel
theorem dX11_laysPeak_96 : decode cX11_laysPeak 96 = .ok (.ifCond .le 13, 3) := by decide +kernel
theorem dX11_laysPeak_99 : decode cX11_laysPeak 99 = .ok (.aload_n 0, 1) := by decide +kernel
theorem dX11_laysPeak_100 : decode cX11_laysPeak 100 = .ok (.aload_n 0, 1) := by decide +kernel
theorem dX11_laysPeak_101 : decode cX11_laysPeak 101 = .ok (.getfield 51, 3) := by decide +kernel
theorem dX11_laysPeak_104 : decode cX11_laysPeak 104 = .ok (.iload_n 1, 1) := by decide +kernel
theorem dX11_laysPeak_105 : decode cX11_laysPeak 105 = .ok (.laload, 1) := by decide +kernel
theorem dX11_laysPeak_106 : decode cX11_laysPeak 106 = .ok (.putfield 314, 3) := by decide +kernel
theorem dX11_laysPeak_109 : decode cX11_laysPeak 109 = .ok (.iinc 1 1, 3) := by decide +kernel
theorem dX11_laysPeak_112 : decode cX11_laysPeak 112 = .ok (.goto (-54), 3) := by decide +kernel
theorem dX11_laysPeak_115 : decode cX11_laysPeak 115 = .ok (.return_, 1) := by decide +kernel
theorem dX11_isAcquired_0 : decode cX11_isAcquired 0 = .ok (.aload_n 0, 1) := by decide +kernel
theorem dX11_isAcquired_1 : decode cX11_isAcquired 1 = .ok (.getfield 51, 3) := by decide +kernel
theorem dX11_isAcquired_4 : decode cX11_isAcquired 4 = .ok (.aload_n 0, 1) := by decide +kernel
theorem dX11_isAcquired_5 : decode cX11_isAcquired 5 = .ok (.getfield 311, 3) := by decide +kernel
theorem dX11_isAcquired_8 : decode cX11_isAcquired 8 = .ok (.laload, 1) := by decide +kernel
theorem dX11_isAcquired_9 : decode cX11_isAcquired 9 = .ok (.lconst 0, 1) := by decide +kernel
theorem dX11_isAcquired_10 : decode cX11_isAcquired 10 = .ok (.lcmp, 1) := by decide +kernel
theorem dX11_isAcquired_11 : decode cX11_isAcquired 11 = .ok (.ifCond .le 37, 3) := by decide +kernel
theorem dX11_isAcquired_14 : decode cX11_isAcquired 14 = .ok (.ldc2_w 321, 3) := by decide +kernel
theorem dX11_isAcquired_17 : decode cX11_isAcquired 17 = .ok (.aload_n 0, 1) := by decide +kernel
theorem dX11_isAcquired_18 : decode cX11_isAcquired 18 = .ok (.getfield 51, 3) := by decide +kernel
theorem dX11_isAcquired_21 : decode cX11_isAcquired 21 = .ok (.aload_n 0, 1) := by decide +kernel
theorem dX11_isAcquired_22 : decode cX11_isAcquired 22 = .ok (.getfield 311, 3) := by decide +kernel
theorem dX11_isAcquired_25 : decode cX11_isAcquired 25 = .ok (.laload, 1) := by decide +kernel
theorem dX11_isAcquired_26 : decode cX11_isAcquired 26 = .ok (.lmul, 1) := by decide +kernel
theorem dX11_isAcquired_27 : decode cX11_isAcquired 27 = .ok (.aload_n 0, 1) := by decide +kernel
theorem dX11_isAcquired_28 : decode cX11_isAcquired 28 = .ok (.getfield 26, 3) := by decide +kernel
theorem dX11_isAcquired_31 : decode cX11_isAcquired 31 = .ok (.bipush 11, 2) := by decide +kernel
theorem dX11_isAcquired_33 : decode cX11_isAcquired 33 = .ok (.iaload, 1) := by decide +kernel
theorem dX11_isAcquired_34 : decode cX11_isAcquired 34 = .ok (.i2l, 1) := by decide +kernel
theorem dX11_isAcquired_35 : decode cX11_isAcquired 35 = .ok (.aload_n 0, 1) := by decide +kernel
theorem dX11_isAcquired_36 : decode cX11_isAcquired 36 = .ok (.getfield 314, 3) := by decide +kernel
theorem dX11_isAcquired_39 : decode cX11_isAcquired 39 = .ok (.lmul, 1) := by decide +kernel
theorem dX11_isAcquired_40 : decode cX11_isAcquired 40 = .ok (.lcmp, 1) := by decide +kernel
theorem dX11_isAcquired_41 : decode cX11_isAcquired 41 = .ok (.ifCond .lt 7, 3) := by decide +kernel
theorem dX11_isAcquired_44 : decode cX11_isAcquired 44 = .ok (.iconst 1, 1) := by decide +kernel
theorem dX11_isAcquired_45 : decode cX11_isAcquired 45 = .ok (.goto 4, 3) := by decide +kernel
theorem dX11_isAcquired_48 : decode cX11_isAcquired 48 = .ok (.iconst 0, 1) := by decide +kernel
theorem dX11_isAcquired_49 : decode cX11_isAcquired 49 = .ok (.ireturn, 1) := by decide +kernel
theorem dX11_isRange_0 : decode cX11_isRange 0 = .ok (.aload_n 0, 1) := by decide +kernel
theorem dX11_isRange_1 : decode cX11_isRange 1 = .ok (.iload_n 1, 1) := by decide +kernel
theorem dX11_isRange_2 : decode cX11_isRange 2 = .ok (.invokevirtual 216, 3) := by decide +kernel
theorem dX11_isRange_5 : decode cX11_isRange 5 = .ok (.ifCond .eq 20, 3) := by decide +kernel
theorem dX11_isRange_8 : decode cX11_isRange 8 = .ok (.iload_n 2, 1) := by decide +kernel
theorem dX11_isRange_9 : decode cX11_isRange 9 = .ok (.ifCond .lt 16, 3) := by decide +kernel
theorem dX11_isRange_12 : decode cX11_isRange 12 = .ok (.iload_n 2, 1) := by decide +kernel
theorem dX11_isRange_13 : decode cX11_isRange 13 = .ok (.sipush 201, 3) := by decide +kernel
theorem dX11_isRange_16 : decode cX11_isRange 16 = .ok (.iload_n 3, 1) := by decide +kernel
theorem dX11_isRange_17 : decode cX11_isRange 17 = .ok (.isub, 1) := by decide +kernel
theorem dX11_isRange_18 : decode cX11_isRange 18 = .ok (.if_icmp .ge 7, 3) := by decide +kernel
theorem dX11_isRange_21 : decode cX11_isRange 21 = .ok (.iconst 1, 1) := by decide +kernel
theorem dX11_isRange_22 : decode cX11_isRange 22 = .ok (.goto 4, 3) := by decide +kernel
theorem dX11_isRange_25 : decode cX11_isRange 25 = .ok (.iconst 0, 1) := by decide +kernel
theorem dX11_isRange_26 : decode cX11_isRange 26 = .ok (.ireturn, 1) := by decide +kernel
theorem dX11_hunt_0 : decode cX11_hunt 0 = .ok (.aload_n 0, 1) := by decide +kernel
theorem dX11_hunt_1 : decode cX11_hunt 1 = .ok (.iconst 0, 1) := by decide +kernel
theorem dX11_hunt_2 : decode cX11_hunt 2 = .ok (.putfield 76, 3) := by decide +kernel
theorem dX11_hunt_5 : decode cX11_hunt 5 = .ok (.iload_n 3, 1) := by decide +kernel
theorem dX11_hunt_6 : decode cX11_hunt 6 = .ok (.iconst 1, 1) := by decide +kernel
theorem dX11_hunt_7 : decode cX11_hunt 7 = .ok (.iconst 4, 1) := by decide +kernel
theorem dX11_hunt_8 : decode cX11_hunt 8 = .ok (.invokestatic 166, 3) := by decide +kernel
theorem dX11_hunt_11 : decode cX11_hunt 11 = .ok (.ifCond .eq 23, 3) := by decide +kernel
theorem dX11_hunt_14 : decode cX11_hunt 14 = .ok (.aload_n 0, 1) := by decide +kernel
theorem dX11_hunt_15 : decode cX11_hunt 15 = .ok (.iload_n 1, 1) := by decide +kernel
theorem dX11_hunt_16 : decode cX11_hunt 16 = .ok (.iload_n 2, 1) := by decide +kernel
theorem dX11_hunt_17 : decode cX11_hunt 17 = .ok (.iload_n 3, 1) := by decide +kernel
theorem dX11_hunt_18 : decode cX11_hunt 18 = .ok (.invokevirtual 323, 3) := by decide +kernel
theorem dX11_hunt_21 : decode cX11_hunt 21 = .ok (.ifCond .eq 13, 3) := by decide +kernel
theorem dX11_hunt_24 : decode cX11_hunt 24 = .ok (.iload 4, 2) := by decide +kernel
theorem dX11_hunt_26 : decode cX11_hunt 26 = .ok (.iconst 0, 1) := by decide +kernel
theorem dX11_hunt_27 : decode cX11_hunt 27 = .ok (.iconst 3, 1) := by decide +kernel
theorem dX11_hunt_28 : decode cX11_hunt 28 = .ok (.invokestatic 166, 3) := by decide +kernel
theorem dX11_hunt_31 : decode cX11_hunt 31 = .ok (.ifCond .ne 5, 3) := by decide +kernel
theorem dX11_hunt_34 : decode cX11_hunt 34 = .ok (.iconst (-1), 1) := by decide +kernel
theorem dX11_hunt_35 : decode cX11_hunt 35 = .ok (.ireturn, 1) := by decide +kernel
theorem dX11_hunt_36 : decode cX11_hunt 36 = .ok (.aload_n 0, 1) := by decide +kernel
theorem dX11_hunt_37 : decode cX11_hunt 37 = .ok (.iload_n 1, 1) := by decide +kernel
theorem dX11_hunt_38 : decode cX11_hunt 38 = .ok (.iload_n 2, 1) := by decide +kernel
theorem dX11_hunt_39 : decode cX11_hunt 39 = .ok (.iload_n 3, 1) := by decide +kernel
theorem dX11_hunt_40 : decode cX11_hunt 40 = .ok (.invokevirtual 326, 3) := by decide +kernel
theorem dX11_hunt_43 : decode cX11_hunt 43 = .ok (.iload 4, 2) := by decide +kernel
theorem dX11_hunt_45 : decode cX11_hunt 45 = .ok (.ifCond .ne 10, 3) := by decide +kernel
theorem dX11_hunt_48 : decode cX11_hunt 48 = .ok (.aload_n 0, 1) := by decide +kernel
theorem dX11_hunt_49 : decode cX11_hunt 49 = .ok (.getfield 311, 3) := by decide +kernel
theorem dX11_hunt_52 : decode cX11_hunt 52 = .ok (.goto 48, 3) := by decide +kernel
theorem dX11_hunt_55 : decode cX11_hunt 55 = .ok (.iload 4, 2) := by decide +kernel
theorem dX11_hunt_57 : decode cX11_hunt 57 = .ok (.iconst 1, 1) := by decide +kernel
theorem dX11_hunt_58 : decode cX11_hunt 58 = .ok (.if_icmp .ne 16, 3) := by decide +kernel
theorem dX11_hunt_61 : decode cX11_hunt 61 = .ok (.aload_n 0, 1) := by decide +kernel
theorem dX11_hunt_62 : decode cX11_hunt 62 = .ok (.getfield 51, 3) := by decide +kernel
theorem dX11_hunt_65 : decode cX11_hunt 65 = .ok (.aload_n 0, 1) := by decide +kernel
theorem dX11_hunt_66 : decode cX11_hunt 66 = .ok (.getfield 311, 3) := by decide +kernel
theorem dX11_hunt_69 : decode cX11_hunt 69 = .ok (.laload, 1) := by decide +kernel
theorem dX11_hunt_70 : decode cX11_hunt 70 = .ok (.l2i, 1) := by decide +kernel
theorem dX11_hunt_71 : decode cX11_hunt 71 = .ok (.goto 29, 3) := by decide +kernel
theorem dX11_hunt_74 : decode cX11_hunt 74 = .ok (.iload 4, 2) := by decide +kernel
theorem dX11_hunt_76 : decode cX11_hunt 76 = .ok (.iconst 2, 1) := by decide +kernel
theorem dX11_hunt_77 : decode cX11_hunt 77 = .ok (.if_icmp .ne 11, 3) := by decide +kernel
theorem dX11_hunt_80 : decode cX11_hunt 80 = .ok (.aload_n 0, 1) := by decide +kernel
theorem dX11_hunt_81 : decode cX11_hunt 81 = .ok (.getfield 314, 3) := by decide +kernel
theorem dX11_hunt_84 : decode cX11_hunt 84 = .ok (.l2i, 1) := by decide +kernel
theorem dX11_hunt_85 : decode cX11_hunt 85 = .ok (.goto 15, 3) := by decide +kernel
theorem dX11_hunt_88 : decode cX11_hunt 88 = .ok (.aload_n 0, 1) := by decide +kernel
theorem dX11_hunt_89 : decode cX11_hunt 89 = .ok (.invokevirtual 329, 3) := by decide +kernel
theorem dX11_hunt_92 : decode cX11_hunt 92 = .ok (.ifCond .eq 7, 3) := by decide +kernel
theorem dX11_hunt_95 : decode cX11_hunt 95 = .ok (.iconst 1, 1) := by decide +kernel
theorem dX11_hunt_96 : decode cX11_hunt 96 = .ok (.goto 4, 3) := by decide +kernel
theorem dX11_hunt_99 : decode cX11_hunt 99 = .ok (.iconst 0, 1) := by decide +kernel
theorem dX11_hunt_100 : decode cX11_hunt 100 = .ok (.ireturn, 1) := by decide +kernel
theorem dX11_isTrue_0 : decode cX11_isTrue 0 = .ok (.aload_n 0, 1) := by decide +kernel
theorem dX11_isTrue_1 : decode cX11_isTrue 1 = .ok (.iload_n 1, 1) := by decide +kernel
theorem dX11_isTrue_2 : decode cX11_isTrue 2 = .ok (.iconst 2, 1) := by decide +kernel
theorem dX11_isTrue_3 : decode cX11_isTrue 3 = .ok (.invokevirtual 160, 3) := by decide +kernel
theorem dX11_isTrue_6 : decode cX11_isTrue 6 = .ok (.iconst 1, 1) := by decide +kernel
theorem dX11_isTrue_7 : decode cX11_isTrue 7 = .ok (.if_icmp .ne 33, 3) := by decide +kernel
theorem dX11_isTrue_10 : decode cX11_isTrue 10 = .ok (.aload_n 0, 1) := by decide +kernel
theorem dX11_isTrue_11 : decode cX11_isTrue 11 = .ok (.getfield 311, 3) := by decide +kernel
theorem dX11_isTrue_14 : decode cX11_isTrue 14 = .ok (.bipush 62, 2) := by decide +kernel
theorem dX11_isTrue_16 : decode cX11_isTrue 16 = .ok (.aload_n 0, 1) := by decide +kernel
theorem dX11_isTrue_17 : decode cX11_isTrue 17 = .ok (.iload_n 1, 1) := by decide +kernel
theorem dX11_isTrue_18 : decode cX11_isTrue 18 = .ok (.iconst 4, 1) := by decide +kernel
theorem dX11_isTrue_19 : decode cX11_isTrue 19 = .ok (.invokevirtual 160, 3) := by decide +kernel
theorem dX11_isTrue_22 : decode cX11_isTrue 22 = .ok (.imul, 1) := by decide +kernel
theorem dX11_isTrue_23 : decode cX11_isTrue 23 = .ok (.aload_n 0, 1) := by decide +kernel
theorem dX11_isTrue_24 : decode cX11_isTrue 24 = .ok (.iload_n 1, 1) := by decide +kernel
theorem dX11_isTrue_25 : decode cX11_isTrue 25 = .ok (.iload_n 2, 1) := by decide +kernel
theorem dX11_isTrue_26 : decode cX11_isTrue 26 = .ok (.invokevirtual 277, 3) := by decide +kernel
theorem dX11_isTrue_29 : decode cX11_isTrue 29 = .ok (.bipush 62, 2) := by decide +kernel
theorem dX11_isTrue_31 : decode cX11_isTrue 31 = .ok (.irem, 1) := by decide +kernel
theorem dX11_isTrue_32 : decode cX11_isTrue 32 = .ok (.iadd, 1) := by decide +kernel
theorem dX11_isTrue_33 : decode cX11_isTrue 33 = .ok (.if_icmp .ne 7, 3) := by decide +kernel
theorem dX11_isTrue_36 : decode cX11_isTrue 36 = .ok (.iconst 1, 1) := by decide +kernel
theorem dX11_isTrue_37 : decode cX11_isTrue 37 = .ok (.goto 4, 3) := by decide +kernel
theorem dX11_isTrue_40 : decode cX11_isTrue 40 = .ok (.iconst 0, 1) := by decide +kernel
theorem dX11_isTrue_41 : decode cX11_isTrue 41 = .ok (.ireturn, 1) := by decide +kernel
theorem dX11_listen_0 : decode cX11_listen 0 = .ok (.aload_n 0, 1) := by decide +kernel
theorem dX11_listen_1 : decode cX11_listen 1 = .ok (.iconst 0, 1) := by decide +kernel
theorem dX11_listen_2 : decode cX11_listen 2 = .ok (.putfield 76, 3) := by decide +kernel
theorem dX11_listen_5 : decode cX11_listen 5 = .ok (.aload_n 0, 1) := by decide +kernel
theorem dX11_listen_6 : decode cX11_listen 6 = .ok (.iload_n 1, 1) := by decide +kernel
theorem dX11_listen_7 : decode cX11_listen 7 = .ok (.iload_n 2, 1) := by decide +kernel
theorem dX11_listen_8 : decode cX11_listen 8 = .ok (.iconst 1, 1) := by decide +kernel
theorem dX11_listen_9 : decode cX11_listen 9 = .ok (.invokevirtual 323, 3) := by decide +kernel
theorem dX11_listen_12 : decode cX11_listen 12 = .ok (.ifCond .ne 5, 3) := by decide +kernel
theorem dX11_listen_15 : decode cX11_listen 15 = .ok (.iconst (-1), 1) := by decide +kernel
theorem dX11_listen_16 : decode cX11_listen 16 = .ok (.ireturn, 1) := by decide +kernel
theorem dX11_listen_17 : decode cX11_listen 17 = .ok (.aload_n 0, 1) := by decide +kernel
theorem dX11_listen_18 : decode cX11_listen 18 = .ok (.iload_n 1, 1) := by decide +kernel
theorem dX11_listen_19 : decode cX11_listen 19 = .ok (.iconst 2, 1) := by decide +kernel
theorem dX11_listen_20 : decode cX11_listen 20 = .ok (.invokevirtual 160, 3) := by decide +kernel
theorem dX11_listen_23 : decode cX11_listen 23 = .ok (.ifCond .ne 6, 3) := by decide +kernel
theorem dX11_listen_26 : decode cX11_listen 26 = .ok (.bipush (-2), 2) := by decide +kernel
theorem dX11_listen_28 : decode cX11_listen 28 = .ok (.ireturn, 1) := by decide +kernel
theorem dX11_listen_29 : decode cX11_listen 29 = .ok (.iconst 0, 1) := by decide +kernel
theorem dX11_listen_30 : decode cX11_listen 30 = .ok (.istore_n 3, 1) := by decide +kernel
theorem dX11_listen_31 : decode cX11_listen 31 = .ok (.iload_n 3, 1) := by decide +kernel
theorem dX11_listen_32 : decode cX11_listen 32 = .ok (.sipush 930, 3) := by decide +kernel
theorem dX11_listen_35 : decode cX11_listen 35 = .ok (.if_icmp .ge 16, 3) := by decide +kernel
theorem dX11_listen_38 : decode cX11_listen 38 = .ok (.aload_n 0, 1) := by decide +kernel
theorem dX11_listen_39 : decode cX11_listen 39 = .ok (.getfield 51, 3) := by decide +kernel
theorem dX11_listen_42 : decode cX11_listen 42 = .ok (.iload_n 3, 1) := by decide +kernel
theorem dX11_listen_43 : decode cX11_listen 43 = .ok (.lconst 0, 1) := by decide +kernel
theorem dX11_listen_44 : decode cX11_listen 44 = .ok (.lastore, 1) := by decide +kernel
theorem dX11_listen_45 : decode cX11_listen 45 = .ok (.iinc 3 1, 3) := by decide +kernel
theorem dX11_listen_48 : decode cX11_listen 48 = .ok (.goto (-17), 3) := by decide +kernel
theorem dX11_listen_51 : decode cX11_listen 51 = .ok (.iconst 1, 1) := by decide +kernel
theorem dX11_listen_52 : decode cX11_listen 52 = .ok (.istore_n 3, 1) := by decide +kernel
theorem dX11_listen_53 : decode cX11_listen 53 = .ok (.iload_n 3, 1) := by decide +kernel
theorem dX11_listen_54 : decode cX11_listen 54 = .ok (.iconst 4, 1) := by decide +kernel
theorem dX11_listen_55 : decode cX11_listen 55 = .ok (.if_icmp .gt 50, 3) := by decide +kernel
theorem dX11_listen_58 : decode cX11_listen 58 = .ok (.iload_n 2, 1) := by decide +kernel
theorem dX11_listen_59 : decode cX11_listen 59 = .ok (.iload_n 3, 1) := by decide +kernel
theorem dX11_listen_60 : decode cX11_listen 60 = .ok (.iadd, 1) := by decide +kernel
theorem dX11_listen_61 : decode cX11_listen 61 = .ok (.sipush 200, 3) := by decide +kernel
theorem dX11_listen_64 : decode cX11_listen 64 = .ok (.if_icmp .gt 41, 3) := by decide +kernel
theorem dX11_listen_67 : decode cX11_listen 67 = .ok (.aload_n 0, 1) := by decide +kernel
theorem dX11_listen_68 : decode cX11_listen 68 = .ok (.iload_n 1, 1) := by decide +kernel
theorem dX11_listen_69 : decode cX11_listen 69 = .ok (.iload_n 2, 1) := by decide +kernel
theorem dX11_listen_70 : decode cX11_listen 70 = .ok (.iload_n 3, 1) := by decide +kernel
theorem dX11_listen_71 : decode cX11_listen 71 = .ok (.iadd, 1) := by decide +kernel
theorem dX11_listen_72 : decode cX11_listen 72 = .ok (.iconst 1, 1) := by decide +kernel
theorem dX11_listen_73 : decode cX11_listen 73 = .ok (.isub, 1) := by decide +kernel
theorem dX11_listen_74 : decode cX11_listen 74 = .ok (.invokevirtual 305, 3) := by decide +kernel
theorem dX11_listen_77 : decode cX11_listen 77 = .ok (.aload_n 0, 1) := by decide +kernel
theorem dX11_listen_78 : decode cX11_listen 78 = .ok (.invokevirtual 308, 3) := by decide +kernel
theorem dX11_listen_81 : decode cX11_listen 81 = .ok (.aload_n 0, 1) := by decide +kernel
theorem dX11_listen_82 : decode cX11_listen 82 = .ok (.invokevirtual 329, 3) := by decide +kernel
theorem dX11_listen_85 : decode cX11_listen 85 = .ok (.ifCond .eq 14, 3) := by decide +kernel
theorem dX11_listen_88 : decode cX11_listen 88 = .ok (.aload_n 0, 1) := by decide +kernel
theorem dX11_listen_89 : decode cX11_listen 89 = .ok (.iload_n 1, 1) := by decide +kernel
theorem dX11_listen_90 : decode cX11_listen 90 = .ok (.iload_n 2, 1) := by decide +kernel
theorem dX11_listen_91 : decode cX11_listen 91 = .ok (.invokevirtual 332, 3) := by decide +kernel
theorem dX11_listen_94 : decode cX11_listen 94 = .ok (.ifCond .eq 5, 3) := by decide +kernel
theorem dX11_listen_97 : decode cX11_listen 97 = .ok (.iload_n 3, 1) := by decide +kernel
theorem dX11_listen_98 : decode cX11_listen 98 = .ok (.ireturn, 1) := by decide +kernel
theorem dX11_listen_99 : decode cX11_listen 99 = .ok (.iinc 3 1, 3) := by decide +kernel
theorem dX11_listen_102 : decode cX11_listen 102 = .ok (.goto (-49), 3) := by decide +kernel
theorem dX11_listen_105 : decode cX11_listen 105 = .ok (.bipush (-3), 2) := by decide +kernel
theorem dX11_listen_107 : decode cX11_listen 107 = .ok (.ireturn, 1) := by decide +kernel
theorem dX11_asTold_0 : decode cX11_asTold 0 = .ok (.aload_n 0, 1) := by decide +kernel
theorem dX11_asTold_1 : decode cX11_asTold 1 = .ok (.aload_n 0, 1) := by decide +kernel
theorem dX11_asTold_2 : decode cX11_asTold 2 = .ok (.getfield 26, 3) := by decide +kernel
theorem dX11_asTold_5 : decode cX11_asTold 5 = .ok (.bipush 9, 2) := by decide +kernel
theorem dX11_asTold_7 : decode cX11_asTold 7 = .ok (.iaload, 1) := by decide +kernel
theorem dX11_asTold_8 : decode cX11_asTold 8 = .ok (.putfield 134, 3) := by decide +kernel
theorem dX11_asTold_11 : decode cX11_asTold 11 = .ok (.aload_n 0, 1) := by decide +kernel
theorem dX11_asTold_12 : decode cX11_asTold 12 = .ok (.aload_n 0, 1) := by decide +kernel
theorem dX11_asTold_13 : decode cX11_asTold 13 = .ok (.getfield 26, 3) := by decide +kernel
theorem dX11_asTold_16 : decode cX11_asTold 16 = .ok (.bipush 10, 2) := by decide +kernel
theorem dX11_asTold_18 : decode cX11_asTold 18 = .ok (.iaload, 1) := by decide +kernel
theorem dX11_asTold_19 : decode cX11_asTold 19 = .ok (.putfield 137, 3) := by decide +kernel
theorem dX11_asTold_22 : decode cX11_asTold 22 = .ok (.aload_n 0, 1) := by decide +kernel
theorem dX11_asTold_23 : decode cX11_asTold 23 = .ok (.iconst (-1), 1) := by decide +kernel
theorem dX11_asTold_24 : decode cX11_asTold 24 = .ok (.putfield 140, 3) := by decide +kernel
theorem dX11_asTold_27 : decode cX11_asTold 27 = .ok (.return_, 1) := by decide +kernel
theorem dX11_clear_0 : decode cX11_clear 0 = .ok (.aload_n 0, 1) := by decide +kernel
theorem dX11_clear_1 : decode cX11_clear 1 = .ok (.iconst 0, 1) := by decide +kernel
theorem dX11_clear_2 : decode cX11_clear 2 = .ok (.putfield 76, 3) := by decide +kernel
theorem dX11_clear_5 : decode cX11_clear 5 = .ok (.aload_n 0, 1) := by decide +kernel
theorem dX11_clear_6 : decode cX11_clear 6 = .ok (.iload_n 1, 1) := by decide +kernel
theorem dX11_clear_7 : decode cX11_clear 7 = .ok (.iload_n 2, 1) := by decide +kernel
theorem dX11_clear_8 : decode cX11_clear 8 = .ok (.iconst 1, 1) := by decide +kernel
theorem dX11_clear_9 : decode cX11_clear 9 = .ok (.invokevirtual 323, 3) := by decide +kernel
theorem dX11_clear_12 : decode cX11_clear 12 = .ok (.ifCond .eq 12, 3) := by decide +kernel
theorem dX11_clear_15 : decode cX11_clear 15 = .ok (.iload_n 3, 1) := by decide +kernel
theorem dX11_clear_16 : decode cX11_clear 16 = .ok (.iconst 0, 1) := by decide +kernel
theorem dX11_clear_17 : decode cX11_clear 17 = .ok (.iconst 2, 1) := by decide +kernel
theorem dX11_clear_18 : decode cX11_clear 18 = .ok (.invokestatic 166, 3) := by decide +kernel
theorem dX11_clear_21 : decode cX11_clear 21 = .ok (.ifCond .ne 5, 3) := by decide +kernel
theorem dX11_clear_24 : decode cX11_clear 24 = .ok (.iconst (-1), 1) := by decide +kernel
theorem dX11_clear_25 : decode cX11_clear 25 = .ok (.ireturn, 1) := by decide +kernel
theorem dX11_clear_26 : decode cX11_clear 26 = .ok (.aload_n 0, 1) := by decide +kernel
theorem dX11_clear_27 : decode cX11_clear 27 = .ok (.iload_n 3, 1) := by decide +kernel
theorem dX11_clear_28 : decode cX11_clear 28 = .ok (.iconst 1, 1) := by decide +kernel
theorem dX11_clear_29 : decode cX11_clear 29 = .ok (.if_icmp .ne 13, 3) := by decide +kernel
theorem dX11_clear_32 : decode cX11_clear 32 = .ok (.aload_n 0, 1) := by decide +kernel
theorem dX11_clear_33 : decode cX11_clear 33 = .ok (.getfield 26, 3) := by decide +kernel
theorem dX11_clear_36 : decode cX11_clear 36 = .ok (.bipush 9, 2) := by decide +kernel
theorem dX11_clear_38 : decode cX11_clear 38 = .ok (.iaload, 1) := by decide +kernel
theorem dX11_clear_39 : decode cX11_clear 39 = .ok (.goto 4, 3) := by decide +kernel
theorem dX11_clear_42 : decode cX11_clear 42 = .ok (.iconst 0, 1) := by decide +kernel
theorem dX11_clear_43 : decode cX11_clear 43 = .ok (.putfield 134, 3) := by decide +kernel
theorem dX11_clear_46 : decode cX11_clear 46 = .ok (.aload_n 0, 1) := by decide +kernel
theorem dX11_clear_47 : decode cX11_clear 47 = .ok (.iload_n 3, 1) := by decide +kernel
theorem dX11_clear_48 : decode cX11_clear 48 = .ok (.ifCond .ne 7, 3) := by decide +kernel
theorem dX11_clear_51 : decode cX11_clear 51 = .ok (.iconst (-1), 1) := by decide +kernel
theorem dX11_clear_52 : decode cX11_clear 52 = .ok (.goto 4, 3) := by decide +kernel
theorem dX11_clear_55 : decode cX11_clear 55 = .ok (.iload_n 1, 1) := by decide +kernel
theorem dX11_clear_56 : decode cX11_clear 56 = .ok (.putfield 140, 3) := by decide +kernel
theorem dX11_clear_59 : decode cX11_clear 59 = .ok (.aload_n 0, 1) := by decide +kernel
theorem dX11_clear_60 : decode cX11_clear 60 = .ok (.iload_n 1, 1) := by decide +kernel
theorem dX11_clear_61 : decode cX11_clear 61 = .ok (.iload_n 2, 1) := by decide +kernel
theorem dX11_clear_62 : decode cX11_clear 62 = .ok (.iconst 1, 1) := by decide +kernel
theorem dX11_clear_63 : decode cX11_clear 63 = .ok (.invokevirtual 326, 3) := by decide +kernel
theorem dX11_clear_66 : decode cX11_clear 66 = .ok (.aload_n 0, 1) := by decide +kernel
theorem dX11_clear_67 : decode cX11_clear 67 = .ok (.invokevirtual 335, 3) := by decide +kernel
theorem dX11_clear_70 : decode cX11_clear 70 = .ok (.aload_n 0, 1) := by decide +kernel
theorem dX11_clear_71 : decode cX11_clear 71 = .ok (.invokevirtual 329, 3) := by decide +kernel
theorem dX11_clear_74 : decode cX11_clear 74 = .ok (.ifCond .eq 7, 3) := by decide +kernel
theorem dX11_clear_77 : decode cX11_clear 77 = .ok (.iconst 1, 1) := by decide +kernel
theorem dX11_clear_78 : decode cX11_clear 78 = .ok (.goto 4, 3) := by decide +kernel
theorem dX11_clear_81 : decode cX11_clear 81 = .ok (.iconst 0, 1) := by decide +kernel
theorem dX11_clear_82 : decode cX11_clear 82 = .ok (.ireturn, 1) := by decide +kernel
theorem dX11_limit_0 : decode cX11_limit 0 = .ok (.aload_n 0, 1) := by decide +kernel
theorem dX11_limit_1 : decode cX11_limit 1 = .ok (.iconst 0, 1) := by decide +kernel
theorem dX11_limit_2 : decode cX11_limit 2 = .ok (.putfield 76, 3) := by decide +kernel
theorem dX11_limit_5 : decode cX11_limit 5 = .ok (.aload_n 0, 1) := by decide +kernel
theorem dX11_limit_6 : decode cX11_limit 6 = .ok (.iload_n 1, 1) := by decide +kernel
theorem dX11_limit_7 : decode cX11_limit 7 = .ok (.iload_n 2, 1) := by decide +kernel
theorem dX11_limit_8 : decode cX11_limit 8 = .ok (.iconst 1, 1) := by decide +kernel
theorem dX11_limit_9 : decode cX11_limit 9 = .ok (.invokevirtual 323, 3) := by decide +kernel
theorem dX11_limit_12 : decode cX11_limit 12 = .ok (.ifCond .ne 5, 3) := by decide +kernel
theorem dX11_limit_15 : decode cX11_limit 15 = .ok (.iconst (-1), 1) := by decide +kernel
theorem dX11_limit_16 : decode cX11_limit 16 = .ok (.ireturn, 1) := by decide +kernel
theorem dX11_limit_17 : decode cX11_limit 17 = .ok (.bipush (-2), 2) := by decide +kernel
theorem dX11_limit_19 : decode cX11_limit 19 = .ok (.istore_n 3, 1) := by decide +kernel
theorem dX11_limit_20 : decode cX11_limit 20 = .ok (.iconst 0, 1) := by decide +kernel
theorem dX11_limit_21 : decode cX11_limit 21 = .ok (.istore 4, 2) := by decide +kernel
theorem dX11_limit_23 : decode cX11_limit 23 = .ok (.iload 4, 2) := by decide +kernel
theorem dX11_limit_25 : decode cX11_limit 25 = .ok (.bipush 99, 2) := by decide +kernel
theorem dX11_limit_27 : decode cX11_limit 27 = .ok (.if_icmp .gt 41, 3) := by decide +kernel
theorem dX11_limit_30 : decode cX11_limit 30 = .ok (.iload_n 3, 1) := by decide +kernel
theorem dX11_limit_31 : decode cX11_limit 31 = .ok (.ifCond .ge 37, 3) := by decide +kernel
theorem dX11_limit_34 : decode cX11_limit 34 = .ok (.aload_n 0, 1) := by decide +kernel
theorem dX11_limit_35 : decode cX11_limit 35 = .ok (.iload 4, 2) := by decide +kernel
theorem dX11_limit_37 : decode cX11_limit 37 = .ok (.putfield 134, 3) := by decide +kernel
theorem dX11_limit_40 : decode cX11_limit 40 = .ok (.aload_n 0, 1) := by decide +kernel
theorem dX11_limit_41 : decode cX11_limit 41 = .ok (.iload_n 1, 1) := by decide +kernel
theorem dX11_limit_42 : decode cX11_limit 42 = .ok (.iload_n 2, 1) := by decide +kernel
theorem dX11_limit_43 : decode cX11_limit 43 = .ok (.iconst 1, 1) := by decide +kernel
theorem dX11_limit_44 : decode cX11_limit 44 = .ok (.invokevirtual 326, 3) := by decide +kernel
theorem dX11_limit_47 : decode cX11_limit 47 = .ok (.aload_n 0, 1) := by decide +kernel
theorem dX11_limit_48 : decode cX11_limit 48 = .ok (.invokevirtual 329, 3) := by decide +kernel
theorem dX11_limit_51 : decode cX11_limit 51 = .ok (.ifCond .eq 8, 3) := by decide +kernel
theorem dX11_limit_54 : decode cX11_limit 54 = .ok (.bipush (-2), 2) := by decide +kernel
theorem dX11_limit_56 : decode cX11_limit 56 = .ok (.goto 5, 3) := by decide +kernel
theorem dX11_limit_59 : decode cX11_limit 59 = .ok (.iload 4, 2) := by decide +kernel
theorem dX11_limit_61 : decode cX11_limit 61 = .ok (.istore_n 3, 1) := by decide +kernel
theorem dX11_limit_62 : decode cX11_limit 62 = .ok (.iinc 4 9, 3) := by decide +kernel
theorem dX11_limit_65 : decode cX11_limit 65 = .ok (.goto (-42), 3) := by decide +kernel
theorem dX11_limit_68 : decode cX11_limit 68 = .ok (.aload_n 0, 1) := by decide +kernel
theorem dX11_limit_69 : decode cX11_limit 69 = .ok (.invokevirtual 335, 3) := by decide +kernel
theorem dX11_limit_72 : decode cX11_limit 72 = .ok (.iload_n 3, 1) := by decide +kernel
theorem dX11_limit_73 : decode cX11_limit 73 = .ok (.ireturn, 1) := by decide +kernel
theorem dX11_chance_0 : decode cX11_chance 0 = .ok (.aload_n 0, 1) := by decide +kernel
theorem dX11_chance_1 : decode cX11_chance 1 = .ok (.iconst 0, 1) := by decide +kernel
theorem dX11_chance_2 : decode cX11_chance 2 = .ok (.putfield 76, 3) := by decide +kernel
theorem dX11_chance_5 : decode cX11_chance 5 = .ok (.aload_n 0, 1) := by decide +kernel
theorem dX11_chance_6 : decode cX11_chance 6 = .ok (.iload_n 1, 1) := by decide +kernel
theorem dX11_chance_7 : decode cX11_chance 7 = .ok (.iload_n 2, 1) := by decide +kernel
theorem dX11_chance_8 : decode cX11_chance 8 = .ok (.iconst 1, 1) := by decide +kernel
theorem dX11_chance_9 : decode cX11_chance 9 = .ok (.invokevirtual 323, 3) := by decide +kernel
theorem dX11_chance_12 : decode cX11_chance 12 = .ok (.ifCond .eq 23, 3) := by decide +kernel
theorem dX11_chance_15 : decode cX11_chance 15 = .ok (.iload_n 3, 1) := by decide +kernel
theorem dX11_chance_16 : decode cX11_chance 16 = .ok (.iconst 1, 1) := by decide +kernel
theorem dX11_chance_17 : decode cX11_chance 17 = .ok (.bipush 10, 2) := by decide +kernel
theorem dX11_chance_19 : decode cX11_chance 19 = .ok (.invokestatic 166, 3) := by decide +kernel
theorem dX11_chance_22 : decode cX11_chance 22 = .ok (.ifCond .eq 13, 3) := by decide +kernel
theorem dX11_chance_25 : decode cX11_chance 25 = .ok (.iload 4, 2) := by decide +kernel
theorem dX11_chance_27 : decode cX11_chance 27 = .ok (.iconst 0, 1) := by decide +kernel
theorem dX11_chance_28 : decode cX11_chance 28 = .ok (.iconst 1, 1) := by decide +kernel
theorem dX11_chance_29 : decode cX11_chance 29 = .ok (.invokestatic 166, 3) := by decide +kernel
theorem dX11_chance_32 : decode cX11_chance 32 = .ok (.ifCond .ne 5, 3) := by decide +kernel
theorem dX11_chance_35 : decode cX11_chance 35 = .ok (.iconst (-1), 1) := by decide +kernel
theorem dX11_chance_36 : decode cX11_chance 36 = .ok (.ireturn, 1) := by decide +kernel
theorem dX11_chance_37 : decode cX11_chance 37 = .ok (.aload_n 0, 1) := by decide +kernel
theorem dX11_chance_38 : decode cX11_chance 38 = .ok (.getfield 26, 3) := by decide +kernel
theorem dX11_chance_41 : decode cX11_chance 41 = .ok (.bipush 10, 2) := by decide +kernel
theorem dX11_chance_43 : decode cX11_chance 43 = .ok (.iaload, 1) := by decide +kernel
theorem dX11_chance_44 : decode cX11_chance 44 = .ok (.i2l, 1) := by decide +kernel
theorem dX11_chance_45 : decode cX11_chance 45 = .ok (.lstore 5, 2) := by decide +kernel
theorem dX11_chance_47 : decode cX11_chance 47 = .ok (.iconst 0, 1) := by decide +kernel
theorem dX11_chance_48 : decode cX11_chance 48 = .ok (.istore 7, 2) := by decide +kernel
theorem dX11_chance_50 : decode cX11_chance 50 = .ok (.iconst 0, 1) := by decide +kernel
theorem dX11_chance_51 : decode cX11_chance 51 = .ok (.istore 8, 2) := by decide +kernel
theorem dX11_chance_53 : decode cX11_chance 53 = .ok (.iload 8, 2) := by decide +kernel
theorem dX11_chance_55 : decode cX11_chance 55 = .ok (.iload_n 3, 1) := by decide +kernel
theorem dX11_chance_56 : decode cX11_chance 56 = .ok (.if_icmp .ge 65, 3) := by decide +kernel
theorem dX11_chance_59 : decode cX11_chance 59 = .ok (.lload 5, 2) := by decide +kernel
theorem dX11_chance_61 : decode cX11_chance 61 = .ok (.invokestatic 263, 3) := by decide +kernel
theorem dX11_chance_64 : decode cX11_chance 64 = .ok (.lstore 5, 2) := by decide +kernel
theorem dX11_chance_66 : decode cX11_chance 66 = .ok (.aload_n 0, 1) := by decide +kernel
theorem dX11_chance_67 : decode cX11_chance 67 = .ok (.lload 5, 2) := by decide +kernel
theorem dX11_chance_69 : decode cX11_chance 69 = .ok (.ldc2_w 338, 3) := by decide +kernel
theorem dX11_chance_72 : decode cX11_chance 72 = .ok (.lrem, 1) := by decide +kernel
theorem dX11_chance_73 : decode cX11_chance 73 = .ok (.l2i, 1) := by decide +kernel
theorem dX11_chance_74 : decode cX11_chance 74 = .ok (.putfield 137, 3) := by decide +kernel
theorem dX11_chance_77 : decode cX11_chance 77 = .ok (.aload_n 0, 1) := by decide +kernel
theorem dX11_chance_78 : decode cX11_chance 78 = .ok (.iload_n 1, 1) := by decide +kernel
theorem dX11_chance_79 : decode cX11_chance 79 = .ok (.iload_n 2, 1) := by decide +kernel
theorem dX11_chance_80 : decode cX11_chance 80 = .ok (.iconst 1, 1) := by decide +kernel
theorem dX11_chance_81 : decode cX11_chance 81 = .ok (.invokevirtual 326, 3) := by decide +kernel
theorem dX11_chance_84 : decode cX11_chance 84 = .ok (.iload 7, 2) := by decide +kernel
theorem dX11_chance_86 : decode cX11_chance 86 = .ok (.aload_n 0, 1) := by decide +kernel
theorem dX11_chance_87 : decode cX11_chance 87 = .ok (.invokevirtual 329, 3) := by decide +kernel
theorem dX11_chance_90 : decode cX11_chance 90 = .ok (.ifCond .eq 21, 3) := by decide +kernel
theorem dX11_chance_93 : decode cX11_chance 93 = .ok (.iload 4, 2) := by decide +kernel
theorem dX11_chance_95 : decode cX11_chance 95 = .ok (.ifCond .eq 12, 3) := by decide +kernel
theorem dX11_chance_98 : decode cX11_chance 98 = .ok (.aload_n 0, 1) := by decide +kernel
theorem dX11_chance_99 : decode cX11_chance 99 = .ok (.iload_n 1, 1) := by decide +kernel
theorem dX11_chance_100 : decode cX11_chance 100 = .ok (.iload_n 2, 1) := by decide +kernel
theorem dX11_chance_101 : decode cX11_chance 101 = .ok (.invokevirtual 332, 3) := by decide +kernel
theorem dX11_chance_104 : decode cX11_chance 104 = .ok (.ifCond .eq 7, 3) := by decide +kernel
theorem dX11_chance_107 : decode cX11_chance 107 = .ok (.iconst 1, 1) := by decide +kernel
theorem dX11_chance_108 : decode cX11_chance 108 = .ok (.goto 4, 3) := by decide +kernel
theorem dX11_chance_111 : decode cX11_chance 111 = .ok (.iconst 0, 1) := by decide +kernel
theorem dX11_chance_112 : decode cX11_chance 112 = .ok (.iadd, 1) := by decide +kernel
theorem dX11_chance_113 : decode cX11_chance 113 = .ok (.istore 7, 2) := by decide +kernel
theorem dX11_chance_115 : decode cX11_chance 115 = .ok (.iinc 8 1, 3) := by decide +kernel
theorem dX11_chance_118 : decode cX11_chance 118 = .ok (.goto (-65), 3) := by decide +kernel
theorem dX11_chance_121 : decode cX11_chance 121 = .ok (.aload_n 0, 1) := by decide +kernel
theorem dX11_chance_122 : decode cX11_chance 122 = .ok (.invokevirtual 335, 3) := by decide +kernel
theorem dX11_chance_125 : decode cX11_chance 125 = .ok (.iload 7, 2) := by decide +kernel
theorem dX11_chance_127 : decode cX11_chance 127 = .ok (.ireturn, 1) := by decide +kernel
theorem dX11_clearest_0 : decode cX11_clearest 0 = .ok (.aload_n 0, 1) := by decide +kernel
theorem dX11_clearest_1 : decode cX11_clearest 1 = .ok (.iconst 0, 1) := by decide +kernel
theorem dX11_clearest_2 : decode cX11_clearest 2 = .ok (.putfield 76, 3) := by decide +kernel
theorem dX11_clearest_5 : decode cX11_clearest 5 = .ok (.iload_n 3, 1) := by decide +kernel
theorem dX11_clearest_6 : decode cX11_clearest 6 = .ok (.iconst 1, 1) := by decide +kernel
theorem dX11_clearest_7 : decode cX11_clearest 7 = .ok (.bipush 8, 2) := by decide +kernel
theorem dX11_clearest_9 : decode cX11_clearest 9 = .ok (.invokestatic 166, 3) := by decide +kernel
theorem dX11_clearest_12 : decode cX11_clearest 12 = .ok (.ifCond .eq 13, 3) := by decide +kernel
theorem dX11_clearest_15 : decode cX11_clearest 15 = .ok (.aload_n 0, 1) := by decide +kernel
theorem dX11_clearest_16 : decode cX11_clearest 16 = .ok (.iload_n 1, 1) := by decide +kernel
theorem dX11_clearest_17 : decode cX11_clearest 17 = .ok (.iload_n 2, 1) := by decide +kernel
theorem dX11_clearest_18 : decode cX11_clearest 18 = .ok (.iload_n 3, 1) := by decide +kernel
theorem dX11_clearest_19 : decode cX11_clearest 19 = .ok (.invokevirtual 323, 3) := by decide +kernel
theorem dX11_clearest_22 : decode cX11_clearest 22 = .ok (.ifCond .ne 5, 3) := by decide +kernel
theorem dX11_clearest_25 : decode cX11_clearest 25 = .ok (.iconst (-1), 1) := by decide +kernel
theorem dX11_clearest_26 : decode cX11_clearest 26 = .ok (.ireturn, 1) := by decide +kernel
theorem dX11_clearest_27 : decode cX11_clearest 27 = .ok (.iconst (-1), 1) := by decide +kernel
theorem dX11_clearest_28 : decode cX11_clearest 28 = .ok (.istore 4, 2) := by decide +kernel
theorem dX11_clearest_30 : decode cX11_clearest 30 = .ok (.lconst 0, 1) := by decide +kernel
theorem dX11_clearest_31 : decode cX11_clearest 31 = .ok (.lstore 5, 2) := by decide +kernel
theorem dX11_clearest_33 : decode cX11_clearest 33 = .ok (.lconst 1, 1) := by decide +kernel
theorem dX11_clearest_34 : decode cX11_clearest 34 = .ok (.lstore 7, 2) := by decide +kernel
theorem dX11_clearest_36 : decode cX11_clearest 36 = .ok (.iconst 0, 1) := by decide +kernel
theorem dX11_clearest_37 : decode cX11_clearest 37 = .ok (.istore 9, 2) := by decide +kernel
theorem dX11_clearest_39 : decode cX11_clearest 39 = .ok (.iload 9, 2) := by decide +kernel
theorem dX11_clearest_41 : decode cX11_clearest 41 = .ok (.iload_n 3, 1) := by decide +kernel
theorem dX11_clearest_42 : decode cX11_clearest 42 = .ok (.if_icmp .ge 88, 3) := by decide +kernel
theorem dX11_clearest_45 : decode cX11_clearest 45 = .ok (.aload_n 0, 1) := by decide +kernel
theorem dX11_clearest_46 : decode cX11_clearest 46 = .ok (.iload_n 1, 1) := by decide +kernel
theorem dX11_clearest_47 : decode cX11_clearest 47 = .ok (.iload_n 2, 1) := by decide +kernel
theorem dX11_clearest_48 : decode cX11_clearest 48 = .ok (.iload 9, 2) := by decide +kernel
theorem dX11_clearest_50 : decode cX11_clearest 50 = .ok (.iadd, 1) := by decide +kernel
theorem dX11_clearest_51 : decode cX11_clearest 51 = .ok (.iconst 1, 1) := by decide +kernel
theorem dX11_clearest_52 : decode cX11_clearest 52 = .ok (.invokevirtual 326, 3) := by decide +kernel
theorem dX11_clearest_55 : decode cX11_clearest 55 = .ok (.aload_n 0, 1) := by decide +kernel
theorem dX11_clearest_56 : decode cX11_clearest 56 = .ok (.getfield 314, 3) := by decide +kernel
theorem dX11_clearest_59 : decode cX11_clearest 59 = .ok (.lconst 0, 1) := by decide +kernel
theorem dX11_clearest_60 : decode cX11_clearest 60 = .ok (.lcmp, 1) := by decide +kernel
theorem dX11_clearest_61 : decode cX11_clearest 61 = .ok (.ifCond .ne 7, 3) := by decide +kernel
theorem dX11_clearest_64 : decode cX11_clearest 64 = .ok (.lconst 1, 1) := by decide +kernel
theorem dX11_clearest_65 : decode cX11_clearest 65 = .ok (.goto 7, 3) := by decide +kernel
theorem dX11_clearest_68 : decode cX11_clearest 68 = .ok (.aload_n 0, 1) := by decide +kernel
theorem dX11_clearest_69 : decode cX11_clearest 69 = .ok (.getfield 314, 3) := by decide +kernel
theorem dX11_clearest_72 : decode cX11_clearest 72 = .ok (.lstore 10, 2) := by decide +kernel
theorem dX11_clearest_74 : decode cX11_clearest 74 = .ok (.iload 4, 2) := by decide +kernel
theorem dX11_clearest_76 : decode cX11_clearest 76 = .ok (.ifCond .lt 27, 3) := by decide +kernel
theorem dX11_clearest_79 : decode cX11_clearest 79 = .ok (.aload_n 0, 1) := by decide +kernel
theorem dX11_clearest_80 : decode cX11_clearest 80 = .ok (.getfield 51, 3) := by decide +kernel
theorem dX11_clearest_83 : decode cX11_clearest 83 = .ok (.aload_n 0, 1) := by decide +kernel
theorem dX11_clearest_84 : decode cX11_clearest 84 = .ok (.getfield 311, 3) := by decide +kernel
theorem dX11_clearest_87 : decode cX11_clearest 87 = .ok (.laload, 1) := by decide +kernel
theorem dX11_clearest_88 : decode cX11_clearest 88 = .ok (.lload 7, 2) := by decide +kernel
theorem dX11_clearest_90 : decode cX11_clearest 90 = .ok (.lmul, 1) := by decide +kernel
theorem dX11_clearest_91 : decode cX11_clearest 91 = .ok (.lload 5, 2) := by decide +kernel
theorem dX11_clearest_93 : decode cX11_clearest 93 = .ok (.lload 10, 2) := by decide +kernel
theorem dX11_clearest_95 : decode cX11_clearest 95 = .ok (.lmul, 1) := by decide +kernel
theorem dX11_clearest_96 : decode cX11_clearest 96 = .ok (.lcmp, 1) := by decide +kernel
theorem dX11_clearest_97 : decode cX11_clearest 97 = .ok (.ifCond .gt 6, 3) := by decide +kernel
theorem dX11_clearest_100 : decode cX11_clearest 100 = .ok (.goto 24, 3) := by decide +kernel
theorem dX11_clearest_103 : decode cX11_clearest 103 = .ok (.iload_n 2, 1) := by decide +kernel
theorem dX11_clearest_104 : decode cX11_clearest 104 = .ok (.iload 9, 2) := by decide +kernel
theorem dX11_clearest_106 : decode cX11_clearest 106 = .ok (.iadd, 1) := by decide +kernel
theorem dX11_clearest_107 : decode cX11_clearest 107 = .ok (.istore 4, 2) := by decide +kernel
theorem dX11_clearest_109 : decode cX11_clearest 109 = .ok (.aload_n 0, 1) := by decide +kernel
theorem dX11_clearest_110 : decode cX11_clearest 110 = .ok (.getfield 51, 3) := by decide +kernel
theorem dX11_clearest_113 : decode cX11_clearest 113 = .ok (.aload_n 0, 1) := by decide +kernel
theorem dX11_clearest_114 : decode cX11_clearest 114 = .ok (.getfield 311, 3) := by decide +kernel
theorem dX11_clearest_117 : decode cX11_clearest 117 = .ok (.laload, 1) := by decide +kernel
theorem dX11_clearest_118 : decode cX11_clearest 118 = .ok (.lstore 5, 2) := by decide +kernel
theorem dX11_clearest_120 : decode cX11_clearest 120 = .ok (.lload 10, 2) := by decide +kernel
theorem dX11_clearest_122 : decode cX11_clearest 122 = .ok (.lstore 7, 2) := by decide +kernel
theorem dX11_clearest_124 : decode cX11_clearest 124 = .ok (.iinc 9 1, 3) := by decide +kernel
theorem dX11_clearest_127 : decode cX11_clearest 127 = .ok (.goto (-88), 3) := by decide +kernel
theorem dX11_clearest_130 : decode cX11_clearest 130 = .ok (.iload 4, 2) := by decide +kernel
theorem dX11_clearest_132 : decode cX11_clearest 132 = .ok (.ireturn, 1) := by decide +kernel
theorem dX11_tune_0 : decode cX11_tune 0 = .ok (.aload_n 0, 1) := by decide +kernel
theorem dX11_tune_1 : decode cX11_tune 1 = .ok (.iconst 0, 1) := by decide +kernel
theorem dX11_tune_2 : decode cX11_tune 2 = .ok (.putfield 76, 3) := by decide +kernel
theorem dX11_tune_5 : decode cX11_tune 5 = .ok (.aload_n 0, 1) := by decide +kernel
theorem dX11_tune_6 : decode cX11_tune 6 = .ok (.iload_n 1, 1) := by decide +kernel
theorem dX11_tune_7 : decode cX11_tune 7 = .ok (.iload_n 2, 1) := by decide +kernel
theorem dX11_tune_8 : decode cX11_tune 8 = .ok (.iconst 1, 1) := by decide +kernel
theorem dX11_tune_9 : decode cX11_tune 9 = .ok (.invokevirtual 323, 3) := by decide +kernel
theorem dX11_tune_12 : decode cX11_tune 12 = .ok (.ifCond .eq 13, 3) := by decide +kernel
theorem dX11_tune_15 : decode cX11_tune 15 = .ok (.iload_n 3, 1) := by decide +kernel
theorem dX11_tune_16 : decode cX11_tune 16 = .ok (.iconst 0, 1) := by decide +kernel
theorem dX11_tune_17 : decode cX11_tune 17 = .ok (.bipush 61, 2) := by decide +kernel
theorem dX11_tune_19 : decode cX11_tune 19 = .ok (.invokestatic 166, 3) := by decide +kernel
theorem dX11_tune_22 : decode cX11_tune 22 = .ok (.ifCond .ne 5, 3) := by decide +kernel
theorem dX11_tune_25 : decode cX11_tune 25 = .ok (.iconst (-1), 1) := by decide +kernel
theorem dX11_tune_26 : decode cX11_tune 26 = .ok (.ireturn, 1) := by decide +kernel
theorem dX11_tune_27 : decode cX11_tune 27 = .ok (.aload_n 0, 1) := by decide +kernel
theorem dX11_tune_28 : decode cX11_tune 28 = .ok (.iload_n 2, 1) := by decide +kernel
theorem dX11_tune_29 : decode cX11_tune 29 = .ok (.invokevirtual 289, 3) := by decide +kernel
theorem dX11_tune_32 : decode cX11_tune 32 = .ok (.iconst 0, 1) := by decide +kernel
theorem dX11_tune_33 : decode cX11_tune 33 = .ok (.istore 4, 2) := by decide +kernel
theorem dX11_tune_35 : decode cX11_tune 35 = .ok (.iconst (-1), 1) := by decide +kernel
theorem dX11_tune_36 : decode cX11_tune 36 = .ok (.istore 5, 2) := by decide +kernel
theorem dX11_tune_38 : decode cX11_tune 38 = .ok (.iconst 0, 1) := by decide +kernel
theorem dX11_tune_39 : decode cX11_tune 39 = .ok (.istore 6, 2) := by decide +kernel
theorem dX11_tune_41 : decode cX11_tune 41 = .ok (.iload 6, 2) := by decide +kernel
theorem dX11_tune_43 : decode cX11_tune 43 = .ok (.bipush 15, 2) := by decide +kernel
theorem dX11_tune_45 : decode cX11_tune 45 = .ok (.if_icmp .ge 57, 3) := by decide +kernel
theorem dX11_tune_48 : decode cX11_tune 48 = .ok (.aload_n 0, 1) := by decide +kernel
theorem dX11_tune_49 : decode cX11_tune 49 = .ok (.iload_n 2, 1) := by decide +kernel
theorem dX11_tune_50 : decode cX11_tune 50 = .ok (.iload 6, 2) := by decide +kernel
theorem dX11_tune_52 : decode cX11_tune 52 = .ok (.iconst 0, 1) := by decide +kernel
theorem dX11_tune_53 : decode cX11_tune 53 = .ok (.invokevirtual 299, 3) := by decide +kernel
theorem dX11_tune_56 : decode cX11_tune 56 = .ok (.aload_n 0, 1) := by decide +kernel
theorem dX11_tune_57 : decode cX11_tune 57 = .ok (.iload_n 1, 1) := by decide +kernel
theorem dX11_tune_58 : decode cX11_tune 58 = .ok (.iload_n 3, 1) := by decide +kernel
theorem dX11_tune_59 : decode cX11_tune 59 = .ok (.invokevirtual 302, 3) := by decide +kernel
theorem dX11_tune_62 : decode cX11_tune 62 = .ok (.istore 7, 2) := by decide +kernel
theorem dX11_tune_64 : decode cX11_tune 64 = .ok (.iload 7, 2) := by decide +kernel
theorem dX11_tune_66 : decode cX11_tune 66 = .ok (.iload 5, 2) := by decide +kernel
theorem dX11_tune_68 : decode cX11_tune 68 = .ok (.if_icmp .le 8, 3) := by decide +kernel
theorem dX11_tune_71 : decode cX11_tune 71 = .ok (.iload 6, 2) := by decide +kernel
theorem dX11_tune_73 : decode cX11_tune 73 = .ok (.goto 5, 3) := by decide +kernel
theorem dX11_tune_76 : decode cX11_tune 76 = .ok (.iload 4, 2) := by decide +kernel
theorem dX11_tune_78 : decode cX11_tune 78 = .ok (.istore 4, 2) := by decide +kernel
theorem dX11_tune_80 : decode cX11_tune 80 = .ok (.iload 7, 2) := by decide +kernel
theorem dX11_tune_82 : decode cX11_tune 82 = .ok (.iload 5, 2) := by decide +kernel
theorem dX11_tune_84 : decode cX11_tune 84 = .ok (.if_icmp .le 8, 3) := by decide +kernel
theorem dX11_tune_87 : decode cX11_tune 87 = .ok (.iload 7, 2) := by decide +kernel
theorem dX11_tune_89 : decode cX11_tune 89 = .ok (.goto 5, 3) := by decide +kernel
theorem dX11_tune_92 : decode cX11_tune 92 = .ok (.iload 5, 2) := by decide +kernel
theorem dX11_tune_94 : decode cX11_tune 94 = .ok (.istore 5, 2) := by decide +kernel
theorem dX11_tune_96 : decode cX11_tune 96 = .ok (.iinc 6 1, 3) := by decide +kernel
theorem dX11_tune_99 : decode cX11_tune 99 = .ok (.goto (-58), 3) := by decide +kernel
theorem dX11_tune_102 : decode cX11_tune 102 = .ok (.iload 4, 2) := by decide +kernel
theorem dX11_tune_104 : decode cX11_tune 104 = .ok (.ireturn, 1) := by decide +kernel
theorem dX11_of_0 : decode cX11_of 0 = .ok (.aload_n 0, 1) := by decide +kernel
theorem dX11_of_1 : decode cX11_of 1 = .ok (.getfield 55, 3) := by decide +kernel
theorem dX11_of_4 : decode cX11_of 4 = .ok (.sipush 298, 3) := by decide +kernel
theorem dX11_of_7 : decode cX11_of 7 = .ok (.aload_n 0, 1) := by decide +kernel
theorem dX11_of_8 : decode cX11_of 8 = .ok (.getfield 143, 3) := by decide +kernel
theorem dX11_of_11 : decode cX11_of 11 = .ok (.imul, 1) := by decide +kernel
theorem dX11_of_12 : decode cX11_of 12 = .ok (.iload_n 1, 1) := by decide +kernel
theorem dX11_of_13 : decode cX11_of 13 = .ok (.iadd, 1) := by decide +kernel
theorem dX11_of_14 : decode cX11_of 14 = .ok (.iaload, 1) := by decide +kernel
theorem dX11_of_15 : decode cX11_of 15 = .ok (.ireturn, 1) := by decide +kernel
theorem dX11_lay_0 : decode cX11_lay 0 = .ok (.aload_n 0, 1) := by decide +kernel
theorem dX11_lay_1 : decode cX11_lay 1 = .ok (.getfield 55, 3) := by decide +kernel
theorem dX11_lay_4 : decode cX11_lay 4 = .ok (.sipush 298, 3) := by decide +kernel
theorem dX11_lay_7 : decode cX11_lay 7 = .ok (.aload_n 0, 1) := by decide +kernel
theorem dX11_lay_8 : decode cX11_lay 8 = .ok (.getfield 143, 3) := by decide +kernel
theorem dX11_lay_11 : decode cX11_lay 11 = .ok (.imul, 1) := by decide +kernel
theorem dX11_lay_12 : decode cX11_lay 12 = .ok (.iload_n 1, 1) := by decide +kernel
theorem dX11_lay_13 : decode cX11_lay 13 = .ok (.iadd, 1) := by decide +kernel
theorem dX11_lay_14 : decode cX11_lay 14 = .ok (.iload_n 2, 1) := by decide +kernel
theorem dX11_lay_15 : decode cX11_lay 15 = .ok (.iastore, 1) := by decide +kernel
theorem dX11_lay_16 : decode cX11_lay 16 = .ok (.return_, 1) := by decide +kernel
theorem dX11_at_0 : decode cX11_at 0 = .ok (.aload_n 0, 1) := by decide +kernel
theorem dX11_at_1 : decode cX11_at 1 = .ok (.bipush 73, 2) := by decide +kernel
theorem dX11_at_3 : decode cX11_at 3 = .ok (.iload_n 1, 1) := by decide +kernel
theorem dX11_at_4 : decode cX11_at 4 = .ok (.imul, 1) := by decide +kernel
theorem dX11_at_5 : decode cX11_at 5 = .ok (.iload_n 2, 1) := by decide +kernel
theorem dX11_at_6 : decode cX11_at 6 = .ok (.iadd, 1) := by decide +kernel
theorem dX11_at_7 : decode cX11_at 7 = .ok (.invokevirtual 340, 3) := by decide +kernel
theorem dX11_at_10 : decode cX11_at 10 = .ok (.ireturn, 1) := by decide +kernel
theorem dX11_put_0 : decode cX11_put 0 = .ok (.aload_n 0, 1) := by decide +kernel
theorem dX11_put_1 : decode cX11_put 1 = .ok (.bipush 73, 2) := by decide +kernel
theorem dX11_put_3 : decode cX11_put 3 = .ok (.iload_n 1, 1) := by decide +kernel
theorem dX11_put_4 : decode cX11_put 4 = .ok (.imul, 1) := by decide +kernel
theorem dX11_put_5 : decode cX11_put 5 = .ok (.iload_n 2, 1) := by decide +kernel
theorem dX11_put_6 : decode cX11_put 6 = .ok (.iadd, 1) := by decide +kernel
theorem dX11_put_7 : decode cX11_put 7 = .ok (.iload_n 3, 1) := by decide +kernel
theorem dX11_put_8 : decode cX11_put 8 = .ok (.invokevirtual 153, 3) := by decide +kernel
theorem dX11_put_11 : decode cX11_put 11 = .ok (.return_, 1) := by decide +kernel
theorem dX11_copyBank_0 : decode cX11_copyBank 0 = .ok (.iconst 0, 1) := by decide +kernel
theorem dX11_copyBank_1 : decode cX11_copyBank 1 = .ok (.istore_n 3, 1) := by decide +kernel
theorem dX11_copyBank_2 : decode cX11_copyBank 2 = .ok (.iload_n 3, 1) := by decide +kernel
theorem dX11_copyBank_3 : decode cX11_copyBank 3 = .ok (.sipush 298, 3) := by decide +kernel
theorem dX11_copyBank_6 : decode cX11_copyBank 6 = .ok (.if_icmp .ge 33, 3) := by decide +kernel
theorem dX11_copyBank_9 : decode cX11_copyBank 9 = .ok (.aload_n 0, 1) := by decide +kernel
theorem dX11_copyBank_10 : decode cX11_copyBank 10 = .ok (.getfield 55, 3) := by decide +kernel
theorem dX11_copyBank_13 : decode cX11_copyBank 13 = .ok (.sipush 298, 3) := by decide +kernel
theorem dX11_copyBank_16 : decode cX11_copyBank 16 = .ok (.iload_n 2, 1) := by decide +kernel
theorem dX11_copyBank_17 : decode cX11_copyBank 17 = .ok (.imul, 1) := by decide +kernel
theorem dX11_copyBank_18 : decode cX11_copyBank 18 = .ok (.iload_n 3, 1) := by decide +kernel
theorem dX11_copyBank_19 : decode cX11_copyBank 19 = .ok (.iadd, 1) := by decide +kernel
theorem dX11_copyBank_20 : decode cX11_copyBank 20 = .ok (.aload_n 0, 1) := by decide +kernel
theorem dX11_copyBank_21 : decode cX11_copyBank 21 = .ok (.getfield 55, 3) := by decide +kernel
theorem dX11_copyBank_24 : decode cX11_copyBank 24 = .ok (.sipush 298, 3) := by decide +kernel
theorem dX11_copyBank_27 : decode cX11_copyBank 27 = .ok (.iload_n 1, 1) := by decide +kernel
theorem dX11_copyBank_28 : decode cX11_copyBank 28 = .ok (.imul, 1) := by decide +kernel
theorem dX11_copyBank_29 : decode cX11_copyBank 29 = .ok (.iload_n 3, 1) := by decide +kernel
theorem dX11_copyBank_30 : decode cX11_copyBank 30 = .ok (.iadd, 1) := by decide +kernel
theorem dX11_copyBank_31 : decode cX11_copyBank 31 = .ok (.iaload, 1) := by decide +kernel
theorem dX11_copyBank_32 : decode cX11_copyBank 32 = .ok (.iastore, 1) := by decide +kernel
theorem dX11_copyBank_33 : decode cX11_copyBank 33 = .ok (.iinc 3 1, 3) := by decide +kernel
theorem dX11_copyBank_36 : decode cX11_copyBank 36 = .ok (.goto (-34), 3) := by decide +kernel
theorem dX11_copyBank_39 : decode cX11_copyBank 39 = .ok (.return_, 1) := by decide +kernel
theorem dX11_canUndo_0 : decode cX11_canUndo 0 = .ok (.aload_n 0, 1) := by decide +kernel
theorem dX11_canUndo_1 : decode cX11_canUndo 1 = .ok (.getfield 146, 3) := by decide +kernel
theorem dX11_canUndo_4 : decode cX11_canUndo 4 = .ok (.bipush 10, 2) := by decide +kernel
theorem dX11_canUndo_6 : decode cX11_canUndo 6 = .ok (.if_icmp .ne 33, 3) := by decide +kernel
theorem dX11_canUndo_9 : decode cX11_canUndo 9 = .ok (.iconst 1, 1) := by decide +kernel
theorem dX11_canUndo_10 : decode cX11_canUndo 10 = .ok (.istore_n 1, 1) := by decide +kernel
theorem dX11_canUndo_11 : decode cX11_canUndo 11 = .ok (.iload_n 1, 1) := by decide +kernel
theorem dX11_canUndo_12 : decode cX11_canUndo 12 = .ok (.bipush 10, 2) := by decide +kernel
theorem dX11_canUndo_14 : decode cX11_canUndo 14 = .ok (.if_icmp .ge 19, 3) := by decide +kernel
theorem dX11_canUndo_17 : decode cX11_canUndo 17 = .ok (.aload_n 0, 1) := by decide +kernel
theorem dX11_canUndo_18 : decode cX11_canUndo 18 = .ok (.iconst 3, 1) := by decide +kernel
theorem dX11_canUndo_19 : decode cX11_canUndo 19 = .ok (.iload_n 1, 1) := by decide +kernel
theorem dX11_canUndo_20 : decode cX11_canUndo 20 = .ok (.iadd, 1) := by decide +kernel
theorem dX11_canUndo_21 : decode cX11_canUndo 21 = .ok (.iconst 2, 1) := by decide +kernel
theorem dX11_canUndo_22 : decode cX11_canUndo 22 = .ok (.iload_n 1, 1) := by decide +kernel
theorem dX11_canUndo_23 : decode cX11_canUndo 23 = .ok (.iadd, 1) := by decide +kernel
theorem dX11_canUndo_24 : decode cX11_canUndo 24 = .ok (.invokevirtual 343, 3) := by decide +kernel
theorem dX11_canUndo_27 : decode cX11_canUndo 27 = .ok (.iinc 1 1, 3) := by decide +kernel
theorem dX11_canUndo_30 : decode cX11_canUndo 30 = .ok (.goto (-19), 3) := by decide +kernel
theorem dX11_canUndo_33 : decode cX11_canUndo 33 = .ok (.aload_n 0, 1) := by decide +kernel
theorem dX11_canUndo_34 : decode cX11_canUndo 34 = .ok (.bipush 9, 2) := by decide +kernel
theorem dX11_canUndo_36 : decode cX11_canUndo 36 = .ok (.putfield 146, 3) := by decide +kernel
theorem dX11_canUndo_39 : decode cX11_canUndo 39 = .ok (.aload_n 0, 1) := by decide +kernel
theorem dX11_canUndo_40 : decode cX11_canUndo 40 = .ok (.iconst 0, 1) := by decide +kernel
theorem dX11_canUndo_41 : decode cX11_canUndo 41 = .ok (.iconst 3, 1) := by decide +kernel
theorem dX11_canUndo_42 : decode cX11_canUndo 42 = .ok (.aload_n 0, 1) := by decide +kernel
theorem dX11_canUndo_43 : decode cX11_canUndo 43 = .ok (.getfield 146, 3) := by decide +kernel
theorem dX11_canUndo_46 : decode cX11_canUndo 46 = .ok (.iadd, 1) := by decide +kernel
theorem dX11_canUndo_47 : decode cX11_canUndo 47 = .ok (.invokevirtual 343, 3) := by decide +kernel
theorem dX11_canUndo_50 : decode cX11_canUndo 50 = .ok (.aload_n 0, 1) := by decide +kernel
theorem dX11_canUndo_51 : decode cX11_canUndo 51 = .ok (.dup, 1) := by decide +kernel
theorem dX11_canUndo_52 : decode cX11_canUndo 52 = .ok (.getfield 146, 3) := by decide +kernel
theorem dX11_canUndo_55 : decode cX11_canUndo 55 = .ok (.iconst 1, 1) := by decide +kernel
theorem dX11_canUndo_56 : decode cX11_canUndo 56 = .ok (.iadd, 1) := by decide +kernel
theorem dX11_canUndo_57 : decode cX11_canUndo 57 = .ok (.putfield 146, 3) := by decide +kernel
theorem dX11_canUndo_60 : decode cX11_canUndo 60 = .ok (.return_, 1) := by decide +kernel
theorem dX11_undo_0 : decode cX11_undo 0 = .ok (.aload_n 0, 1) := by decide +kernel
theorem dX11_undo_1 : decode cX11_undo 1 = .ok (.iconst 0, 1) := by decide +kernel
theorem dX11_undo_2 : decode cX11_undo 2 = .ok (.putfield 76, 3) := by decide +kernel
theorem dX11_undo_5 : decode cX11_undo 5 = .ok (.aload_n 0, 1) := by decide +kernel
theorem dX11_undo_6 : decode cX11_undo 6 = .ok (.getfield 146, 3) := by decide +kernel
theorem dX11_undo_9 : decode cX11_undo 9 = .ok (.ifCond .ne 5, 3) := by decide +kernel
theorem dX11_undo_12 : decode cX11_undo 12 = .ok (.iconst (-1), 1) := by decide +kernel
theorem dX11_undo_13 : decode cX11_undo 13 = .ok (.ireturn, 1) := by decide +kernel
theorem dX11_undo_14 : decode cX11_undo 14 = .ok (.aload_n 0, 1) := by decide +kernel
theorem dX11_undo_15 : decode cX11_undo 15 = .ok (.dup, 1) := by decide +kernel
theorem dX11_undo_16 : decode cX11_undo 16 = .ok (.getfield 146, 3) := by decide +kernel
theorem dX11_undo_19 : decode cX11_undo 19 = .ok (.iconst 1, 1) := by decide +kernel
theorem dX11_undo_20 : decode cX11_undo 20 = .ok (.isub, 1) := by decide +kernel
theorem dX11_undo_21 : decode cX11_undo 21 = .ok (.putfield 146, 3) := by decide +kernel
theorem dX11_undo_24 : decode cX11_undo 24 = .ok (.aload_n 0, 1) := by decide +kernel
theorem dX11_undo_25 : decode cX11_undo 25 = .ok (.iconst 3, 1) := by decide +kernel
theorem dX11_undo_26 : decode cX11_undo 26 = .ok (.aload_n 0, 1) := by decide +kernel
theorem dX11_undo_27 : decode cX11_undo 27 = .ok (.getfield 146, 3) := by decide +kernel
theorem dX11_undo_30 : decode cX11_undo 30 = .ok (.iadd, 1) := by decide +kernel
theorem dX11_undo_31 : decode cX11_undo 31 = .ok (.iconst 0, 1) := by decide +kernel
theorem dX11_undo_32 : decode cX11_undo 32 = .ok (.invokevirtual 343, 3) := by decide +kernel
theorem dX11_undo_35 : decode cX11_undo 35 = .ok (.aload_n 0, 1) := by decide +kernel
theorem dX11_undo_36 : decode cX11_undo 36 = .ok (.getfield 146, 3) := by decide +kernel
theorem dX11_undo_39 : decode cX11_undo 39 = .ok (.ireturn, 1) := by decide +kernel
theorem dX11_keep_0 : decode cX11_keep 0 = .ok (.aload_n 0, 1) := by decide +kernel
theorem dX11_keep_1 : decode cX11_keep 1 = .ok (.iconst 0, 1) := by decide +kernel
theorem dX11_keep_2 : decode cX11_keep 2 = .ok (.putfield 76, 3) := by decide +kernel
theorem dX11_keep_5 : decode cX11_keep 5 = .ok (.aload_n 0, 1) := by decide +kernel
theorem dX11_keep_6 : decode cX11_keep 6 = .ok (.iconst 0, 1) := by decide +kernel
theorem dX11_keep_7 : decode cX11_keep 7 = .ok (.iconst 2, 1) := by decide +kernel
theorem dX11_keep_8 : decode cX11_keep 8 = .ok (.invokevirtual 343, 3) := by decide +kernel
theorem dX11_keep_11 : decode cX11_keep 11 = .ok (.aload_n 0, 1) := by decide +kernel
theorem dX11_keep_12 : decode cX11_keep 12 = .ok (.iconst 1, 1) := by decide +kernel
theorem dX11_keep_13 : decode cX11_keep 13 = .ok (.putfield 149, 3) := by decide +kernel
theorem dX11_keep_16 : decode cX11_keep 16 = .ok (.aload_n 0, 1) := by decide +kernel
theorem dX11_keep_17 : decode cX11_keep 17 = .ok (.sipush 292, 3) := by decide +kernel
theorem dX11_keep_20 : decode cX11_keep 20 = .ok (.invokevirtual 340, 3) := by decide +kernel
theorem dX11_keep_23 : decode cX11_keep 23 = .ok (.ireturn, 1) := by decide +kernel
theorem dX11_back_0 : decode cX11_back 0 = .ok (.aload_n 0, 1) := by decide +kernel
theorem dX11_back_1 : decode cX11_back 1 = .ok (.iconst 0, 1) := by decide +kernel
theorem dX11_back_2 : decode cX11_back 2 = .ok (.putfield 76, 3) := by decide +kernel
theorem dX11_back_5 : decode cX11_back 5 = .ok (.aload_n 0, 1) := by decide +kernel
theorem dX11_back_6 : decode cX11_back 6 = .ok (.getfield 149, 3) := by decide +kernel
theorem dX11_back_9 : decode cX11_back 9 = .ok (.ifCond .ne 5, 3) := by decide +kernel
theorem dX11_back_12 : decode cX11_back 12 = .ok (.iconst (-1), 1) := by decide +kernel
theorem dX11_back_13 : decode cX11_back 13 = .ok (.ireturn, 1) := by decide +kernel
theorem dX11_back_14 : decode cX11_back 14 = .ok (.aload_n 0, 1) := by decide +kernel
theorem dX11_back_15 : decode cX11_back 15 = .ok (.iconst 2, 1) := by decide +kernel
theorem dX11_back_16 : decode cX11_back 16 = .ok (.iconst 0, 1) := by decide +kernel
theorem dX11_back_17 : decode cX11_back 17 = .ok (.invokevirtual 343, 3) := by decide +kernel
theorem dX11_back_20 : decode cX11_back 20 = .ok (.aload_n 0, 1) := by decide +kernel
theorem dX11_back_21 : decode cX11_back 21 = .ok (.iconst 0, 1) := by decide +kernel
theorem dX11_back_22 : decode cX11_back 22 = .ok (.putfield 146, 3) := by decide +kernel
theorem dX11_back_25 : decode cX11_back 25 = .ok (.aload_n 0, 1) := by decide +kernel
theorem dX11_back_26 : decode cX11_back 26 = .ok (.sipush 292, 3) := by decide +kernel
theorem dX11_back_29 : decode cX11_back 29 = .ok (.invokevirtual 340, 3) := by decide +kernel
theorem dX11_back_32 : decode cX11_back 32 = .ok (.ireturn, 1) := by decide +kernel
theorem dX11_isChannel_0 : decode cX11_isChannel 0 = .ok (.iload_n 1, 1) := by decide +kernel
theorem dX11_isChannel_1 : decode cX11_isChannel 1 = .ok (.ifCond .lt 18, 3) := by decide +kernel
theorem dX11_isChannel_4 : decode cX11_isChannel 4 = .ok (.iload_n 1, 1) := by decide +kernel
theorem dX11_isChannel_5 : decode cX11_isChannel 5 = .ok (.aload_n 0, 1) := by decide +kernel
theorem dX11_isChannel_6 : decode cX11_isChannel 6 = .ok (.sipush 292, 3) := by decide +kernel
theorem dX11_isChannel_9 : decode cX11_isChannel 9 = .ok (.invokevirtual 340, 3) := by decide +kernel
theorem dX11_isChannel_12 : decode cX11_isChannel 12 = .ok (.if_icmp .ge 7, 3) := by decide +kernel
theorem dX11_isChannel_15 : decode cX11_isChannel 15 = .ok (.iconst 1, 1) := by decide +kernel
theorem dX11_isChannel_16 : decode cX11_isChannel 16 = .ok (.goto 4, 3) := by decide +kernel
theorem dX11_isChannel_19 : decode cX11_isChannel 19 = .ok (.iconst 0, 1) := by decide +kernel
theorem dX11_isChannel_20 : decode cX11_isChannel 20 = .ok (.ireturn, 1) := by decide +kernel
theorem dX11_lock_0 : decode cX11_lock 0 = .ok (.aload_n 0, 1) := by decide +kernel
theorem dX11_lock_1 : decode cX11_lock 1 = .ok (.iconst 0, 1) := by decide +kernel
theorem dX11_lock_2 : decode cX11_lock 2 = .ok (.putfield 76, 3) := by decide +kernel
theorem dX11_lock_5 : decode cX11_lock 5 = .ok (.aload_n 0, 1) := by decide +kernel
theorem dX11_lock_6 : decode cX11_lock 6 = .ok (.iload_n 1, 1) := by decide +kernel
theorem dX11_lock_7 : decode cX11_lock 7 = .ok (.invokevirtual 216, 3) := by decide +kernel
theorem dX11_lock_10 : decode cX11_lock 10 = .ok (.ifCond .eq 14, 3) := by decide +kernel
theorem dX11_lock_13 : decode cX11_lock 13 = .ok (.iload_n 2, 1) := by decide +kernel
theorem dX11_lock_14 : decode cX11_lock 14 = .ok (.iconst 0, 1) := by decide +kernel
theorem dX11_lock_15 : decode cX11_lock 15 = .ok (.sipush 198, 3) := by decide +kernel
theorem dX11_lock_18 : decode cX11_lock 18 = .ok (.invokestatic 166, 3) := by decide +kernel
theorem dX11_lock_21 : decode cX11_lock 21 = .ok (.ifCond .ne 5, 3) := by decide +kernel
theorem dX11_lock_24 : decode cX11_lock 24 = .ok (.iconst (-1), 1) := by decide +kernel
theorem dX11_lock_25 : decode cX11_lock 25 = .ok (.ireturn, 1) := by decide +kernel
theorem dX11_lock_26 : decode cX11_lock 26 = .ok (.aload_n 0, 1) := by decide +kernel
theorem dX11_lock_27 : decode cX11_lock 27 = .ok (.iload_n 1, 1) := by decide +kernel
theorem dX11_lock_28 : decode cX11_lock 28 = .ok (.iload_n 2, 1) := by decide +kernel
theorem dX11_lock_29 : decode cX11_lock 29 = .ok (.iconst 1, 1) := by decide +kernel
theorem dX11_lock_30 : decode cX11_lock 30 = .ok (.invokevirtual 326, 3) := by decide +kernel
theorem dX11_lock_33 : decode cX11_lock 33 = .ok (.aload_n 0, 1) := by decide +kernel
theorem dX11_lock_34 : decode cX11_lock 34 = .ok (.invokevirtual 329, 3) := by decide +kernel
theorem dX11_lock_37 : decode cX11_lock 37 = .ok (.ifCond .ne 6, 3) := by decide +kernel
theorem dX11_lock_40 : decode cX11_lock 40 = .ok (.bipush (-2), 2) := by decide +kernel
theorem dX11_lock_42 : decode cX11_lock 42 = .ok (.ireturn, 1) := by decide +kernel
theorem dX11_lock_43 : decode cX11_lock 43 = .ok (.aload_n 0, 1) := by decide +kernel
theorem dX11_lock_44 : decode cX11_lock 44 = .ok (.sipush 292, 3) := by decide +kernel
theorem dX11_lock_47 : decode cX11_lock 47 = .ok (.invokevirtual 340, 3) := by decide +kernel
theorem dX11_lock_50 : decode cX11_lock 50 = .ok (.istore_n 3, 1) := by decide +kernel
theorem dX11_lock_51 : decode cX11_lock 51 = .ok (.iload_n 3, 1) := by decide +kernel
theorem dX11_lock_52 : decode cX11_lock 52 = .ok (.iconst 4, 1) := by decide +kernel
theorem dX11_lock_53 : decode cX11_lock 53 = .ok (.if_icmp .ne 6, 3) := by decide +kernel
theorem dX11_lock_56 : decode cX11_lock 56 = .ok (.bipush (-3), 2) := by decide +kernel
theorem dX11_lock_58 : decode cX11_lock 58 = .ok (.ireturn, 1) := by decide +kernel
theorem dX11_lock_59 : decode cX11_lock 59 = .ok (.aload_n 0, 1) := by decide +kernel
theorem dX11_lock_60 : decode cX11_lock 60 = .ok (.invokevirtual 346, 3) := by decide +kernel
theorem dX11_lock_63 : decode cX11_lock 63 = .ok (.iconst 0, 1) := by decide +kernel
theorem dX11_lock_64 : decode cX11_lock 64 = .ok (.istore 4, 2) := by decide +kernel
theorem dX11_lock_66 : decode cX11_lock 66 = .ok (.iload 4, 2) := by decide +kernel
theorem dX11_lock_68 : decode cX11_lock 68 = .ok (.bipush 73, 2) := by decide +kernel
theorem dX11_lock_70 : decode cX11_lock 70 = .ok (.if_icmp .ge 17, 3) := by decide +kernel
theorem dX11_lock_73 : decode cX11_lock 73 = .ok (.aload_n 0, 1) := by decide +kernel
theorem dX11_lock_74 : decode cX11_lock 74 = .ok (.iload_n 3, 1) := by decide +kernel
theorem dX11_lock_75 : decode cX11_lock 75 = .ok (.iload 4, 2) := by decide +kernel
theorem dX11_lock_77 : decode cX11_lock 77 = .ok (.iconst 0, 1) := by decide +kernel
theorem dX11_lock_78 : decode cX11_lock 78 = .ok (.invokevirtual 349, 3) := by decide +kernel
theorem dX11_lock_81 : decode cX11_lock 81 = .ok (.iinc 4 1, 3) := by decide +kernel
theorem dX11_lock_84 : decode cX11_lock 84 = .ok (.goto (-18), 3) := by decide +kernel
theorem dX11_lock_87 : decode cX11_lock 87 = .ok (.aload_n 0, 1) := by decide +kernel
theorem dX11_lock_88 : decode cX11_lock 88 = .ok (.iload_n 3, 1) := by decide +kernel
theorem dX11_lock_89 : decode cX11_lock 89 = .ok (.iconst 0, 1) := by decide +kernel
theorem dX11_lock_90 : decode cX11_lock 90 = .ok (.iload_n 1, 1) := by decide +kernel
theorem dX11_lock_91 : decode cX11_lock 91 = .ok (.invokevirtual 349, 3) := by decide +kernel
theorem dX11_lock_94 : decode cX11_lock 94 = .ok (.aload_n 0, 1) := by decide +kernel
theorem dX11_lock_95 : decode cX11_lock 95 = .ok (.iload_n 3, 1) := by decide +kernel
theorem dX11_lock_96 : decode cX11_lock 96 = .ok (.iconst 1, 1) := by decide +kernel
theorem dX11_lock_97 : decode cX11_lock 97 = .ok (.iconst 4, 1) := by decide +kernel
theorem dX11_lock_98 : decode cX11_lock 98 = .ok (.aload_n 0, 1) := by decide +kernel
theorem dX11_lock_99 : decode cX11_lock 99 = .ok (.getfield 311, 3) := by decide +kernel
theorem dX11_lock_102 : decode cX11_lock 102 = .ok (.bipush 62, 2) := by decide +kernel
theorem dX11_lock_104 : decode cX11_lock 104 = .ok (.irem, 1) := by decide +kernel
theorem dX11_lock_105 : decode cX11_lock 105 = .ok (.imul, 1) := by decide +kernel
theorem dX11_lock_106 : decode cX11_lock 106 = .ok (.invokevirtual 349, 3) := by decide +kernel
theorem dX11_lock_109 : decode cX11_lock 109 = .ok (.aload_n 0, 1) := by decide +kernel
theorem dX11_lock_110 : decode cX11_lock 110 = .ok (.iload_n 3, 1) := by decide +kernel
theorem dX11_lock_111 : decode cX11_lock 111 = .ok (.iconst 2, 1) := by decide +kernel
theorem dX11_lock_112 : decode cX11_lock 112 = .ok (.aload_n 0, 1) := by decide +kernel
theorem dX11_lock_113 : decode cX11_lock 113 = .ok (.getfield 311, 3) := by decide +kernel
theorem dX11_lock_116 : decode cX11_lock 116 = .ok (.bipush 62, 2) := by decide +kernel
theorem dX11_lock_118 : decode cX11_lock 118 = .ok (.idiv, 1) := by decide +kernel
theorem dX11_lock_119 : decode cX11_lock 119 = .ok (.invokevirtual 349, 3) := by decide +kernel
theorem dX11_lock_122 : decode cX11_lock 122 = .ok (.aload_n 0, 1) := by decide +kernel
theorem dX11_lock_123 : decode cX11_lock 123 = .ok (.iload_n 3, 1) := by decide +kernel
theorem dX11_lock_124 : decode cX11_lock 124 = .ok (.iconst 4, 1) := by decide +kernel
theorem dX11_lock_125 : decode cX11_lock 125 = .ok (.aload_n 0, 1) := by decide +kernel
theorem dX11_lock_126 : decode cX11_lock 126 = .ok (.getfield 51, 3) := by decide +kernel
theorem dX11_lock_129 : decode cX11_lock 129 = .ok (.aload_n 0, 1) := by decide +kernel
theorem dX11_lock_130 : decode cX11_lock 130 = .ok (.getfield 311, 3) := by decide +kernel
theorem dX11_lock_133 : decode cX11_lock 133 = .ok (.laload, 1) := by decide +kernel
theorem dX11_lock_134 : decode cX11_lock 134 = .ok (.l2i, 1) := by decide +kernel
theorem dX11_lock_135 : decode cX11_lock 135 = .ok (.invokevirtual 349, 3) := by decide +kernel
theorem dX11_lock_138 : decode cX11_lock 138 = .ok (.aload_n 0, 1) := by decide +kernel
theorem dX11_lock_139 : decode cX11_lock 139 = .ok (.iload_n 3, 1) := by decide +kernel
theorem dX11_lock_140 : decode cX11_lock 140 = .ok (.iconst 5, 1) := by decide +kernel
theorem dX11_lock_141 : decode cX11_lock 141 = .ok (.iload_n 2, 1) := by decide +kernel
theorem dX11_lock_142 : decode cX11_lock 142 = .ok (.iconst 1, 1) := by decide +kernel
theorem dX11_lock_143 : decode cX11_lock 143 = .ok (.iadd, 1) := by decide +kernel
theorem dX11_lock_144 : decode cX11_lock 144 = .ok (.invokevirtual 349, 3) := by decide +kernel
theorem dX11_lock_147 : decode cX11_lock 147 = .ok (.aload_n 0, 1) := by decide +kernel
theorem dX11_lock_148 : decode cX11_lock 148 = .ok (.sipush 292, 3) := by decide +kernel
theorem dX11_lock_151 : decode cX11_lock 151 = .ok (.iload_n 3, 1) := by decide +kernel
theorem dX11_lock_152 : decode cX11_lock 152 = .ok (.iconst 1, 1) := by decide +kernel
theorem dX11_lock_153 : decode cX11_lock 153 = .ok (.iadd, 1) := by decide +kernel
theorem dX11_lock_154 : decode cX11_lock 154 = .ok (.invokevirtual 153, 3) := by decide +kernel
theorem dX11_lock_157 : decode cX11_lock 157 = .ok (.iload_n 3, 1) := by decide +kernel
theorem dX11_lock_158 : decode cX11_lock 158 = .ok (.ireturn, 1) := by decide +kernel
theorem dX11_drop_0 : decode cX11_drop 0 = .ok (.aload_n 0, 1) := by decide +kernel
theorem dX11_drop_1 : decode cX11_drop 1 = .ok (.iconst 0, 1) := by decide +kernel
theorem dX11_drop_2 : decode cX11_drop 2 = .ok (.putfield 76, 3) := by decide +kernel
theorem dX11_drop_5 : decode cX11_drop 5 = .ok (.aload_n 0, 1) := by decide +kernel
theorem dX11_drop_6 : decode cX11_drop 6 = .ok (.sipush 292, 3) := by decide +kernel
theorem dX11_drop_9 : decode cX11_drop 9 = .ok (.invokevirtual 340, 3) := by decide +kernel
theorem dX11_drop_12 : decode cX11_drop 12 = .ok (.ifCond .ne 5, 3) := by decide +kernel
theorem dX11_drop_15 : decode cX11_drop 15 = .ok (.iconst (-1), 1) := by decide +kernel
theorem dX11_drop_16 : decode cX11_drop 16 = .ok (.ireturn, 1) := by decide +kernel
theorem dX11_drop_17 : decode cX11_drop 17 = .ok (.aload_n 0, 1) := by decide +kernel
theorem dX11_drop_18 : decode cX11_drop 18 = .ok (.invokevirtual 346, 3) := by decide +kernel
theorem dX11_drop_21 : decode cX11_drop 21 = .ok (.aload_n 0, 1) := by decide +kernel
theorem dX11_drop_22 : decode cX11_drop 22 = .ok (.sipush 292, 3) := by decide +kernel
theorem dX11_drop_25 : decode cX11_drop 25 = .ok (.aload_n 0, 1) := by decide +kernel
theorem dX11_drop_26 : decode cX11_drop 26 = .ok (.sipush 292, 3) := by decide +kernel
theorem dX11_drop_29 : decode cX11_drop 29 = .ok (.invokevirtual 340, 3) := by decide +kernel
theorem dX11_drop_32 : decode cX11_drop 32 = .ok (.iconst 1, 1) := by decide +kernel
theorem dX11_drop_33 : decode cX11_drop 33 = .ok (.isub, 1) := by decide +kernel
theorem dX11_drop_34 : decode cX11_drop 34 = .ok (.invokevirtual 153, 3) := by decide +kernel
theorem dX11_drop_37 : decode cX11_drop 37 = .ok (.aload_n 0, 1) := by decide +kernel
theorem dX11_drop_38 : decode cX11_drop 38 = .ok (.sipush 292, 3) := by decide +kernel
theorem dX11_drop_41 : decode cX11_drop 41 = .ok (.invokevirtual 340, 3) := by decide +kernel
theorem dX11_drop_44 : decode cX11_drop 44 = .ok (.ireturn, 1) := by decide +kernel
theorem dX11_logs_0 : decode cX11_logs 0 = .ok (.aload_n 0, 1) := by decide +kernel
theorem dX11_logs_1 : decode cX11_logs 1 = .ok (.iload_n 1, 1) := by decide +kernel
theorem dX11_logs_2 : decode cX11_logs 2 = .ok (.bipush 8, 2) := by decide +kernel
theorem dX11_logs_4 : decode cX11_logs 4 = .ok (.invokevirtual 352, 3) := by decide +kernel
theorem dX11_logs_7 : decode cX11_logs 7 = .ok (.istore_n 3, 1) := by decide +kernel
theorem dX11_logs_8 : decode cX11_logs 8 = .ok (.iload_n 3, 1) := by decide +kernel
theorem dX11_logs_9 : decode cX11_logs 9 = .ok (.bipush 64, 2) := by decide +kernel
theorem dX11_logs_11 : decode cX11_logs 11 = .ok (.if_icmp .ne 44, 3) := by decide +kernel
theorem dX11_logs_14 : decode cX11_logs 14 = .ok (.iconst 1, 1) := by decide +kernel
theorem dX11_logs_15 : decode cX11_logs 15 = .ok (.istore 4, 2) := by decide +kernel
theorem dX11_logs_17 : decode cX11_logs 17 = .ok (.iload 4, 2) := by decide +kernel
theorem dX11_logs_19 : decode cX11_logs 19 = .ok (.bipush 64, 2) := by decide +kernel
theorem dX11_logs_21 : decode cX11_logs 21 = .ok (.if_icmp .ge 31, 3) := by decide +kernel
theorem dX11_logs_24 : decode cX11_logs 24 = .ok (.aload_n 0, 1) := by decide +kernel
theorem dX11_logs_25 : decode cX11_logs 25 = .ok (.iload_n 1, 1) := by decide +kernel
theorem dX11_logs_26 : decode cX11_logs 26 = .ok (.bipush 9, 2) := by decide +kernel
theorem dX11_logs_28 : decode cX11_logs 28 = .ok (.iload 4, 2) := by decide +kernel
theorem dX11_logs_30 : decode cX11_logs 30 = .ok (.iadd, 1) := by decide +kernel
theorem dX11_logs_31 : decode cX11_logs 31 = .ok (.iconst 1, 1) := by decide +kernel
theorem dX11_logs_32 : decode cX11_logs 32 = .ok (.isub, 1) := by decide +kernel
theorem dX11_logs_33 : decode cX11_logs 33 = .ok (.aload_n 0, 1) := by decide +kernel
theorem dX11_logs_34 : decode cX11_logs 34 = .ok (.iload_n 1, 1) := by decide +kernel
theorem dX11_logs_35 : decode cX11_logs 35 = .ok (.bipush 9, 2) := by decide +kernel
theorem dX11_logs_37 : decode cX11_logs 37 = .ok (.iload 4, 2) := by decide +kernel
theorem dX11_logs_39 : decode cX11_logs 39 = .ok (.iadd, 1) := by decide +kernel
theorem dX11_logs_40 : decode cX11_logs 40 = .ok (.invokevirtual 352, 3) := by decide +kernel
theorem dX11_logs_43 : decode cX11_logs 43 = .ok (.invokevirtual 349, 3) := by decide +kernel
theorem dX11_logs_46 : decode cX11_logs 46 = .ok (.iinc 4 1, 3) := by decide +kernel
theorem dX11_logs_49 : decode cX11_logs 49 = .ok (.goto (-32), 3) := by decide +kernel
theorem dX11_logs_52 : decode cX11_logs 52 = .ok (.bipush 63, 2) := by decide +kernel
theorem dX11_logs_54 : decode cX11_logs 54 = .ok (.istore_n 3, 1) := by decide +kernel
theorem dX11_logs_55 : decode cX11_logs 55 = .ok (.aload_n 0, 1) := by decide +kernel
theorem dX11_logs_56 : decode cX11_logs 56 = .ok (.iload_n 1, 1) := by decide +kernel
theorem dX11_logs_57 : decode cX11_logs 57 = .ok (.bipush 9, 2) := by decide +kernel
theorem dX11_logs_59 : decode cX11_logs 59 = .ok (.iload_n 3, 1) := by decide +kernel
theorem dX11_logs_60 : decode cX11_logs 60 = .ok (.iadd, 1) := by decide +kernel
theorem dX11_logs_61 : decode cX11_logs 61 = .ok (.iload_n 2, 1) := by decide +kernel
theorem dX11_logs_62 : decode cX11_logs 62 = .ok (.invokevirtual 349, 3) := by decide +kernel
theorem dX11_logs_65 : decode cX11_logs 65 = .ok (.aload_n 0, 1) := by decide +kernel
theorem dX11_logs_66 : decode cX11_logs 66 = .ok (.iload_n 1, 1) := by decide +kernel
theorem dX11_logs_67 : decode cX11_logs 67 = .ok (.bipush 8, 2) := by decide +kernel
theorem dX11_logs_69 : decode cX11_logs 69 = .ok (.iload_n 3, 1) := by decide +kernel
theorem dX11_logs_70 : decode cX11_logs 70 = .ok (.iconst 1, 1) := by decide +kernel
theorem dX11_logs_71 : decode cX11_logs 71 = .ok (.iadd, 1) := by decide +kernel
theorem dX11_logs_72 : decode cX11_logs 72 = .ok (.invokevirtual 349, 3) := by decide +kernel
theorem dX11_logs_75 : decode cX11_logs 75 = .ok (.return_, 1) := by decide +kernel
theorem dX11_isFollowed_0 : decode cX11_isFollowed 0 = .ok (.aload_n 0, 1) := by decide +kernel
theorem dX11_isFollowed_1 : decode cX11_isFollowed 1 = .ok (.iload_n 1, 1) := by decide +kernel
theorem dX11_isFollowed_2 : decode cX11_isFollowed 2 = .ok (.iconst 5, 1) := by decide +kernel
theorem dX11_isFollowed_3 : decode cX11_isFollowed 3 = .ok (.invokevirtual 352, 3) := by decide +kernel
theorem dX11_isFollowed_6 : decode cX11_isFollowed 6 = .ok (.istore_n 2, 1) := by decide +kernel
theorem dX11_isFollowed_7 : decode cX11_isFollowed 7 = .ok (.aload_n 0, 1) := by decide +kernel
theorem dX11_isFollowed_8 : decode cX11_isFollowed 8 = .ok (.iload_n 1, 1) := by decide +kernel
theorem dX11_isFollowed_9 : decode cX11_isFollowed 9 = .ok (.bipush 7, 2) := by decide +kernel
theorem dX11_isFollowed_11 : decode cX11_isFollowed 11 = .ok (.invokevirtual 352, 3) := by decide +kernel
theorem dX11_isFollowed_14 : decode cX11_isFollowed 14 = .ok (.ifCond .gt 10, 3) := by decide +kernel
theorem dX11_isFollowed_17 : decode cX11_isFollowed 17 = .ok (.iload_n 2, 1) := by decide +kernel
theorem dX11_isFollowed_18 : decode cX11_isFollowed 18 = .ok (.sipush 200, 3) := by decide +kernel
theorem dX11_isFollowed_21 : decode cX11_isFollowed 21 = .ok (.if_icmp .ne 5, 3) := by decide +kernel
theorem dX11_isFollowed_24 : decode cX11_isFollowed 24 = .ok (.iconst 0, 1) := by decide +kernel
theorem dX11_isFollowed_25 : decode cX11_isFollowed 25 = .ok (.ireturn, 1) := by decide +kernel
theorem dX11_isFollowed_26 : decode cX11_isFollowed 26 = .ok (.aload_n 0, 1) := by decide +kernel
theorem dX11_isFollowed_27 : decode cX11_isFollowed 27 = .ok (.iload_n 2, 1) := by decide +kernel
theorem dX11_isFollowed_28 : decode cX11_isFollowed 28 = .ok (.invokevirtual 289, 3) := by decide +kernel
theorem dX11_isFollowed_31 : decode cX11_isFollowed 31 = .ok (.aload_n 0, 1) := by decide +kernel
theorem dX11_isFollowed_32 : decode cX11_isFollowed 32 = .ok (.iload_n 2, 1) := by decide +kernel
theorem dX11_isFollowed_33 : decode cX11_isFollowed 33 = .ok (.aload_n 0, 1) := by decide +kernel
theorem dX11_isFollowed_34 : decode cX11_isFollowed 34 = .ok (.iload_n 1, 1) := by decide +kernel
theorem dX11_isFollowed_35 : decode cX11_isFollowed 35 = .ok (.iconst 2, 1) := by decide +kernel
theorem dX11_isFollowed_36 : decode cX11_isFollowed 36 = .ok (.invokevirtual 352, 3) := by decide +kernel
theorem dX11_isFollowed_39 : decode cX11_isFollowed 39 = .ok (.aload_n 0, 1) := by decide +kernel
theorem dX11_isFollowed_40 : decode cX11_isFollowed 40 = .ok (.iload_n 1, 1) := by decide +kernel
theorem dX11_isFollowed_41 : decode cX11_isFollowed 41 = .ok (.iconst 3, 1) := by decide +kernel
theorem dX11_isFollowed_42 : decode cX11_isFollowed 42 = .ok (.invokevirtual 352, 3) := by decide +kernel
theorem dX11_isFollowed_45 : decode cX11_isFollowed 45 = .ok (.invokevirtual 299, 3) := by decide +kernel
theorem dX11_isFollowed_48 : decode cX11_isFollowed 48 = .ok (.aload_n 0, 1) := by decide +kernel
theorem dX11_isFollowed_49 : decode cX11_isFollowed 49 = .ok (.iload_n 1, 1) := by decide +kernel
theorem dX11_isFollowed_50 : decode cX11_isFollowed 50 = .ok (.iconst 1, 1) := by decide +kernel
theorem dX11_isFollowed_51 : decode cX11_isFollowed 51 = .ok (.invokevirtual 352, 3) := by decide +kernel
theorem dX11_isFollowed_54 : decode cX11_isFollowed 54 = .ok (.iconst 4, 1) := by decide +kernel
theorem dX11_isFollowed_55 : decode cX11_isFollowed 55 = .ok (.idiv, 1) := by decide +kernel
theorem dX11_isFollowed_56 : decode cX11_isFollowed 56 = .ok (.istore_n 3, 1) := by decide +kernel
theorem dX11_isFollowed_57 : decode cX11_isFollowed 57 = .ok (.aload_n 0, 1) := by decide +kernel
theorem dX11_isFollowed_58 : decode cX11_isFollowed 58 = .ok (.aload_n 0, 1) := by decide +kernel
theorem dX11_isFollowed_59 : decode cX11_isFollowed 59 = .ok (.iload_n 1, 1) := by decide +kernel
theorem dX11_isFollowed_60 : decode cX11_isFollowed 60 = .ok (.iconst 0, 1) := by decide +kernel
theorem dX11_isFollowed_61 : decode cX11_isFollowed 61 = .ok (.invokevirtual 352, 3) := by decide +kernel
theorem dX11_isFollowed_64 : decode cX11_isFollowed 64 = .ok (.iload_n 3, 1) := by decide +kernel
theorem dX11_isFollowed_65 : decode cX11_isFollowed 65 = .ok (.bipush 61, 2) := by decide +kernel
theorem dX11_isFollowed_67 : decode cX11_isFollowed 67 = .ok (.iadd, 1) := by decide +kernel
theorem dX11_isFollowed_68 : decode cX11_isFollowed 68 = .ok (.bipush 62, 2) := by decide +kernel
theorem dX11_isFollowed_70 : decode cX11_isFollowed 70 = .ok (.irem, 1) := by decide +kernel
theorem dX11_isFollowed_71 : decode cX11_isFollowed 71 = .ok (.invokevirtual 302, 3) := by decide +kernel
theorem dX11_isFollowed_74 : decode cX11_isFollowed 74 = .ok (.istore 4, 2) := by decide +kernel
theorem dX11_isFollowed_76 : decode cX11_isFollowed 76 = .ok (.aload_n 0, 1) := by decide +kernel
theorem dX11_isFollowed_77 : decode cX11_isFollowed 77 = .ok (.aload_n 0, 1) := by decide +kernel
theorem dX11_isFollowed_78 : decode cX11_isFollowed 78 = .ok (.iload_n 1, 1) := by decide +kernel
theorem dX11_isFollowed_79 : decode cX11_isFollowed 79 = .ok (.iconst 0, 1) := by decide +kernel
theorem dX11_isFollowed_80 : decode cX11_isFollowed 80 = .ok (.invokevirtual 352, 3) := by decide +kernel
theorem dX11_isFollowed_83 : decode cX11_isFollowed 83 = .ok (.iload_n 3, 1) := by decide +kernel
theorem dX11_isFollowed_84 : decode cX11_isFollowed 84 = .ok (.iconst 1, 1) := by decide +kernel
theorem dX11_isFollowed_85 : decode cX11_isFollowed 85 = .ok (.iadd, 1) := by decide +kernel
theorem dX11_isFollowed_86 : decode cX11_isFollowed 86 = .ok (.bipush 62, 2) := by decide +kernel
theorem dX11_isFollowed_88 : decode cX11_isFollowed 88 = .ok (.irem, 1) := by decide +kernel
theorem dX11_isFollowed_89 : decode cX11_isFollowed 89 = .ok (.invokevirtual 302, 3) := by decide +kernel
theorem dX11_isFollowed_92 : decode cX11_isFollowed 92 = .ok (.istore 5, 2) := by decide +kernel
theorem dX11_isFollowed_94 : decode cX11_isFollowed 94 = .ok (.aload_n 0, 1) := by decide +kernel
theorem dX11_isFollowed_95 : decode cX11_isFollowed 95 = .ok (.aload_n 0, 1) := by decide +kernel
theorem dX11_isFollowed_96 : decode cX11_isFollowed 96 = .ok (.iload_n 1, 1) := by decide +kernel
theorem dX11_isFollowed_97 : decode cX11_isFollowed 97 = .ok (.iconst 0, 1) := by decide +kernel
theorem dX11_isFollowed_98 : decode cX11_isFollowed 98 = .ok (.invokevirtual 352, 3) := by decide +kernel
theorem dX11_isFollowed_101 : decode cX11_isFollowed 101 = .ok (.iload_n 3, 1) := by decide +kernel
theorem dX11_isFollowed_102 : decode cX11_isFollowed 102 = .ok (.invokevirtual 302, 3) := by decide +kernel
theorem dX11_isFollowed_105 : decode cX11_isFollowed 105 = .ok (.istore 6, 2) := by decide +kernel
theorem dX11_isFollowed_107 : decode cX11_isFollowed 107 = .ok (.aload_n 0, 1) := by decide +kernel
theorem dX11_isFollowed_108 : decode cX11_isFollowed 108 = .ok (.getfield 293, 3) := by decide +kernel
theorem dX11_isFollowed_111 : decode cX11_isFollowed 111 = .ok (.istore 7, 2) := by decide +kernel
theorem dX11_isFollowed_113 : decode cX11_isFollowed 113 = .ok (.aload_n 0, 1) := by decide +kernel
theorem dX11_isFollowed_114 : decode cX11_isFollowed 114 = .ok (.getfield 293, 3) := by decide +kernel
theorem dX11_isFollowed_117 : decode cX11_isFollowed 117 = .ok (.ifCond .ge 11, 3) := by decide +kernel
theorem dX11_isFollowed_120 : decode cX11_isFollowed 120 = .ok (.aload_n 0, 1) := by decide +kernel
theorem dX11_isFollowed_121 : decode cX11_isFollowed 121 = .ok (.getfield 296, 3) := by decide +kernel
theorem dX11_isFollowed_124 : decode cX11_isFollowed 124 = .ok (.ineg, 1) := by decide +kernel
theorem dX11_isFollowed_125 : decode cX11_isFollowed 125 = .ok (.goto 7, 3) := by decide +kernel
theorem dX11_isFollowed_128 : decode cX11_isFollowed 128 = .ok (.aload_n 0, 1) := by decide +kernel
theorem dX11_isFollowed_129 : decode cX11_isFollowed 129 = .ok (.getfield 296, 3) := by decide +kernel
theorem dX11_isFollowed_132 : decode cX11_isFollowed 132 = .ok (.istore 8, 2) := by decide +kernel
theorem dX11_isFollowed_134 : decode cX11_isFollowed 134 = .ok (.iload 4, 2) := by decide +kernel
theorem dX11_isFollowed_136 : decode cX11_isFollowed 136 = .ok (.iload 5, 2) := by decide +kernel
theorem dX11_isFollowed_138 : decode cX11_isFollowed 138 = .ok (.if_icmp .eq 34, 3) := by decide +kernel
theorem dX11_isFollowed_141 : decode cX11_isFollowed 141 = .ok (.aload_n 0, 1) := by decide +kernel
theorem dX11_isFollowed_142 : decode cX11_isFollowed 142 = .ok (.iload_n 1, 1) := by decide +kernel
theorem dX11_isFollowed_143 : decode cX11_isFollowed 143 = .ok (.iconst 1, 1) := by decide +kernel
theorem dX11_isFollowed_144 : decode cX11_isFollowed 144 = .ok (.aload_n 0, 1) := by decide +kernel
theorem dX11_isFollowed_145 : decode cX11_isFollowed 145 = .ok (.iload_n 1, 1) := by decide +kernel
theorem dX11_isFollowed_146 : decode cX11_isFollowed 146 = .ok (.iconst 1, 1) := by decide +kernel
theorem dX11_isFollowed_147 : decode cX11_isFollowed 147 = .ok (.invokevirtual 352, 3) := by decide +kernel
theorem dX11_isFollowed_150 : decode cX11_isFollowed 150 = .ok (.iload 4, 2) := by decide +kernel
theorem dX11_isFollowed_152 : decode cX11_isFollowed 152 = .ok (.iload 5, 2) := by decide +kernel
theorem dX11_isFollowed_154 : decode cX11_isFollowed 154 = .ok (.if_icmp .le 9, 3) := by decide +kernel
theorem dX11_isFollowed_157 : decode cX11_isFollowed 157 = .ok (.sipush 247, 3) := by decide +kernel
theorem dX11_isFollowed_160 : decode cX11_isFollowed 160 = .ok (.goto 4, 3) := by decide +kernel
theorem dX11_isFollowed_163 : decode cX11_isFollowed 163 = .ok (.iconst 1, 1) := by decide +kernel
theorem dX11_isFollowed_164 : decode cX11_isFollowed 164 = .ok (.iadd, 1) := by decide +kernel
theorem dX11_isFollowed_165 : decode cX11_isFollowed 165 = .ok (.sipush 248, 3) := by decide +kernel
theorem dX11_isFollowed_168 : decode cX11_isFollowed 168 = .ok (.irem, 1) := by decide +kernel
theorem dX11_isFollowed_169 : decode cX11_isFollowed 169 = .ok (.invokevirtual 349, 3) := by decide +kernel
theorem dX11_isFollowed_172 : decode cX11_isFollowed 172 = .ok (.iload 8, 2) := by decide +kernel
theorem dX11_isFollowed_174 : decode cX11_isFollowed 174 = .ok (.ifCond .ge 11, 3) := by decide +kernel
theorem dX11_isFollowed_177 : decode cX11_isFollowed 177 = .ok (.bipush (-2), 2) := by decide +kernel
theorem dX11_isFollowed_179 : decode cX11_isFollowed 179 = .ok (.iload 8, 2) := by decide +kernel
theorem dX11_isFollowed_181 : decode cX11_isFollowed 181 = .ok (.imul, 1) := by decide +kernel
theorem dX11_isFollowed_182 : decode cX11_isFollowed 182 = .ok (.goto 7, 3) := by decide +kernel
theorem dX11_isFollowed_185 : decode cX11_isFollowed 185 = .ok (.iconst 2, 1) := by decide +kernel
theorem dX11_isFollowed_186 : decode cX11_isFollowed 186 = .ok (.iload 8, 2) := by decide +kernel
theorem dX11_isFollowed_188 : decode cX11_isFollowed 188 = .ok (.imul, 1) := by decide +kernel
theorem dX11_isFollowed_189 : decode cX11_isFollowed 189 = .ok (.istore 9, 2) := by decide +kernel
theorem dX11_isFollowed_191 : decode cX11_isFollowed 191 = .ok (.iload 9, 2) := by decide +kernel
theorem dX11_isFollowed_193 : decode cX11_isFollowed 193 = .ok (.iload 7, 2) := by decide +kernel
theorem dX11_isFollowed_195 : decode cX11_isFollowed 195 = .ok (.ifCond .ge 9, 3) := by decide +kernel
theorem dX11_isFollowed_198 : decode cX11_isFollowed 198 = .ok (.iload 7, 2) := by decide +kernel
theorem dX11_isFollowed_200 : decode cX11_isFollowed 200 = .ok (.ineg, 1) := by decide +kernel
theorem dX11_isFollowed_201 : decode cX11_isFollowed 201 = .ok (.goto 5, 3) := by decide +kernel
theorem dX11_isFollowed_204 : decode cX11_isFollowed 204 = .ok (.iload 7, 2) := by decide +kernel
theorem dX11_isFollowed_206 : decode cX11_isFollowed 206 = .ok (.if_icmp .le 30, 3) := by decide +kernel
theorem dX11_isFollowed_209 : decode cX11_isFollowed 209 = .ok (.aload_n 0, 1) := by decide +kernel
theorem dX11_isFollowed_210 : decode cX11_isFollowed 210 = .ok (.iload_n 1, 1) := by decide +kernel
theorem dX11_isFollowed_211 : decode cX11_isFollowed 211 = .ok (.iconst 3, 1) := by decide +kernel
theorem dX11_isFollowed_212 : decode cX11_isFollowed 212 = .ok (.aload_n 0, 1) := by decide +kernel
theorem dX11_isFollowed_213 : decode cX11_isFollowed 213 = .ok (.iload_n 1, 1) := by decide +kernel
theorem dX11_isFollowed_214 : decode cX11_isFollowed 214 = .ok (.iconst 3, 1) := by decide +kernel
theorem dX11_isFollowed_215 : decode cX11_isFollowed 215 = .ok (.invokevirtual 352, 3) := by decide +kernel
theorem dX11_isFollowed_218 : decode cX11_isFollowed 218 = .ok (.iload 8, 2) := by decide +kernel
theorem dX11_isFollowed_220 : decode cX11_isFollowed 220 = .ok (.ifCond .le 7, 3) := by decide +kernel
theorem dX11_isFollowed_223 : decode cX11_isFollowed 223 = .ok (.iconst 1, 1) := by decide +kernel
theorem dX11_isFollowed_224 : decode cX11_isFollowed 224 = .ok (.goto 5, 3) := by decide +kernel
theorem dX11_isFollowed_227 : decode cX11_isFollowed 227 = .ok (.bipush 15, 2) := by decide +kernel
theorem dX11_isFollowed_229 : decode cX11_isFollowed 229 = .ok (.iadd, 1) := by decide +kernel
theorem dX11_isFollowed_230 : decode cX11_isFollowed 230 = .ok (.bipush 16, 2) := by decide +kernel
theorem dX11_isFollowed_232 : decode cX11_isFollowed 232 = .ok (.irem, 1) := by decide +kernel
theorem dX11_isFollowed_233 : decode cX11_isFollowed 233 = .ok (.invokevirtual 349, 3) := by decide +kernel
theorem dX11_isFollowed_236 : decode cX11_isFollowed 236 = .ok (.aload_n 0, 1) := by decide +kernel
theorem dX11_isFollowed_237 : decode cX11_isFollowed 237 = .ok (.iload_n 1, 1) := by decide +kernel
theorem dX11_isFollowed_238 : decode cX11_isFollowed 238 = .ok (.iload 7, 2) := by decide +kernel
theorem dX11_isFollowed_240 : decode cX11_isFollowed 240 = .ok (.ifCond .ge 7, 3) := by decide +kernel
theorem dX11_isFollowed_243 : decode cX11_isFollowed 243 = .ok (.iconst 1, 1) := by decide +kernel
theorem dX11_isFollowed_244 : decode cX11_isFollowed 244 = .ok (.goto 4, 3) := by decide +kernel
theorem dX11_isFollowed_247 : decode cX11_isFollowed 247 = .ok (.iconst 0, 1) := by decide +kernel
theorem dX11_isFollowed_248 : decode cX11_isFollowed 248 = .ok (.invokevirtual 354, 3) := by decide +kernel
theorem dX11_isFollowed_251 : decode cX11_isFollowed 251 = .ok (.aload_n 0, 1) := by decide +kernel
theorem dX11_isFollowed_252 : decode cX11_isFollowed 252 = .ok (.iload_n 1, 1) := by decide +kernel
theorem dX11_isFollowed_253 : decode cX11_isFollowed 253 = .ok (.bipush 6, 2) := by decide +kernel
theorem dX11_isFollowed_255 : decode cX11_isFollowed 255 = .ok (.ldc2_w 357, 3) := by decide +kernel
theorem dX11_isFollowed_258 : decode cX11_isFollowed 258 = .ok (.iload 6, 2) := by decide +kernel
theorem dX11_isFollowed_260 : decode cX11_isFollowed 260 = .ok (.i2l, 1) := by decide +kernel
theorem dX11_isFollowed_261 : decode cX11_isFollowed 261 = .ok (.lmul, 1) := by decide +kernel
theorem dX11_isFollowed_262 : decode cX11_isFollowed 262 = .ok (.aload_n 0, 1) := by decide +kernel
theorem dX11_isFollowed_263 : decode cX11_isFollowed 263 = .ok (.iload_n 1, 1) := by decide +kernel
theorem dX11_isFollowed_264 : decode cX11_isFollowed 264 = .ok (.iconst 4, 1) := by decide +kernel
theorem dX11_isFollowed_265 : decode cX11_isFollowed 265 = .ok (.invokevirtual 352, 3) := by decide +kernel
theorem dX11_isFollowed_268 : decode cX11_isFollowed 268 = .ok (.i2l, 1) := by decide +kernel
theorem dX11_isFollowed_269 : decode cX11_isFollowed 269 = .ok (.lcmp, 1) := by decide +kernel
theorem dX11_isFollowed_270 : decode cX11_isFollowed 270 = .ok (.ifCond .ge 15, 3) := by decide +kernel
theorem dX11_isFollowed_273 : decode cX11_isFollowed 273 = .ok (.aload_n 0, 1) := by decide +kernel
theorem dX11_isFollowed_274 : decode cX11_isFollowed 274 = .ok (.iload_n 1, 1) := by decide +kernel
theorem dX11_isFollowed_275 : decode cX11_isFollowed 275 = .ok (.bipush 6, 2) := by decide +kernel
theorem dX11_isFollowed_277 : decode cX11_isFollowed 277 = .ok (.invokevirtual 352, 3) := by decide +kernel
theorem dX11_isFollowed_280 : decode cX11_isFollowed 280 = .ok (.iconst 1, 1) := by decide +kernel
theorem dX11_isFollowed_281 : decode cX11_isFollowed 281 = .ok (.iadd, 1) := by decide +kernel
theorem dX11_isFollowed_282 : decode cX11_isFollowed 282 = .ok (.goto 4, 3) := by decide +kernel
theorem dX11_isFollowed_285 : decode cX11_isFollowed 285 = .ok (.iconst 0, 1) := by decide +kernel
theorem dX11_isFollowed_286 : decode cX11_isFollowed 286 = .ok (.invokevirtual 349, 3) := by decide +kernel
theorem dX11_isFollowed_289 : decode cX11_isFollowed 289 = .ok (.aload_n 0, 1) := by decide +kernel
theorem dX11_isFollowed_290 : decode cX11_isFollowed 290 = .ok (.iload_n 1, 1) := by decide +kernel
theorem dX11_isFollowed_291 : decode cX11_isFollowed 291 = .ok (.bipush 6, 2) := by decide +kernel
theorem dX11_isFollowed_293 : decode cX11_isFollowed 293 = .ok (.invokevirtual 352, 3) := by decide +kernel
theorem dX11_isFollowed_296 : decode cX11_isFollowed 296 = .ok (.iconst 3, 1) := by decide +kernel
theorem dX11_isFollowed_297 : decode cX11_isFollowed 297 = .ok (.if_icmp .ne 13, 3) := by decide +kernel
theorem dX11_isFollowed_300 : decode cX11_isFollowed 300 = .ok (.aload_n 0, 1) := by decide +kernel
theorem dX11_isFollowed_301 : decode cX11_isFollowed 301 = .ok (.iload_n 1, 1) := by decide +kernel
theorem dX11_isFollowed_302 : decode cX11_isFollowed 302 = .ok (.bipush 7, 2) := by decide +kernel
theorem dX11_isFollowed_304 : decode cX11_isFollowed 304 = .ok (.iload_n 2, 1) := by decide +kernel
theorem dX11_isFollowed_305 : decode cX11_isFollowed 305 = .ok (.iconst 1, 1) := by decide +kernel
theorem dX11_isFollowed_306 : decode cX11_isFollowed 306 = .ok (.iadd, 1) := by decide +kernel
theorem dX11_isFollowed_307 : decode cX11_isFollowed 307 = .ok (.invokevirtual 349, 3) := by decide +kernel
theorem dX11_isFollowed_310 : decode cX11_isFollowed 310 = .ok (.aload_n 0, 1) := by decide +kernel
theorem dX11_isFollowed_311 : decode cX11_isFollowed 311 = .ok (.iload_n 1, 1) := by decide +kernel
theorem dX11_isFollowed_312 : decode cX11_isFollowed 312 = .ok (.iconst 5, 1) := by decide +kernel
theorem dX11_isFollowed_313 : decode cX11_isFollowed 313 = .ok (.iload_n 2, 1) := by decide +kernel
theorem dX11_isFollowed_314 : decode cX11_isFollowed 314 = .ok (.iconst 1, 1) := by decide +kernel
theorem dX11_isFollowed_315 : decode cX11_isFollowed 315 = .ok (.iadd, 1) := by decide +kernel
theorem dX11_isFollowed_316 : decode cX11_isFollowed 316 = .ok (.invokevirtual 349, 3) := by decide +kernel
theorem dX11_isFollowed_319 : decode cX11_isFollowed 319 = .ok (.iconst 1, 1) := by decide +kernel
theorem dX11_isFollowed_320 : decode cX11_isFollowed 320 = .ok (.ireturn, 1) := by decide +kernel
theorem dX11_followed_0 : decode cX11_followed 0 = .ok (.iconst 0, 1) := by decide +kernel
theorem dX11_followed_1 : decode cX11_followed 1 = .ok (.istore_n 2, 1) := by decide +kernel
theorem dX11_followed_2 : decode cX11_followed 2 = .ok (.iconst 0, 1) := by decide +kernel
theorem dX11_followed_3 : decode cX11_followed 3 = .ok (.istore_n 3, 1) := by decide +kernel
theorem dX11_followed_4 : decode cX11_followed 4 = .ok (.iload_n 3, 1) := by decide +kernel
theorem dX11_followed_5 : decode cX11_followed 5 = .ok (.aload_n 0, 1) := by decide +kernel
theorem dX11_followed_6 : decode cX11_followed 6 = .ok (.sipush 292, 3) := by decide +kernel
theorem dX11_followed_9 : decode cX11_followed 9 = .ok (.invokevirtual 340, 3) := by decide +kernel
theorem dX11_followed_12 : decode cX11_followed 12 = .ok (.if_icmp .ge 40, 3) := by decide +kernel
theorem dX11_followed_15 : decode cX11_followed 15 = .ok (.iconst 0, 1) := by decide +kernel
theorem dX11_followed_16 : decode cX11_followed 16 = .ok (.istore 4, 2) := by decide +kernel
theorem dX11_followed_18 : decode cX11_followed 18 = .ok (.iload 4, 2) := by decide +kernel
theorem dX11_followed_20 : decode cX11_followed 20 = .ok (.iload_n 1, 1) := by decide +kernel
theorem dX11_followed_21 : decode cX11_followed 21 = .ok (.if_icmp .ge 25, 3) := by decide +kernel
theorem dX11_followed_24 : decode cX11_followed 24 = .ok (.iload_n 2, 1) := by decide +kernel
theorem dX11_followed_25 : decode cX11_followed 25 = .ok (.aload_n 0, 1) := by decide +kernel
theorem dX11_followed_26 : decode cX11_followed 26 = .ok (.iload_n 3, 1) := by decide +kernel
theorem dX11_followed_27 : decode cX11_followed 27 = .ok (.invokevirtual 359, 3) := by decide +kernel
theorem dX11_followed_30 : decode cX11_followed 30 = .ok (.ifCond .eq 7, 3) := by decide +kernel
theorem dX11_followed_33 : decode cX11_followed 33 = .ok (.iconst 1, 1) := by decide +kernel
theorem dX11_followed_34 : decode cX11_followed 34 = .ok (.goto 4, 3) := by decide +kernel
theorem dX11_followed_37 : decode cX11_followed 37 = .ok (.iconst 0, 1) := by decide +kernel
theorem dX11_followed_38 : decode cX11_followed 38 = .ok (.iadd, 1) := by decide +kernel
theorem dX11_followed_39 : decode cX11_followed 39 = .ok (.istore_n 2, 1) := by decide +kernel
theorem dX11_followed_40 : decode cX11_followed 40 = .ok (.iinc 4 1, 3) := by decide +kernel
theorem dX11_followed_43 : decode cX11_followed 43 = .ok (.goto (-25), 3) := by decide +kernel
theorem dX11_followed_46 : decode cX11_followed 46 = .ok (.iinc 3 1, 3) := by decide +kernel
theorem dX11_followed_49 : decode cX11_followed 49 = .ok (.goto (-45), 3) := by decide +kernel
theorem dX11_followed_52 : decode cX11_followed 52 = .ok (.iload_n 2, 1) := by decide +kernel
theorem dX11_followed_53 : decode cX11_followed 53 = .ok (.ireturn, 1) := by decide +kernel
theorem dX11_follow_0 : decode cX11_follow 0 = .ok (.aload_n 0, 1) := by decide +kernel
theorem dX11_follow_1 : decode cX11_follow 1 = .ok (.iconst 0, 1) := by decide +kernel
theorem dX11_follow_2 : decode cX11_follow 2 = .ok (.putfield 76, 3) := by decide +kernel
theorem dX11_follow_5 : decode cX11_follow 5 = .ok (.iload_n 1, 1) := by decide +kernel
theorem dX11_follow_6 : decode cX11_follow 6 = .ok (.iconst 1, 1) := by decide +kernel
theorem dX11_follow_7 : decode cX11_follow 7 = .ok (.bipush 64, 2) := by decide +kernel
theorem dX11_follow_9 : decode cX11_follow 9 = .ok (.invokestatic 166, 3) := by decide +kernel
theorem dX11_follow_12 : decode cX11_follow 12 = .ok (.ifCond .ne 5, 3) := by decide +kernel
theorem dX11_follow_15 : decode cX11_follow 15 = .ok (.iconst (-1), 1) := by decide +kernel
theorem dX11_follow_16 : decode cX11_follow 16 = .ok (.ireturn, 1) := by decide +kernel
theorem dX11_follow_17 : decode cX11_follow 17 = .ok (.aload_n 0, 1) := by decide +kernel
theorem dX11_follow_18 : decode cX11_follow 18 = .ok (.invokevirtual 346, 3) := by decide +kernel
theorem dX11_follow_21 : decode cX11_follow 21 = .ok (.aload_n 0, 1) := by decide +kernel
theorem dX11_follow_22 : decode cX11_follow 22 = .ok (.iload_n 1, 1) := by decide +kernel
theorem dX11_follow_23 : decode cX11_follow 23 = .ok (.invokevirtual 362, 3) := by decide +kernel
theorem dX11_follow_26 : decode cX11_follow 26 = .ok (.ireturn, 1) := by decide +kernel
theorem dX11_channel_0 : decode cX11_channel 0 = .ok (.aload_n 0, 1) := by decide +kernel
theorem dX11_channel_1 : decode cX11_channel 1 = .ok (.iconst 0, 1) := by decide +kernel
theorem dX11_channel_2 : decode cX11_channel 2 = .ok (.putfield 76, 3) := by decide +kernel
theorem dX11_channel_5 : decode cX11_channel 5 = .ok (.aload_n 0, 1) := by decide +kernel
theorem dX11_channel_6 : decode cX11_channel 6 = .ok (.iload_n 1, 1) := by decide +kernel
theorem dX11_channel_7 : decode cX11_channel 7 = .ok (.invokevirtual 365, 3) := by decide +kernel
theorem dX11_channel_10 : decode cX11_channel 10 = .ok (.ifCond .eq 13, 3) := by decide +kernel
theorem dX11_channel_13 : decode cX11_channel 13 = .ok (.iload_n 2, 1) := by decide +kernel
theorem dX11_channel_14 : decode cX11_channel 14 = .ok (.iconst 0, 1) := by decide +kernel
theorem dX11_channel_15 : decode cX11_channel 15 = .ok (.bipush 8, 2) := by decide +kernel
theorem dX11_channel_17 : decode cX11_channel 17 = .ok (.invokestatic 166, 3) := by decide +kernel
theorem dX11_channel_20 : decode cX11_channel 20 = .ok (.ifCond .ne 5, 3) := by decide +kernel
theorem dX11_channel_23 : decode cX11_channel 23 = .ok (.iconst (-1), 1) := by decide +kernel
theorem dX11_channel_24 : decode cX11_channel 24 = .ok (.ireturn, 1) := by decide +kernel
theorem dX11_channel_25 : decode cX11_channel 25 = .ok (.iload_n 2, 1) := by decide +kernel
theorem dX11_channel_26 : decode cX11_channel 26 = .ok (.bipush 7, 2) := by decide +kernel
theorem dX11_channel_28 : decode cX11_channel 28 = .ok (.if_icmp .eq 12, 3) := by decide +kernel
theorem dX11_channel_31 : decode cX11_channel 31 = .ok (.aload_n 0, 1) := by decide +kernel
theorem dX11_channel_32 : decode cX11_channel 32 = .ok (.iload_n 1, 1) := by decide +kernel
theorem dX11_channel_33 : decode cX11_channel 33 = .ok (.iload_n 2, 1) := by decide +kernel
theorem dX11_channel_34 : decode cX11_channel 34 = .ok (.invokevirtual 352, 3) := by decide +kernel
theorem dX11_channel_37 : decode cX11_channel 37 = .ok (.goto 27, 3) := by decide +kernel
theorem dX11_channel_40 : decode cX11_channel 40 = .ok (.aload_n 0, 1) := by decide +kernel
theorem dX11_channel_41 : decode cX11_channel 41 = .ok (.iload_n 1, 1) := by decide +kernel
theorem dX11_channel_42 : decode cX11_channel 42 = .ok (.bipush 7, 2) := by decide +kernel
theorem dX11_channel_44 : decode cX11_channel 44 = .ok (.invokevirtual 352, 3) := by decide +kernel
theorem dX11_channel_47 : decode cX11_channel 47 = .ok (.ifCond .ne 8, 3) := by decide +kernel
theorem dX11_channel_50 : decode cX11_channel 50 = .ok (.bipush (-2), 2) := by decide +kernel
theorem dX11_channel_52 : decode cX11_channel 52 = .ok (.goto 12, 3) := by decide +kernel
theorem dX11_channel_55 : decode cX11_channel 55 = .ok (.aload_n 0, 1) := by decide +kernel
theorem dX11_channel_56 : decode cX11_channel 56 = .ok (.iload_n 1, 1) := by decide +kernel
theorem dX11_channel_57 : decode cX11_channel 57 = .ok (.bipush 7, 2) := by decide +kernel
theorem dX11_channel_59 : decode cX11_channel 59 = .ok (.invokevirtual 352, 3) := by decide +kernel
theorem dX11_channel_62 : decode cX11_channel 62 = .ok (.iconst 1, 1) := by decide +kernel
theorem dX11_channel_63 : decode cX11_channel 63 = .ok (.isub, 1) := by decide +kernel
theorem dX11_channel_64 : decode cX11_channel 64 = .ok (.ireturn, 1) := by decide +kernel
theorem dX11_logged_0 : decode cX11_logged 0 = .ok (.aload_n 0, 1) := by decide +kernel
theorem dX11_logged_1 : decode cX11_logged 1 = .ok (.iconst 0, 1) := by decide +kernel
theorem dX11_logged_2 : decode cX11_logged 2 = .ok (.putfield 76, 3) := by decide +kernel
theorem dX11_logged_5 : decode cX11_logged 5 = .ok (.aload_n 0, 1) := by decide +kernel
theorem dX11_logged_6 : decode cX11_logged 6 = .ok (.iload_n 1, 1) := by decide +kernel
theorem dX11_logged_7 : decode cX11_logged 7 = .ok (.invokevirtual 365, 3) := by decide +kernel
theorem dX11_logged_10 : decode cX11_logged 10 = .ok (.ifCond .eq 30, 3) := by decide +kernel
theorem dX11_logged_13 : decode cX11_logged 13 = .ok (.iload_n 2, 1) := by decide +kernel
theorem dX11_logged_14 : decode cX11_logged 14 = .ok (.ifCond .lt 26, 3) := by decide +kernel
theorem dX11_logged_17 : decode cX11_logged 17 = .ok (.iload_n 2, 1) := by decide +kernel
theorem dX11_logged_18 : decode cX11_logged 18 = .ok (.aload_n 0, 1) := by decide +kernel
theorem dX11_logged_19 : decode cX11_logged 19 = .ok (.iload_n 1, 1) := by decide +kernel
theorem dX11_logged_20 : decode cX11_logged 20 = .ok (.bipush 8, 2) := by decide +kernel
theorem dX11_logged_22 : decode cX11_logged 22 = .ok (.invokevirtual 352, 3) := by decide +kernel
theorem dX11_logged_25 : decode cX11_logged 25 = .ok (.if_icmp .ge 15, 3) := by decide +kernel
theorem dX11_logged_28 : decode cX11_logged 28 = .ok (.aload_n 0, 1) := by decide +kernel
theorem dX11_logged_29 : decode cX11_logged 29 = .ok (.iload_n 1, 1) := by decide +kernel
theorem dX11_logged_30 : decode cX11_logged 30 = .ok (.bipush 9, 2) := by decide +kernel
theorem dX11_logged_32 : decode cX11_logged 32 = .ok (.iload_n 2, 1) := by decide +kernel
theorem dX11_logged_33 : decode cX11_logged 33 = .ok (.iadd, 1) := by decide +kernel
theorem dX11_logged_34 : decode cX11_logged 34 = .ok (.invokevirtual 352, 3) := by decide +kernel
theorem dX11_logged_37 : decode cX11_logged 37 = .ok (.goto 4, 3) := by decide +kernel
theorem dX11_logged_40 : decode cX11_logged 40 = .ok (.iconst (-1), 1) := by decide +kernel
theorem dX11_logged_41 : decode cX11_logged 41 = .ok (.ireturn, 1) := by decide +kernel
theorem dX11_sixteen_0 : decode cX11_sixteen 0 = .ok (.iconst 0, 1) := by decide +kernel
theorem dX11_sixteen_1 : decode cX11_sixteen 1 = .ok (.istore_n 3, 1) := by decide +kernel
theorem dX11_sixteen_2 : decode cX11_sixteen 2 = .ok (.iconst 0, 1) := by decide +kernel
theorem dX11_sixteen_3 : decode cX11_sixteen 3 = .ok (.istore 4, 2) := by decide +kernel
theorem dX11_sixteen_5 : decode cX11_sixteen 5 = .ok (.iload 4, 2) := by decide +kernel
theorem dX11_sixteen_7 : decode cX11_sixteen 7 = .ok (.bipush 16, 2) := by decide +kernel
theorem dX11_sixteen_9 : decode cX11_sixteen 9 = .ok (.if_icmp .ge 26, 3) := by decide +kernel
theorem dX11_sixteen_12 : decode cX11_sixteen 12 = .ok (.iload_n 3, 1) := by decide +kernel
theorem dX11_sixteen_13 : decode cX11_sixteen 13 = .ok (.iconst 1, 1) := by decide +kernel
theorem dX11_sixteen_14 : decode cX11_sixteen 14 = .ok (.ishl, 1) := by decide +kernel
theorem dX11_sixteen_15 : decode cX11_sixteen 15 = .ok (.aload_n 0, 1) := by decide +kernel
theorem dX11_sixteen_16 : decode cX11_sixteen 16 = .ok (.iload_n 1, 1) := by decide +kernel
theorem dX11_sixteen_17 : decode cX11_sixteen 17 = .ok (.bipush 9, 2) := by decide +kernel
theorem dX11_sixteen_19 : decode cX11_sixteen 19 = .ok (.iload_n 2, 1) := by decide +kernel
theorem dX11_sixteen_20 : decode cX11_sixteen 20 = .ok (.iadd, 1) := by decide +kernel
theorem dX11_sixteen_21 : decode cX11_sixteen 21 = .ok (.iload 4, 2) := by decide +kernel
theorem dX11_sixteen_23 : decode cX11_sixteen 23 = .ok (.iadd, 1) := by decide +kernel
theorem dX11_sixteen_24 : decode cX11_sixteen 24 = .ok (.invokevirtual 352, 3) := by decide +kernel
theorem dX11_sixteen_27 : decode cX11_sixteen 27 = .ok (.ior, 1) := by decide +kernel
theorem dX11_sixteen_28 : decode cX11_sixteen 28 = .ok (.istore_n 3, 1) := by decide +kernel
theorem dX11_sixteen_29 : decode cX11_sixteen 29 = .ok (.iinc 4 1, 3) := by decide +kernel
theorem dX11_sixteen_32 : decode cX11_sixteen 32 = .ok (.goto (-27), 3) := by decide +kernel
theorem dX11_sixteen_35 : decode cX11_sixteen 35 = .ok (.iload_n 3, 1) := by decide +kernel
theorem dX11_sixteen_36 : decode cX11_sixteen 36 = .ok (.ireturn, 1) := by decide +kernel
theorem dX11_layFrames_0 : decode cX11_layFrames 0 = .ok (.aload_n 0, 1) := by decide +kernel
theorem dX11_layFrames_1 : decode cX11_layFrames 1 = .ok (.iconst 0, 1) := by decide +kernel
theorem dX11_layFrames_2 : decode cX11_layFrames 2 = .ok (.putfield 368, 3) := by decide +kernel
theorem dX11_layFrames_5 : decode cX11_layFrames 5 = .ok (.aload_n 0, 1) := by decide +kernel
theorem dX11_layFrames_6 : decode cX11_layFrames 6 = .ok (.iconst 0, 1) := by decide +kernel
theorem dX11_layFrames_7 : decode cX11_layFrames 7 = .ok (.putfield 371, 3) := by decide +kernel
theorem dX11_layFrames_10 : decode cX11_layFrames 10 = .ok (.iconst 0, 1) := by decide +kernel
theorem dX11_layFrames_11 : decode cX11_layFrames 11 = .ok (.istore_n 2, 1) := by decide +kernel
theorem dX11_layFrames_12 : decode cX11_layFrames 12 = .ok (.iload_n 2, 1) := by decide +kernel
theorem dX11_layFrames_13 : decode cX11_layFrames 13 = .ok (.bipush 16, 2) := by decide +kernel
theorem dX11_layFrames_15 : decode cX11_layFrames 15 = .ok (.iadd, 1) := by decide +kernel
theorem dX11_layFrames_16 : decode cX11_layFrames 16 = .ok (.aload_n 0, 1) := by decide +kernel
theorem dX11_layFrames_17 : decode cX11_layFrames 17 = .ok (.iload_n 1, 1) := by decide +kernel
theorem dX11_layFrames_18 : decode cX11_layFrames 18 = .ok (.bipush 8, 2) := by decide +kernel
theorem dX11_layFrames_20 : decode cX11_layFrames 20 = .ok (.invokevirtual 352, 3) := by decide +kernel
theorem dX11_layFrames_23 : decode cX11_layFrames 23 = .ok (.if_icmp .gt 172, 3) := by decide +kernel
theorem dX11_layFrames_26 : decode cX11_layFrames 26 = .ok (.aload_n 0, 1) := by decide +kernel
theorem dX11_layFrames_27 : decode cX11_layFrames 27 = .ok (.iload_n 1, 1) := by decide +kernel
theorem dX11_layFrames_28 : decode cX11_layFrames 28 = .ok (.iload_n 2, 1) := by decide +kernel
theorem dX11_layFrames_29 : decode cX11_layFrames 29 = .ok (.invokevirtual 374, 3) := by decide +kernel
theorem dX11_layFrames_32 : decode cX11_layFrames 32 = .ok (.istore_n 3, 1) := by decide +kernel
theorem dX11_layFrames_33 : decode cX11_layFrames 33 = .ok (.iload_n 3, 1) := by decide +kernel
theorem dX11_layFrames_34 : decode cX11_layFrames 34 = .ok (.bipush 12, 2) := by decide +kernel
theorem dX11_layFrames_36 : decode cX11_layFrames 36 = .ok (.ishr, 1) := by decide +kernel
theorem dX11_layFrames_37 : decode cX11_layFrames 37 = .ok (.iconst 4, 1) := by decide +kernel
theorem dX11_layFrames_38 : decode cX11_layFrames 38 = .ok (.if_icmp .ne 7, 3) := by decide +kernel
theorem dX11_layFrames_41 : decode cX11_layFrames 41 = .ok (.iconst 1, 1) := by decide +kernel
theorem dX11_layFrames_42 : decode cX11_layFrames 42 = .ok (.goto 4, 3) := by decide +kernel
theorem dX11_layFrames_45 : decode cX11_layFrames 45 = .ok (.iconst 0, 1) := by decide +kernel
theorem dX11_layFrames_46 : decode cX11_layFrames 46 = .ok (.istore 4, 2) := by decide +kernel
theorem dX11_layFrames_48 : decode cX11_layFrames 48 = .ok (.iload 4, 2) := by decide +kernel
theorem dX11_layFrames_50 : decode cX11_layFrames 50 = .ok (.ifCond .eq 11, 3) := by decide +kernel
theorem dX11_layFrames_53 : decode cX11_layFrames 53 = .ok (.ldc_w 377, 3) := by decide +kernel
theorem dX11_layFrames_56 : decode cX11_layFrames 56 = .ok (.iload_n 3, 1) := by decide +kernel
theorem dX11_layFrames_57 : decode cX11_layFrames 57 = .ok (.isub, 1) := by decide +kernel
theorem dX11_layFrames_58 : decode cX11_layFrames 58 = .ok (.goto 4, 3) := by decide +kernel
theorem dX11_layFrames_61 : decode cX11_layFrames 61 = .ok (.iload_n 3, 1) := by decide +kernel
theorem dX11_layFrames_62 : decode cX11_layFrames 62 = .ok (.istore_n 3, 1) := by decide +kernel
theorem dX11_layFrames_63 : decode cX11_layFrames 63 = .ok (.iload_n 3, 1) := by decide +kernel
theorem dX11_layFrames_64 : decode cX11_layFrames 64 = .ok (.bipush 12, 2) := by decide +kernel
theorem dX11_layFrames_66 : decode cX11_layFrames 66 = .ok (.ishr, 1) := by decide +kernel
theorem dX11_layFrames_67 : decode cX11_layFrames 67 = .ok (.bipush 11, 2) := by decide +kernel
theorem dX11_layFrames_69 : decode cX11_layFrames 69 = .ok (.if_icmp .ne 7, 3) := by decide +kernel
theorem dX11_layFrames_72 : decode cX11_layFrames 72 = .ok (.iconst 1, 1) := by decide +kernel
theorem dX11_layFrames_73 : decode cX11_layFrames 73 = .ok (.goto 4, 3) := by decide +kernel
theorem dX11_layFrames_76 : decode cX11_layFrames 76 = .ok (.iconst 0, 1) := by decide +kernel
theorem dX11_layFrames_77 : decode cX11_layFrames 77 = .ok (.istore 5, 2) := by decide +kernel
theorem dX11_layFrames_79 : decode cX11_layFrames 79 = .ok (.iload 5, 2) := by decide +kernel
theorem dX11_layFrames_81 : decode cX11_layFrames 81 = .ok (.ifCond .eq 24, 3) := by decide +kernel
theorem dX11_layFrames_84 : decode cX11_layFrames 84 = .ok (.iload_n 3, 1) := by decide +kernel
theorem dX11_layFrames_85 : decode cX11_layFrames 85 = .ok (.iconst 4, 1) := by decide +kernel
theorem dX11_layFrames_86 : decode cX11_layFrames 86 = .ok (.ishr, 1) := by decide +kernel
theorem dX11_layFrames_87 : decode cX11_layFrames 87 = .ok (.sipush 255, 3) := by decide +kernel
theorem dX11_layFrames_90 : decode cX11_layFrames 90 = .ok (.iand, 1) := by decide +kernel
theorem dX11_layFrames_91 : decode cX11_layFrames 91 = .ok (.invokestatic 240, 3) := by decide +kernel
theorem dX11_layFrames_94 : decode cX11_layFrames 94 = .ok (.iload_n 3, 1) := by decide +kernel
theorem dX11_layFrames_95 : decode cX11_layFrames 95 = .ok (.bipush 15, 2) := by decide +kernel
theorem dX11_layFrames_97 : decode cX11_layFrames 97 = .ok (.iand, 1) := by decide +kernel
theorem dX11_layFrames_98 : decode cX11_layFrames 98 = .ok (.if_icmp .ne 7, 3) := by decide +kernel
theorem dX11_layFrames_101 : decode cX11_layFrames 101 = .ok (.iconst 1, 1) := by decide +kernel
theorem dX11_layFrames_102 : decode cX11_layFrames 102 = .ok (.goto 4, 3) := by decide +kernel
theorem dX11_layFrames_105 : decode cX11_layFrames 105 = .ok (.iconst 0, 1) := by decide +kernel
theorem dX11_layFrames_106 : decode cX11_layFrames 106 = .ok (.istore 6, 2) := by decide +kernel
theorem dX11_layFrames_108 : decode cX11_layFrames 108 = .ok (.iload 6, 2) := by decide +kernel
theorem dX11_layFrames_110 : decode cX11_layFrames 110 = .ok (.ifCond .eq 44, 3) := by decide +kernel
theorem dX11_layFrames_113 : decode cX11_layFrames 113 = .ok (.aload_n 0, 1) := by decide +kernel
theorem dX11_layFrames_114 : decode cX11_layFrames 114 = .ok (.getfield 58, 3) := by decide +kernel
theorem dX11_layFrames_117 : decode cX11_layFrames 117 = .ok (.aload_n 0, 1) := by decide +kernel
theorem dX11_layFrames_118 : decode cX11_layFrames 118 = .ok (.getfield 368, 3) := by decide +kernel
theorem dX11_layFrames_121 : decode cX11_layFrames 121 = .ok (.iload_n 2, 1) := by decide +kernel
theorem dX11_layFrames_122 : decode cX11_layFrames 122 = .ok (.iastore, 1) := by decide +kernel
theorem dX11_layFrames_123 : decode cX11_layFrames 123 = .ok (.aload_n 0, 1) := by decide +kernel
theorem dX11_layFrames_124 : decode cX11_layFrames 124 = .ok (.getfield 61, 3) := by decide +kernel
theorem dX11_layFrames_127 : decode cX11_layFrames 127 = .ok (.aload_n 0, 1) := by decide +kernel
theorem dX11_layFrames_128 : decode cX11_layFrames 128 = .ok (.getfield 368, 3) := by decide +kernel
theorem dX11_layFrames_131 : decode cX11_layFrames 131 = .ok (.iload_n 3, 1) := by decide +kernel
theorem dX11_layFrames_132 : decode cX11_layFrames 132 = .ok (.iastore, 1) := by decide +kernel
theorem dX11_layFrames_133 : decode cX11_layFrames 133 = .ok (.aload_n 0, 1) := by decide +kernel
theorem dX11_layFrames_134 : decode cX11_layFrames 134 = .ok (.getfield 64, 3) := by decide +kernel
theorem dX11_layFrames_137 : decode cX11_layFrames 137 = .ok (.aload_n 0, 1) := by decide +kernel
theorem dX11_layFrames_138 : decode cX11_layFrames 138 = .ok (.getfield 368, 3) := by decide +kernel
theorem dX11_layFrames_141 : decode cX11_layFrames 141 = .ok (.iload 4, 2) := by decide +kernel
theorem dX11_layFrames_143 : decode cX11_layFrames 143 = .ok (.bastore, 1) := by decide +kernel
theorem dX11_layFrames_144 : decode cX11_layFrames 144 = .ok (.aload_n 0, 1) := by decide +kernel
theorem dX11_layFrames_145 : decode cX11_layFrames 145 = .ok (.dup, 1) := by decide +kernel
theorem dX11_layFrames_146 : decode cX11_layFrames 146 = .ok (.getfield 368, 3) := by decide +kernel
theorem dX11_layFrames_149 : decode cX11_layFrames 149 = .ok (.iconst 1, 1) := by decide +kernel
theorem dX11_layFrames_150 : decode cX11_layFrames 150 = .ok (.iadd, 1) := by decide +kernel
theorem dX11_layFrames_151 : decode cX11_layFrames 151 = .ok (.putfield 368, 3) := by decide +kernel
theorem dX11_layFrames_154 : decode cX11_layFrames 154 = .ok (.aload_n 0, 1) := by decide +kernel
theorem dX11_layFrames_155 : decode cX11_layFrames 155 = .ok (.dup, 1) := by decide +kernel
theorem dX11_layFrames_156 : decode cX11_layFrames 156 = .ok (.getfield 371, 3) := by decide +kernel
theorem dX11_layFrames_159 : decode cX11_layFrames 159 = .ok (.iload 5, 2) := by decide +kernel
theorem dX11_layFrames_161 : decode cX11_layFrames 161 = .ok (.ifCond .eq 12, 3) := by decide +kernel
theorem dX11_layFrames_164 : decode cX11_layFrames 164 = .ok (.iload 6, 2) := by decide +kernel
theorem dX11_layFrames_166 : decode cX11_layFrames 166 = .ok (.ifCond .ne 7, 3) := by decide +kernel
theorem dX11_layFrames_169 : decode cX11_layFrames 169 = .ok (.iconst 1, 1) := by decide +kernel
theorem dX11_layFrames_170 : decode cX11_layFrames 170 = .ok (.goto 4, 3) := by decide +kernel
theorem dX11_layFrames_173 : decode cX11_layFrames 173 = .ok (.iconst 0, 1) := by decide +kernel
theorem dX11_layFrames_174 : decode cX11_layFrames 174 = .ok (.iadd, 1) := by decide +kernel
theorem dX11_layFrames_175 : decode cX11_layFrames 175 = .ok (.putfield 371, 3) := by decide +kernel
theorem dX11_layFrames_178 : decode cX11_layFrames 178 = .ok (.iload_n 2, 1) := by decide +kernel
theorem dX11_layFrames_179 : decode cX11_layFrames 179 = .ok (.iload 6, 2) := by decide +kernel
theorem dX11_layFrames_181 : decode cX11_layFrames 181 = .ok (.ifCond .eq 8, 3) := by decide +kernel
theorem dX11_layFrames_184 : decode cX11_layFrames 184 = .ok (.bipush 16, 2) := by decide +kernel
theorem dX11_layFrames_186 : decode cX11_layFrames 186 = .ok (.goto 4, 3) := by decide +kernel
theorem dX11_layFrames_189 : decode cX11_layFrames 189 = .ok (.iconst 1, 1) := by decide +kernel
theorem dX11_layFrames_190 : decode cX11_layFrames 190 = .ok (.iadd, 1) := by decide +kernel
theorem dX11_layFrames_191 : decode cX11_layFrames 191 = .ok (.istore_n 2, 1) := by decide +kernel
theorem dX11_layFrames_192 : decode cX11_layFrames 192 = .ok (.goto (-180), 3) := by decide +kernel
theorem dX11_layFrames_195 : decode cX11_layFrames 195 = .ok (.return_, 1) := by decide +kernel
theorem dX11_frame_0 : decode cX11_frame 0 = .ok (.aload_n 0, 1) := by decide +kernel
theorem dX11_frame_1 : decode cX11_frame 1 = .ok (.iconst 0, 1) := by decide +kernel
theorem dX11_frame_2 : decode cX11_frame 2 = .ok (.putfield 76, 3) := by decide +kernel
theorem dX11_frame_5 : decode cX11_frame 5 = .ok (.aload_n 0, 1) := by decide +kernel
theorem dX11_frame_6 : decode cX11_frame 6 = .ok (.iload_n 1, 1) := by decide +kernel
theorem dX11_frame_7 : decode cX11_frame 7 = .ok (.invokevirtual 365, 3) := by decide +kernel
theorem dX11_frame_10 : decode cX11_frame 10 = .ok (.ifCond .eq 21, 3) := by decide +kernel
theorem dX11_frame_13 : decode cX11_frame 13 = .ok (.iload_n 2, 1) := by decide +kernel
theorem dX11_frame_14 : decode cX11_frame 14 = .ok (.iconst (-1), 1) := by decide +kernel
theorem dX11_frame_15 : decode cX11_frame 15 = .ok (.if_icmp .lt 16, 3) := by decide +kernel
theorem dX11_frame_18 : decode cX11_frame 18 = .ok (.iload_n 2, 1) := by decide +kernel
theorem dX11_frame_19 : decode cX11_frame 19 = .ok (.ifCond .lt 14, 3) := by decide +kernel
theorem dX11_frame_22 : decode cX11_frame 22 = .ok (.iload_n 3, 1) := by decide +kernel
theorem dX11_frame_23 : decode cX11_frame 23 = .ok (.iconst 0, 1) := by decide +kernel
theorem dX11_frame_24 : decode cX11_frame 24 = .ok (.iconst 3, 1) := by decide +kernel
theorem dX11_frame_25 : decode cX11_frame 25 = .ok (.invokestatic 166, 3) := by decide +kernel
theorem dX11_frame_28 : decode cX11_frame 28 = .ok (.ifCond .ne 5, 3) := by decide +kernel
theorem dX11_frame_31 : decode cX11_frame 31 = .ok (.iconst (-1), 1) := by decide +kernel
theorem dX11_frame_32 : decode cX11_frame 32 = .ok (.ireturn, 1) := by decide +kernel
theorem dX11_frame_33 : decode cX11_frame 33 = .ok (.aload_n 0, 1) := by decide +kernel
theorem dX11_frame_34 : decode cX11_frame 34 = .ok (.iload_n 1, 1) := by decide +kernel
theorem dX11_frame_35 : decode cX11_frame 35 = .ok (.invokevirtual 378, 3) := by decide +kernel
theorem dX11_frame_38 : decode cX11_frame 38 = .ok (.iload_n 2, 1) := by decide +kernel
theorem dX11_frame_39 : decode cX11_frame 39 = .ok (.ifCond .ge 8, 3) := by decide +kernel
theorem dX11_frame_42 : decode cX11_frame 42 = .ok (.aload_n 0, 1) := by decide +kernel
theorem dX11_frame_43 : decode cX11_frame 43 = .ok (.getfield 368, 3) := by decide +kernel
theorem dX11_frame_46 : decode cX11_frame 46 = .ok (.ireturn, 1) := by decide +kernel
theorem dX11_frame_47 : decode cX11_frame 47 = .ok (.iload_n 2, 1) := by decide +kernel
theorem dX11_frame_48 : decode cX11_frame 48 = .ok (.aload_n 0, 1) := by decide +kernel
theorem dX11_frame_49 : decode cX11_frame 49 = .ok (.getfield 368, 3) := by decide +kernel
theorem dX11_frame_52 : decode cX11_frame 52 = .ok (.if_icmp .lt 6, 3) := by decide +kernel
theorem dX11_frame_55 : decode cX11_frame 55 = .ok (.bipush (-2), 2) := by decide +kernel
theorem dX11_frame_57 : decode cX11_frame 57 = .ok (.ireturn, 1) := by decide +kernel
theorem dX11_frame_58 : decode cX11_frame 58 = .ok (.iload_n 3, 1) := by decide +kernel
theorem dX11_frame_59 : decode cX11_frame 59 = .ok (.ifCond .ne 12, 3) := by decide +kernel
theorem dX11_frame_62 : decode cX11_frame 62 = .ok (.aload_n 0, 1) := by decide +kernel
theorem dX11_frame_63 : decode cX11_frame 63 = .ok (.getfield 58, 3) := by decide +kernel
theorem dX11_frame_66 : decode cX11_frame 66 = .ok (.iload_n 2, 1) := by decide +kernel
theorem dX11_frame_67 : decode cX11_frame 67 = .ok (.iaload, 1) := by decide +kernel
theorem dX11_frame_68 : decode cX11_frame 68 = .ok (.goto 55, 3) := by decide +kernel
theorem dX11_frame_71 : decode cX11_frame 71 = .ok (.iload_n 3, 1) := by decide +kernel
theorem dX11_frame_72 : decode cX11_frame 72 = .ok (.iconst 1, 1) := by decide +kernel
theorem dX11_frame_73 : decode cX11_frame 73 = .ok (.if_icmp .ne 17, 3) := by decide +kernel
theorem dX11_frame_76 : decode cX11_frame 76 = .ok (.aload_n 0, 1) := by decide +kernel
theorem dX11_frame_77 : decode cX11_frame 77 = .ok (.getfield 61, 3) := by decide +kernel
theorem dX11_frame_80 : decode cX11_frame 80 = .ok (.iload_n 2, 1) := by decide +kernel
theorem dX11_frame_81 : decode cX11_frame 81 = .ok (.iaload, 1) := by decide +kernel
theorem dX11_frame_82 : decode cX11_frame 82 = .ok (.bipush 10, 2) := by decide +kernel
theorem dX11_frame_84 : decode cX11_frame 84 = .ok (.ishr, 1) := by decide +kernel
theorem dX11_frame_85 : decode cX11_frame 85 = .ok (.iconst 3, 1) := by decide +kernel
theorem dX11_frame_86 : decode cX11_frame 86 = .ok (.iand, 1) := by decide +kernel
theorem dX11_frame_87 : decode cX11_frame 87 = .ok (.goto 36, 3) := by decide +kernel
theorem dX11_frame_90 : decode cX11_frame 90 = .ok (.iload_n 3, 1) := by decide +kernel
theorem dX11_frame_91 : decode cX11_frame 91 = .ok (.iconst 2, 1) := by decide +kernel
theorem dX11_frame_92 : decode cX11_frame 92 = .ok (.if_icmp .ne 17, 3) := by decide +kernel
theorem dX11_frame_95 : decode cX11_frame 95 = .ok (.aload_n 0, 1) := by decide +kernel
theorem dX11_frame_96 : decode cX11_frame 96 = .ok (.getfield 61, 3) := by decide +kernel
theorem dX11_frame_99 : decode cX11_frame 99 = .ok (.iload_n 2, 1) := by decide +kernel
theorem dX11_frame_100 : decode cX11_frame 100 = .ok (.iaload, 1) := by decide +kernel
theorem dX11_frame_101 : decode cX11_frame 101 = .ok (.iconst 4, 1) := by decide +kernel
theorem dX11_frame_102 : decode cX11_frame 102 = .ok (.ishr, 1) := by decide +kernel
theorem dX11_frame_103 : decode cX11_frame 103 = .ok (.bipush 63, 2) := by decide +kernel
theorem dX11_frame_105 : decode cX11_frame 105 = .ok (.iand, 1) := by decide +kernel
theorem dX11_frame_106 : decode cX11_frame 106 = .ok (.goto 17, 3) := by decide +kernel
theorem dX11_frame_109 : decode cX11_frame 109 = .ok (.aload_n 0, 1) := by decide +kernel
theorem dX11_frame_110 : decode cX11_frame 110 = .ok (.getfield 64, 3) := by decide +kernel
theorem dX11_frame_113 : decode cX11_frame 113 = .ok (.iload_n 2, 1) := by decide +kernel
theorem dX11_frame_114 : decode cX11_frame 114 = .ok (.baload, 1) := by decide +kernel
theorem dX11_frame_115 : decode cX11_frame 115 = .ok (.ifCond .eq 7, 3) := by decide +kernel
theorem dX11_frame_118 : decode cX11_frame 118 = .ok (.iconst 1, 1) := by decide +kernel
theorem dX11_frame_119 : decode cX11_frame 119 = .ok (.goto 4, 3) := by decide +kernel
theorem dX11_frame_122 : decode cX11_frame 122 = .ok (.iconst 0, 1) := by decide +kernel
theorem dX11_frame_123 : decode cX11_frame 123 = .ok (.ireturn, 1) := by decide +kernel
theorem dX11_bad_0 : decode cX11_bad 0 = .ok (.aload_n 0, 1) := by decide +kernel
theorem dX11_bad_1 : decode cX11_bad 1 = .ok (.iconst 0, 1) := by decide +kernel
theorem dX11_bad_2 : decode cX11_bad 2 = .ok (.putfield 76, 3) := by decide +kernel
theorem dX11_bad_5 : decode cX11_bad 5 = .ok (.aload_n 0, 1) := by decide +kernel
theorem dX11_bad_6 : decode cX11_bad 6 = .ok (.iload_n 1, 1) := by decide +kernel
theorem dX11_bad_7 : decode cX11_bad 7 = .ok (.invokevirtual 365, 3) := by decide +kernel
theorem dX11_bad_10 : decode cX11_bad 10 = .ok (.ifCond .ne 5, 3) := by decide +kernel
theorem dX11_bad_13 : decode cX11_bad 13 = .ok (.iconst (-1), 1) := by decide +kernel
theorem dX11_bad_14 : decode cX11_bad 14 = .ok (.ireturn, 1) := by decide +kernel
theorem dX11_bad_15 : decode cX11_bad 15 = .ok (.aload_n 0, 1) := by decide +kernel
theorem dX11_bad_16 : decode cX11_bad 16 = .ok (.iload_n 1, 1) := by decide +kernel
theorem dX11_bad_17 : decode cX11_bad 17 = .ok (.invokevirtual 378, 3) := by decide +kernel
theorem dX11_bad_20 : decode cX11_bad 20 = .ok (.aload_n 0, 1) := by decide +kernel
theorem dX11_bad_21 : decode cX11_bad 21 = .ok (.getfield 371, 3) := by decide +kernel
theorem dX11_bad_24 : decode cX11_bad 24 = .ok (.ireturn, 1) := by decide +kernel
theorem dX11_errors_0 : decode cX11_errors 0 = .ok (.aload_n 0, 1) := by decide +kernel
theorem dX11_errors_1 : decode cX11_errors 1 = .ok (.iconst 0, 1) := by decide +kernel
theorem dX11_errors_2 : decode cX11_errors 2 = .ok (.putfield 76, 3) := by decide +kernel
theorem dX11_errors_5 : decode cX11_errors 5 = .ok (.aload_n 0, 1) := by decide +kernel
theorem dX11_errors_6 : decode cX11_errors 6 = .ok (.iload_n 1, 1) := by decide +kernel
theorem dX11_errors_7 : decode cX11_errors 7 = .ok (.invokevirtual 365, 3) := by decide +kernel
theorem dX11_errors_10 : decode cX11_errors 10 = .ok (.ifCond .ne 5, 3) := by decide +kernel
theorem dX11_errors_13 : decode cX11_errors 13 = .ok (.iconst (-1), 1) := by decide +kernel
theorem dX11_errors_14 : decode cX11_errors 14 = .ok (.ireturn, 1) := by decide +kernel
theorem dX11_errors_15 : decode cX11_errors 15 = .ok (.aload_n 0, 1) := by decide +kernel
theorem dX11_errors_16 : decode cX11_errors 16 = .ok (.iload_n 1, 1) := by decide +kernel
theorem dX11_errors_17 : decode cX11_errors 17 = .ok (.iconst 0, 1) := by decide +kernel
theorem dX11_errors_18 : decode cX11_errors 18 = .ok (.invokevirtual 352, 3) := by decide +kernel
theorem dX11_errors_21 : decode cX11_errors 21 = .ok (.istore_n 2, 1) := by decide +kernel
theorem dX11_errors_22 : decode cX11_errors 22 = .ok (.aload_n 0, 1) := by decide +kernel
theorem dX11_errors_23 : decode cX11_errors 23 = .ok (.iload_n 2, 1) := by decide +kernel
theorem dX11_errors_24 : decode cX11_errors 24 = .ok (.iconst 2, 1) := by decide +kernel
theorem dX11_errors_25 : decode cX11_errors 25 = .ok (.invokevirtual 160, 3) := by decide +kernel
theorem dX11_errors_28 : decode cX11_errors 28 = .ok (.ifCond .ne 6, 3) := by decide +kernel
theorem dX11_errors_31 : decode cX11_errors 31 = .ok (.bipush (-2), 2) := by decide +kernel
theorem dX11_errors_33 : decode cX11_errors 33 = .ok (.ireturn, 1) := by decide +kernel
theorem dX11_errors_34 : decode cX11_errors 34 = .ok (.aload_n 0, 1) := by decide +kernel
theorem dX11_errors_35 : decode cX11_errors 35 = .ok (.iload_n 1, 1) := by decide +kernel
theorem dX11_errors_36 : decode cX11_errors 36 = .ok (.bipush 8, 2) := by decide +kernel
theorem dX11_errors_38 : decode cX11_errors 38 = .ok (.invokevirtual 352, 3) := by decide +kernel
theorem dX11_errors_41 : decode cX11_errors 41 = .ok (.istore_n 3, 1) := by decide +kernel
theorem dX11_errors_42 : decode cX11_errors 42 = .ok (.iconst 0, 1) := by decide +kernel
theorem dX11_errors_43 : decode cX11_errors 43 = .ok (.istore 4, 2) := by decide +kernel
theorem dX11_errors_45 : decode cX11_errors 45 = .ok (.iconst 0, 1) := by decide +kernel
theorem dX11_errors_46 : decode cX11_errors 46 = .ok (.istore 5, 2) := by decide +kernel
theorem dX11_errors_48 : decode cX11_errors 48 = .ok (.iload 5, 2) := by decide +kernel
theorem dX11_errors_50 : decode cX11_errors 50 = .ok (.iload_n 3, 1) := by decide +kernel
theorem dX11_errors_51 : decode cX11_errors 51 = .ok (.if_icmp .ge 75, 3) := by decide +kernel
theorem dX11_errors_54 : decode cX11_errors 54 = .ok (.aload_n 0, 1) := by decide +kernel
theorem dX11_errors_55 : decode cX11_errors 55 = .ok (.iload_n 1, 1) := by decide +kernel
theorem dX11_errors_56 : decode cX11_errors 56 = .ok (.iconst 5, 1) := by decide +kernel
theorem dX11_errors_57 : decode cX11_errors 57 = .ok (.invokevirtual 352, 3) := by decide +kernel
theorem dX11_errors_60 : decode cX11_errors 60 = .ok (.iload_n 3, 1) := by decide +kernel
theorem dX11_errors_61 : decode cX11_errors 61 = .ok (.isub, 1) := by decide +kernel
theorem dX11_errors_62 : decode cX11_errors 62 = .ok (.iload 5, 2) := by decide +kernel
theorem dX11_errors_64 : decode cX11_errors 64 = .ok (.iadd, 1) := by decide +kernel
theorem dX11_errors_65 : decode cX11_errors 65 = .ok (.istore 6, 2) := by decide +kernel
theorem dX11_errors_67 : decode cX11_errors 67 = .ok (.aload_n 0, 1) := by decide +kernel
theorem dX11_errors_68 : decode cX11_errors 68 = .ok (.iload_n 2, 1) := by decide +kernel
theorem dX11_errors_69 : decode cX11_errors 69 = .ok (.bipush 62, 2) := by decide +kernel
theorem dX11_errors_71 : decode cX11_errors 71 = .ok (.iload 6, 2) := by decide +kernel
theorem dX11_errors_73 : decode cX11_errors 73 = .ok (.imul, 1) := by decide +kernel
theorem dX11_errors_74 : decode cX11_errors 74 = .ok (.bipush 31, 2) := by decide +kernel
theorem dX11_errors_76 : decode cX11_errors 76 = .ok (.iadd, 1) := by decide +kernel
theorem dX11_errors_77 : decode cX11_errors 77 = .ok (.aload_n 0, 1) := by decide +kernel
theorem dX11_errors_78 : decode cX11_errors 78 = .ok (.iload_n 2, 1) := by decide +kernel
theorem dX11_errors_79 : decode cX11_errors 79 = .ok (.iload 6, 2) := by decide +kernel
theorem dX11_errors_81 : decode cX11_errors 81 = .ok (.invokevirtual 277, 3) := by decide +kernel
theorem dX11_errors_84 : decode cX11_errors 84 = .ok (.isub, 1) := by decide +kernel
theorem dX11_errors_85 : decode cX11_errors 85 = .ok (.bipush 62, 2) := by decide +kernel
theorem dX11_errors_87 : decode cX11_errors 87 = .ok (.invokestatic 252, 3) := by decide +kernel
theorem dX11_errors_90 : decode cX11_errors 90 = .ok (.invokevirtual 246, 3) := by decide +kernel
theorem dX11_errors_93 : decode cX11_errors 93 = .ok (.istore 7, 2) := by decide +kernel
theorem dX11_errors_95 : decode cX11_errors 95 = .ok (.iload 4, 2) := by decide +kernel
theorem dX11_errors_97 : decode cX11_errors 97 = .ok (.iload 7, 2) := by decide +kernel
theorem dX11_errors_99 : decode cX11_errors 99 = .ok (.aload_n 0, 1) := by decide +kernel
theorem dX11_errors_100 : decode cX11_errors 100 = .ok (.iload_n 1, 1) := by decide +kernel
theorem dX11_errors_101 : decode cX11_errors 101 = .ok (.bipush 9, 2) := by decide +kernel
theorem dX11_errors_103 : decode cX11_errors 103 = .ok (.iload 5, 2) := by decide +kernel
theorem dX11_errors_105 : decode cX11_errors 105 = .ok (.iadd, 1) := by decide +kernel
theorem dX11_errors_106 : decode cX11_errors 106 = .ok (.invokevirtual 352, 3) := by decide +kernel
theorem dX11_errors_109 : decode cX11_errors 109 = .ok (.if_icmp .eq 7, 3) := by decide +kernel
theorem dX11_errors_112 : decode cX11_errors 112 = .ok (.iconst 1, 1) := by decide +kernel
theorem dX11_errors_113 : decode cX11_errors 113 = .ok (.goto 4, 3) := by decide +kernel
theorem dX11_errors_116 : decode cX11_errors 116 = .ok (.iconst 0, 1) := by decide +kernel
theorem dX11_errors_117 : decode cX11_errors 117 = .ok (.iadd, 1) := by decide +kernel
theorem dX11_errors_118 : decode cX11_errors 118 = .ok (.istore 4, 2) := by decide +kernel
theorem dX11_errors_120 : decode cX11_errors 120 = .ok (.iinc 5 1, 3) := by decide +kernel
theorem dX11_errors_123 : decode cX11_errors 123 = .ok (.goto (-75), 3) := by decide +kernel
theorem dX11_errors_126 : decode cX11_errors 126 = .ok (.iload 4, 2) := by decide +kernel
theorem dX11_errors_128 : decode cX11_errors 128 = .ok (.iload_n 3, 1) := by decide +kernel
theorem dX11_errors_129 : decode cX11_errors 129 = .ok (.iload 4, 2) := by decide +kernel
theorem dX11_errors_131 : decode cX11_errors 131 = .ok (.isub, 1) := by decide +kernel
theorem dX11_errors_132 : decode cX11_errors 132 = .ok (.if_icmp .ge 8, 3) := by decide +kernel
theorem dX11_errors_135 : decode cX11_errors 135 = .ok (.iload 4, 2) := by decide +kernel
theorem dX11_errors_137 : decode cX11_errors 137 = .ok (.goto 7, 3) := by decide +kernel
theorem dX11_errors_140 : decode cX11_errors 140 = .ok (.iload_n 3, 1) := by decide +kernel
theorem dX11_errors_141 : decode cX11_errors 141 = .ok (.iload 4, 2) := by decide +kernel
theorem dX11_errors_143 : decode cX11_errors 143 = .ok (.isub, 1) := by decide +kernel
theorem dX11_errors_144 : decode cX11_errors 144 = .ok (.ireturn, 1) := by decide +kernel
theorem dX11_latest_0 : decode cX11_latest 0 = .ok (.aload_n 0, 1) := by decide +kernel
theorem dX11_latest_1 : decode cX11_latest 1 = .ok (.iconst 0, 1) := by decide +kernel
theorem dX11_latest_2 : decode cX11_latest 2 = .ok (.putfield 76, 3) := by decide +kernel
theorem dX11_latest_5 : decode cX11_latest 5 = .ok (.aload_n 0, 1) := by decide +kernel
theorem dX11_latest_6 : decode cX11_latest 6 = .ok (.iload_n 1, 1) := by decide +kernel
theorem dX11_latest_7 : decode cX11_latest 7 = .ok (.invokevirtual 365, 3) := by decide +kernel
theorem dX11_latest_10 : decode cX11_latest 10 = .ok (.ifCond .eq 12, 3) := by decide +kernel
theorem dX11_latest_13 : decode cX11_latest 13 = .ok (.iload_n 2, 1) := by decide +kernel
theorem dX11_latest_14 : decode cX11_latest 14 = .ok (.iconst 0, 1) := by decide +kernel
theorem dX11_latest_15 : decode cX11_latest 15 = .ok (.iconst 3, 1) := by decide +kernel
theorem dX11_latest_16 : decode cX11_latest 16 = .ok (.invokestatic 166, 3) := by decide +kernel
theorem dX11_latest_19 : decode cX11_latest 19 = .ok (.ifCond .ne 5, 3) := by decide +kernel
theorem dX11_latest_22 : decode cX11_latest 22 = .ok (.iconst (-1), 1) := by decide +kernel
theorem dX11_latest_23 : decode cX11_latest 23 = .ok (.ireturn, 1) := by decide +kernel
theorem dX11_latest_24 : decode cX11_latest 24 = .ok (.aload_n 0, 1) := by decide +kernel
theorem dX11_latest_25 : decode cX11_latest 25 = .ok (.iload_n 1, 1) := by decide +kernel
theorem dX11_latest_26 : decode cX11_latest 26 = .ok (.invokevirtual 378, 3) := by decide +kernel
theorem dX11_latest_29 : decode cX11_latest 29 = .ok (.aload_n 0, 1) := by decide +kernel
theorem dX11_latest_30 : decode cX11_latest 30 = .ok (.getfield 368, 3) := by decide +kernel
theorem dX11_latest_33 : decode cX11_latest 33 = .ok (.iconst 1, 1) := by decide +kernel
theorem dX11_latest_34 : decode cX11_latest 34 = .ok (.isub, 1) := by decide +kernel
theorem dX11_latest_35 : decode cX11_latest 35 = .ok (.istore_n 3, 1) := by decide +kernel
theorem dX11_latest_36 : decode cX11_latest 36 = .ok (.iload_n 3, 1) := by decide +kernel
theorem dX11_latest_37 : decode cX11_latest 37 = .ok (.ifCond .lt 36, 3) := by decide +kernel
theorem dX11_latest_40 : decode cX11_latest 40 = .ok (.aload_n 0, 1) := by decide +kernel
theorem dX11_latest_41 : decode cX11_latest 41 = .ok (.getfield 61, 3) := by decide +kernel
theorem dX11_latest_44 : decode cX11_latest 44 = .ok (.iload_n 3, 1) := by decide +kernel
theorem dX11_latest_45 : decode cX11_latest 45 = .ok (.iaload, 1) := by decide +kernel
theorem dX11_latest_46 : decode cX11_latest 46 = .ok (.bipush 10, 2) := by decide +kernel
theorem dX11_latest_48 : decode cX11_latest 48 = .ok (.ishr, 1) := by decide +kernel
theorem dX11_latest_49 : decode cX11_latest 49 = .ok (.iconst 3, 1) := by decide +kernel
theorem dX11_latest_50 : decode cX11_latest 50 = .ok (.iand, 1) := by decide +kernel
theorem dX11_latest_51 : decode cX11_latest 51 = .ok (.iload_n 2, 1) := by decide +kernel
theorem dX11_latest_52 : decode cX11_latest 52 = .ok (.if_icmp .ne 15, 3) := by decide +kernel
theorem dX11_latest_55 : decode cX11_latest 55 = .ok (.aload_n 0, 1) := by decide +kernel
theorem dX11_latest_56 : decode cX11_latest 56 = .ok (.getfield 61, 3) := by decide +kernel
theorem dX11_latest_59 : decode cX11_latest 59 = .ok (.iload_n 3, 1) := by decide +kernel
theorem dX11_latest_60 : decode cX11_latest 60 = .ok (.iaload, 1) := by decide +kernel
theorem dX11_latest_61 : decode cX11_latest 61 = .ok (.iconst 4, 1) := by decide +kernel
theorem dX11_latest_62 : decode cX11_latest 62 = .ok (.ishr, 1) := by decide +kernel
theorem dX11_latest_63 : decode cX11_latest 63 = .ok (.bipush 63, 2) := by decide +kernel
theorem dX11_latest_65 : decode cX11_latest 65 = .ok (.iand, 1) := by decide +kernel
theorem dX11_latest_66 : decode cX11_latest 66 = .ok (.ireturn, 1) := by decide +kernel
theorem dX11_latest_67 : decode cX11_latest 67 = .ok (.iinc 3 (-1), 3) := by decide +kernel
theorem dX11_latest_70 : decode cX11_latest 70 = .ok (.goto (-34), 3) := by decide +kernel
theorem dX11_latest_73 : decode cX11_latest 73 = .ok (.bipush (-2), 2) := by decide +kernel
theorem dX11_latest_75 : decode cX11_latest 75 = .ok (.ireturn, 1) := by decide +kernel
theorem dX11_off_0 : decode cX11_off 0 = .ok (.aload_n 0, 1) := by decide +kernel
theorem dX11_off_1 : decode cX11_off 1 = .ok (.iconst 0, 1) := by decide +kernel
theorem dX11_off_2 : decode cX11_off 2 = .ok (.putfield 76, 3) := by decide +kernel
theorem dX11_off_5 : decode cX11_off 5 = .ok (.aload_n 0, 1) := by decide +kernel
theorem dX11_off_6 : decode cX11_off 6 = .ok (.iload_n 1, 1) := by decide +kernel
theorem dX11_off_7 : decode cX11_off 7 = .ok (.invokevirtual 365, 3) := by decide +kernel
theorem dX11_off_10 : decode cX11_off 10 = .ok (.ifCond .ne 5, 3) := by decide +kernel
theorem dX11_off_13 : decode cX11_off 13 = .ok (.iconst (-1), 1) := by decide +kernel
theorem dX11_off_14 : decode cX11_off 14 = .ok (.ireturn, 1) := by decide +kernel
theorem dX11_off_15 : decode cX11_off 15 = .ok (.aload_n 0, 1) := by decide +kernel
theorem dX11_off_16 : decode cX11_off 16 = .ok (.iload_n 1, 1) := by decide +kernel
theorem dX11_off_17 : decode cX11_off 17 = .ok (.iconst 0, 1) := by decide +kernel
theorem dX11_off_18 : decode cX11_off 18 = .ok (.invokevirtual 352, 3) := by decide +kernel
theorem dX11_off_21 : decode cX11_off 21 = .ok (.istore_n 2, 1) := by decide +kernel
theorem dX11_off_22 : decode cX11_off 22 = .ok (.aload_n 0, 1) := by decide +kernel
theorem dX11_off_23 : decode cX11_off 23 = .ok (.iload_n 2, 1) := by decide +kernel
theorem dX11_off_24 : decode cX11_off 24 = .ok (.iconst 2, 1) := by decide +kernel
theorem dX11_off_25 : decode cX11_off 25 = .ok (.invokevirtual 160, 3) := by decide +kernel
theorem dX11_off_28 : decode cX11_off 28 = .ok (.ifCond .ne 6, 3) := by decide +kernel
theorem dX11_off_31 : decode cX11_off 31 = .ok (.bipush (-2), 2) := by decide +kernel
theorem dX11_off_33 : decode cX11_off 33 = .ok (.ireturn, 1) := by decide +kernel
theorem dX11_off_34 : decode cX11_off 34 = .ok (.aload_n 0, 1) := by decide +kernel
theorem dX11_off_35 : decode cX11_off 35 = .ok (.iload_n 1, 1) := by decide +kernel
theorem dX11_off_36 : decode cX11_off 36 = .ok (.iconst 5, 1) := by decide +kernel
theorem dX11_off_37 : decode cX11_off 37 = .ok (.invokevirtual 352, 3) := by decide +kernel
theorem dX11_off_40 : decode cX11_off 40 = .ok (.sipush 200, 3) := by decide +kernel
theorem dX11_off_43 : decode cX11_off 43 = .ok (.if_icmp .ne 9, 3) := by decide +kernel
theorem dX11_off_46 : decode cX11_off 46 = .ok (.sipush 199, 3) := by decide +kernel
theorem dX11_off_49 : decode cX11_off 49 = .ok (.goto 9, 3) := by decide +kernel
theorem dX11_off_52 : decode cX11_off 52 = .ok (.aload_n 0, 1) := by decide +kernel
theorem dX11_off_53 : decode cX11_off 53 = .ok (.iload_n 1, 1) := by decide +kernel
theorem dX11_off_54 : decode cX11_off 54 = .ok (.iconst 5, 1) := by decide +kernel
theorem dX11_off_55 : decode cX11_off 55 = .ok (.invokevirtual 352, 3) := by decide +kernel
theorem dX11_off_58 : decode cX11_off 58 = .ok (.istore_n 3, 1) := by decide +kernel
theorem dX11_off_59 : decode cX11_off 59 = .ok (.aload_n 0, 1) := by decide +kernel
theorem dX11_off_60 : decode cX11_off 60 = .ok (.iload_n 1, 1) := by decide +kernel
theorem dX11_off_61 : decode cX11_off 61 = .ok (.iconst 1, 1) := by decide +kernel
theorem dX11_off_62 : decode cX11_off 62 = .ok (.invokevirtual 352, 3) := by decide +kernel
theorem dX11_off_65 : decode cX11_off 65 = .ok (.iconst 4, 1) := by decide +kernel
theorem dX11_off_66 : decode cX11_off 66 = .ok (.idiv, 1) := by decide +kernel
theorem dX11_off_67 : decode cX11_off 67 = .ok (.aload_n 0, 1) := by decide +kernel
theorem dX11_off_68 : decode cX11_off 68 = .ok (.iload_n 2, 1) := by decide +kernel
theorem dX11_off_69 : decode cX11_off 69 = .ok (.iload_n 3, 1) := by decide +kernel
theorem dX11_off_70 : decode cX11_off 70 = .ok (.invokevirtual 277, 3) := by decide +kernel
theorem dX11_off_73 : decode cX11_off 73 = .ok (.bipush 62, 2) := by decide +kernel
theorem dX11_off_75 : decode cX11_off 75 = .ok (.irem, 1) := by decide +kernel
theorem dX11_off_76 : decode cX11_off 76 = .ok (.bipush 62, 2) := by decide +kernel
theorem dX11_off_78 : decode cX11_off 78 = .ok (.invokestatic 318, 3) := by decide +kernel
theorem dX11_off_81 : decode cX11_off 81 = .ok (.ireturn, 1) := by decide +kernel
theorem dX11_rootOf_0 : decode cX11_rootOf 0 = .ok (.iconst 0, 1) := by decide +kernel
theorem dX11_rootOf_1 : decode cX11_rootOf 1 = .ok (.istore_n 1, 1) := by decide +kernel
theorem dX11_rootOf_2 : decode cX11_rootOf 2 = .ok (.iload_n 1, 1) := by decide +kernel
theorem dX11_rootOf_3 : decode cX11_rootOf 3 = .ok (.iconst 1, 1) := by decide +kernel
theorem dX11_rootOf_4 : decode cX11_rootOf 4 = .ok (.iadd, 1) := by decide +kernel
theorem dX11_rootOf_5 : decode cX11_rootOf 5 = .ok (.iload_n 1, 1) := by decide +kernel
theorem dX11_rootOf_6 : decode cX11_rootOf 6 = .ok (.iconst 1, 1) := by decide +kernel
theorem dX11_rootOf_7 : decode cX11_rootOf 7 = .ok (.iadd, 1) := by decide +kernel
theorem dX11_rootOf_8 : decode cX11_rootOf 8 = .ok (.imul, 1) := by decide +kernel
theorem dX11_rootOf_9 : decode cX11_rootOf 9 = .ok (.iload_n 0, 1) := by decide +kernel
theorem dX11_rootOf_10 : decode cX11_rootOf 10 = .ok (.if_icmp .gt 9, 3) := by decide +kernel
theorem dX11_rootOf_13 : decode cX11_rootOf 13 = .ok (.iinc 1 1, 3) := by decide +kernel
theorem dX11_rootOf_16 : decode cX11_rootOf 16 = .ok (.goto (-14), 3) := by decide +kernel
theorem dX11_rootOf_19 : decode cX11_rootOf 19 = .ok (.iload_n 1, 1) := by decide +kernel
theorem dX11_rootOf_20 : decode cX11_rootOf 20 = .ok (.ireturn, 1) := by decide +kernel
theorem dX11_far_0 : decode cX11_far 0 = .ok (.bipush 16, 2) := by decide +kernel
theorem dX11_far_2 : decode cX11_far 2 = .ok (.iload_n 0, 1) := by decide +kernel
theorem dX11_far_3 : decode cX11_far 3 = .ok (.iload_n 0, 1) := by decide +kernel
theorem dX11_far_4 : decode cX11_far 4 = .ok (.imul, 1) := by decide +kernel
theorem dX11_far_5 : decode cX11_far 5 = .ok (.iload_n 1, 1) := by decide +kernel
theorem dX11_far_6 : decode cX11_far 6 = .ok (.iload_n 1, 1) := by decide +kernel
theorem dX11_far_7 : decode cX11_far 7 = .ok (.imul, 1) := by decide +kernel
theorem dX11_far_8 : decode cX11_far 8 = .ok (.iadd, 1) := by decide +kernel
theorem dX11_far_9 : decode cX11_far 9 = .ok (.iload_n 2, 1) := by decide +kernel
theorem dX11_far_10 : decode cX11_far 10 = .ok (.iload_n 2, 1) := by decide +kernel
theorem dX11_far_11 : decode cX11_far 11 = .ok (.imul, 1) := by decide +kernel
theorem dX11_far_12 : decode cX11_far 12 = .ok (.iadd, 1) := by decide +kernel
theorem dX11_far_13 : decode cX11_far 13 = .ok (.imul, 1) := by decide +kernel
theorem dX11_far_14 : decode cX11_far 14 = .ok (.invokestatic 381, 3) := by decide +kernel
theorem dX11_far_17 : decode cX11_far 17 = .ok (.ireturn, 1) := by decide +kernel
theorem dX11_farFrom_0 : decode cX11_farFrom 0 = .ok (.aload_n 0, 1) := by decide +kernel
theorem dX11_farFrom_1 : decode cX11_farFrom 1 = .ok (.iload_n 1, 1) := by decide +kernel
theorem dX11_farFrom_2 : decode cX11_farFrom 2 = .ok (.bipush 11, 2) := by decide +kernel
theorem dX11_farFrom_4 : decode cX11_farFrom 4 = .ok (.invokevirtual 160, 3) := by decide +kernel
theorem dX11_farFrom_7 : decode cX11_farFrom 7 = .ok (.iload_n 2, 1) := by decide +kernel
theorem dX11_farFrom_8 : decode cX11_farFrom 8 = .ok (.isub, 1) := by decide +kernel
theorem dX11_farFrom_9 : decode cX11_farFrom 9 = .ok (.aload_n 0, 1) := by decide +kernel
theorem dX11_farFrom_10 : decode cX11_farFrom 10 = .ok (.iload_n 1, 1) := by decide +kernel
theorem dX11_farFrom_11 : decode cX11_farFrom 11 = .ok (.bipush 12, 2) := by decide +kernel
theorem dX11_farFrom_13 : decode cX11_farFrom 13 = .ok (.invokevirtual 160, 3) := by decide +kernel
theorem dX11_farFrom_16 : decode cX11_farFrom 16 = .ok (.iload_n 3, 1) := by decide +kernel
theorem dX11_farFrom_17 : decode cX11_farFrom 17 = .ok (.isub, 1) := by decide +kernel
theorem dX11_farFrom_18 : decode cX11_farFrom 18 = .ok (.aload_n 0, 1) := by decide +kernel
theorem dX11_farFrom_19 : decode cX11_farFrom 19 = .ok (.iload_n 1, 1) := by decide +kernel
theorem dX11_farFrom_20 : decode cX11_farFrom 20 = .ok (.bipush 13, 2) := by decide +kernel
theorem dX11_farFrom_22 : decode cX11_farFrom 22 = .ok (.invokevirtual 160, 3) := by decide +kernel
theorem dX11_farFrom_25 : decode cX11_farFrom 25 = .ok (.iload 4, 2) := by decide +kernel
theorem dX11_farFrom_27 : decode cX11_farFrom 27 = .ok (.isub, 1) := by decide +kernel
theorem dX11_farFrom_28 : decode cX11_farFrom 28 = .ok (.invokestatic 384, 3) := by decide +kernel
theorem dX11_farFrom_31 : decode cX11_farFrom 31 = .ok (.ireturn, 1) := by decide +kernel
theorem dX11_range_0 : decode cX11_range 0 = .ok (.aload_n 0, 1) := by decide +kernel
theorem dX11_range_1 : decode cX11_range 1 = .ok (.iconst 0, 1) := by decide +kernel
theorem dX11_range_2 : decode cX11_range 2 = .ok (.putfield 76, 3) := by decide +kernel
theorem dX11_range_5 : decode cX11_range 5 = .ok (.aload_n 0, 1) := by decide +kernel
theorem dX11_range_6 : decode cX11_range 6 = .ok (.iload_n 1, 1) := by decide +kernel
theorem dX11_range_7 : decode cX11_range 7 = .ok (.invokevirtual 216, 3) := by decide +kernel
theorem dX11_range_10 : decode cX11_range 10 = .ok (.ifCond .eq 14, 3) := by decide +kernel
theorem dX11_range_13 : decode cX11_range 13 = .ok (.iload_n 2, 1) := by decide +kernel
theorem dX11_range_14 : decode cX11_range 14 = .ok (.iconst (-1), 1) := by decide +kernel
theorem dX11_range_15 : decode cX11_range 15 = .ok (.sipush 400, 3) := by decide +kernel
theorem dX11_range_18 : decode cX11_range 18 = .ok (.invokestatic 166, 3) := by decide +kernel
theorem dX11_range_21 : decode cX11_range 21 = .ok (.ifCond .ne 6, 3) := by decide +kernel
theorem dX11_range_24 : decode cX11_range 24 = .ok (.bipush (-2), 2) := by decide +kernel
theorem dX11_range_26 : decode cX11_range 26 = .ok (.ireturn, 1) := by decide +kernel
theorem dX11_range_27 : decode cX11_range 27 = .ok (.aload_n 0, 1) := by decide +kernel
theorem dX11_range_28 : decode cX11_range 28 = .ok (.invokevirtual 346, 3) := by decide +kernel
theorem dX11_range_31 : decode cX11_range 31 = .ok (.aload_n 0, 1) := by decide +kernel
theorem dX11_range_32 : decode cX11_range 32 = .ok (.sipush 293, 3) := by decide +kernel
theorem dX11_range_35 : decode cX11_range 35 = .ok (.iload_n 1, 1) := by decide +kernel
theorem dX11_range_36 : decode cX11_range 36 = .ok (.iadd, 1) := by decide +kernel
theorem dX11_range_37 : decode cX11_range 37 = .ok (.invokevirtual 340, 3) := by decide +kernel
theorem dX11_range_40 : decode cX11_range 40 = .ok (.istore_n 3, 1) := by decide +kernel
theorem dX11_range_41 : decode cX11_range 41 = .ok (.aload_n 0, 1) := by decide +kernel
theorem dX11_range_42 : decode cX11_range 42 = .ok (.sipush 293, 3) := by decide +kernel
theorem dX11_range_45 : decode cX11_range 45 = .ok (.iload_n 1, 1) := by decide +kernel
theorem dX11_range_46 : decode cX11_range 46 = .ok (.iadd, 1) := by decide +kernel
theorem dX11_range_47 : decode cX11_range 47 = .ok (.iload_n 2, 1) := by decide +kernel
theorem dX11_range_48 : decode cX11_range 48 = .ok (.invokevirtual 153, 3) := by decide +kernel
theorem dX11_range_51 : decode cX11_range 51 = .ok (.iload_n 3, 1) := by decide +kernel
theorem dX11_range_52 : decode cX11_range 52 = .ok (.ireturn, 1) := by decide +kernel
theorem dX11_measure_0 : decode cX11_measure 0 = .ok (.aload_n 0, 1) := by decide +kernel
theorem dX11_measure_1 : decode cX11_measure 1 = .ok (.iconst 0, 1) := by decide +kernel
theorem dX11_measure_2 : decode cX11_measure 2 = .ok (.putfield 76, 3) := by decide +kernel
theorem dX11_measure_5 : decode cX11_measure 5 = .ok (.iload_n 1, 1) := by decide +kernel
theorem dX11_measure_6 : decode cX11_measure 6 = .ok (.iconst 0, 1) := by decide +kernel
theorem dX11_measure_7 : decode cX11_measure 7 = .ok (.bipush 20, 2) := by decide +kernel
theorem dX11_measure_9 : decode cX11_measure 9 = .ok (.invokestatic 166, 3) := by decide +kernel
theorem dX11_measure_12 : decode cX11_measure 12 = .ok (.ifCond .ne 5, 3) := by decide +kernel
theorem dX11_measure_15 : decode cX11_measure 15 = .ok (.iconst (-1), 1) := by decide +kernel
theorem dX11_measure_16 : decode cX11_measure 16 = .ok (.ireturn, 1) := by decide +kernel
theorem dX11_measure_17 : decode cX11_measure 17 = .ok (.aload_n 0, 1) := by decide +kernel
theorem dX11_measure_18 : decode cX11_measure 18 = .ok (.getfield 26, 3) := by decide +kernel
theorem dX11_measure_21 : decode cX11_measure 21 = .ok (.bipush 12, 2) := by decide +kernel
theorem dX11_measure_23 : decode cX11_measure 23 = .ok (.iaload, 1) := by decide +kernel
theorem dX11_measure_24 : decode cX11_measure 24 = .ok (.ifCond .ne 6, 3) := by decide +kernel
theorem dX11_measure_27 : decode cX11_measure 27 = .ok (.bipush (-2), 2) := by decide +kernel
theorem dX11_measure_29 : decode cX11_measure 29 = .ok (.ireturn, 1) := by decide +kernel
theorem dX11_measure_30 : decode cX11_measure 30 = .ok (.aload_n 0, 1) := by decide +kernel
theorem dX11_measure_31 : decode cX11_measure 31 = .ok (.invokevirtual 346, 3) := by decide +kernel
theorem dX11_measure_34 : decode cX11_measure 34 = .ok (.iconst 0, 1) := by decide +kernel
theorem dX11_measure_35 : decode cX11_measure 35 = .ok (.istore_n 2, 1) := by decide +kernel
theorem dX11_measure_36 : decode cX11_measure 36 = .ok (.iconst 0, 1) := by decide +kernel
theorem dX11_measure_37 : decode cX11_measure 37 = .ok (.istore_n 3, 1) := by decide +kernel
theorem dX11_measure_38 : decode cX11_measure 38 = .ok (.iload_n 3, 1) := by decide +kernel
theorem dX11_measure_39 : decode cX11_measure 39 = .ok (.aload_n 0, 1) := by decide +kernel
theorem dX11_measure_40 : decode cX11_measure 40 = .ok (.getfield 121, 3) := by decide +kernel
theorem dX11_measure_43 : decode cX11_measure 43 = .ok (.if_icmp .ge 120, 3) := by decide +kernel
theorem dX11_measure_46 : decode cX11_measure 46 = .ok (.aload_n 0, 1) := by decide +kernel
theorem dX11_measure_47 : decode cX11_measure 47 = .ok (.iload_n 3, 1) := by decide +kernel
theorem dX11_measure_48 : decode cX11_measure 48 = .ok (.bipush 10, 2) := by decide +kernel
theorem dX11_measure_50 : decode cX11_measure 50 = .ok (.invokevirtual 160, 3) := by decide +kernel
theorem dX11_measure_53 : decode cX11_measure 53 = .ok (.ifCond .ne 6, 3) := by decide +kernel
theorem dX11_measure_56 : decode cX11_measure 56 = .ok (.goto 101, 3) := by decide +kernel
theorem dX11_measure_59 : decode cX11_measure 59 = .ok (.aload_n 0, 1) := by decide +kernel
theorem dX11_measure_60 : decode cX11_measure 60 = .ok (.iload_n 3, 1) := by decide +kernel
theorem dX11_measure_61 : decode cX11_measure 61 = .ok (.aload_n 0, 1) := by decide +kernel
theorem dX11_measure_62 : decode cX11_measure 62 = .ok (.getfield 26, 3) := by decide +kernel
theorem dX11_measure_65 : decode cX11_measure 65 = .ok (.bipush 13, 2) := by decide +kernel
theorem dX11_measure_67 : decode cX11_measure 67 = .ok (.iaload, 1) := by decide +kernel
theorem dX11_measure_68 : decode cX11_measure 68 = .ok (.aload_n 0, 1) := by decide +kernel
theorem dX11_measure_69 : decode cX11_measure 69 = .ok (.getfield 26, 3) := by decide +kernel
theorem dX11_measure_72 : decode cX11_measure 72 = .ok (.bipush 14, 2) := by decide +kernel
theorem dX11_measure_74 : decode cX11_measure 74 = .ok (.iaload, 1) := by decide +kernel
theorem dX11_measure_75 : decode cX11_measure 75 = .ok (.aload_n 0, 1) := by decide +kernel
theorem dX11_measure_76 : decode cX11_measure 76 = .ok (.getfield 26, 3) := by decide +kernel
theorem dX11_measure_79 : decode cX11_measure 79 = .ok (.bipush 15, 2) := by decide +kernel
theorem dX11_measure_81 : decode cX11_measure 81 = .ok (.iaload, 1) := by decide +kernel
theorem dX11_measure_82 : decode cX11_measure 82 = .ok (.invokevirtual 387, 3) := by decide +kernel
theorem dX11_measure_85 : decode cX11_measure 85 = .ok (.iconst 4, 1) := by decide +kernel
theorem dX11_measure_86 : decode cX11_measure 86 = .ok (.aload_n 0, 1) := by decide +kernel
theorem dX11_measure_87 : decode cX11_measure 87 = .ok (.getfield 26, 3) := by decide +kernel
theorem dX11_measure_90 : decode cX11_measure 90 = .ok (.bipush 16, 2) := by decide +kernel
theorem dX11_measure_92 : decode cX11_measure 92 = .ok (.iaload, 1) := by decide +kernel
theorem dX11_measure_93 : decode cX11_measure 93 = .ok (.imul, 1) := by decide +kernel
theorem dX11_measure_94 : decode cX11_measure 94 = .ok (.iadd, 1) := by decide +kernel
theorem dX11_measure_95 : decode cX11_measure 95 = .ok (.aload_n 0, 1) := by decide +kernel
theorem dX11_measure_96 : decode cX11_measure 96 = .ok (.getfield 26, 3) := by decide +kernel
theorem dX11_measure_99 : decode cX11_measure 99 = .ok (.bipush 10, 2) := by decide +kernel
theorem dX11_measure_101 : decode cX11_measure 101 = .ok (.iaload, 1) := by decide +kernel
theorem dX11_measure_102 : decode cX11_measure 102 = .ok (.i2l, 1) := by decide +kernel
theorem dX11_measure_103 : decode cX11_measure 103 = .ok (.iload_n 3, 1) := by decide +kernel
theorem dX11_measure_104 : decode cX11_measure 104 = .ok (.i2l, 1) := by decide +kernel
theorem dX11_measure_105 : decode cX11_measure 105 = .ok (.ladd, 1) := by decide +kernel
theorem dX11_measure_106 : decode cX11_measure 106 = .ok (.ldc2_w 391, 3) := by decide +kernel
theorem dX11_measure_109 : decode cX11_measure 109 = .ok (.ladd, 1) := by decide +kernel
theorem dX11_measure_110 : decode cX11_measure 110 = .ok (.invokestatic 263, 3) := by decide +kernel
theorem dX11_measure_113 : decode cX11_measure 113 = .ok (.iload_n 1, 1) := by decide +kernel
theorem dX11_measure_114 : decode cX11_measure 114 = .ok (.invokestatic 267, 3) := by decide +kernel
theorem dX11_measure_117 : decode cX11_measure 117 = .ok (.iadd, 1) := by decide +kernel
theorem dX11_measure_118 : decode cX11_measure 118 = .ok (.istore 4, 2) := by decide +kernel
theorem dX11_measure_120 : decode cX11_measure 120 = .ok (.aload_n 0, 1) := by decide +kernel
theorem dX11_measure_121 : decode cX11_measure 121 = .ok (.sipush 293, 3) := by decide +kernel
theorem dX11_measure_124 : decode cX11_measure 124 = .ok (.iload_n 3, 1) := by decide +kernel
theorem dX11_measure_125 : decode cX11_measure 125 = .ok (.iadd, 1) := by decide +kernel
theorem dX11_measure_126 : decode cX11_measure 126 = .ok (.iload 4, 2) := by decide +kernel
theorem dX11_measure_128 : decode cX11_measure 128 = .ok (.ifCond .ge 7, 3) := by decide +kernel
theorem dX11_measure_131 : decode cX11_measure 131 = .ok (.iconst 0, 1) := by decide +kernel
theorem dX11_measure_132 : decode cX11_measure 132 = .ok (.goto 19, 3) := by decide +kernel
theorem dX11_measure_135 : decode cX11_measure 135 = .ok (.iload 4, 2) := by decide +kernel
theorem dX11_measure_137 : decode cX11_measure 137 = .ok (.sipush 400, 3) := by decide +kernel
theorem dX11_measure_140 : decode cX11_measure 140 = .ok (.if_icmp .le 9, 3) := by decide +kernel
theorem dX11_measure_143 : decode cX11_measure 143 = .ok (.sipush 400, 3) := by decide +kernel
theorem dX11_measure_146 : decode cX11_measure 146 = .ok (.goto 5, 3) := by decide +kernel
theorem dX11_measure_149 : decode cX11_measure 149 = .ok (.iload 4, 2) := by decide +kernel
theorem dX11_measure_151 : decode cX11_measure 151 = .ok (.invokevirtual 153, 3) := by decide +kernel
theorem dX11_measure_154 : decode cX11_measure 154 = .ok (.iinc 2 1, 3) := by decide +kernel
theorem dX11_measure_157 : decode cX11_measure 157 = .ok (.iinc 3 1, 3) := by decide +kernel
theorem dX11_measure_160 : decode cX11_measure 160 = .ok (.goto (-122), 3) := by decide +kernel
theorem dX11_measure_163 : decode cX11_measure 163 = .ok (.iload_n 2, 1) := by decide +kernel
theorem dX11_measure_164 : decode cX11_measure 164 = .ok (.ireturn, 1) := by decide +kernel
theorem dX11_isRanged_0 : decode cX11_isRanged 0 = .ok (.aload_n 0, 1) := by decide +kernel
theorem dX11_isRanged_1 : decode cX11_isRanged 1 = .ok (.iload_n 1, 1) := by decide +kernel
theorem dX11_isRanged_2 : decode cX11_isRanged 2 = .ok (.bipush 10, 2) := by decide +kernel
theorem dX11_isRanged_4 : decode cX11_isRanged 4 = .ok (.invokevirtual 160, 3) := by decide +kernel
theorem dX11_isRanged_7 : decode cX11_isRanged 7 = .ok (.iconst 1, 1) := by decide +kernel
theorem dX11_isRanged_8 : decode cX11_isRanged 8 = .ok (.if_icmp .ne 19, 3) := by decide +kernel
theorem dX11_isRanged_11 : decode cX11_isRanged 11 = .ok (.aload_n 0, 1) := by decide +kernel
theorem dX11_isRanged_12 : decode cX11_isRanged 12 = .ok (.sipush 293, 3) := by decide +kernel
theorem dX11_isRanged_15 : decode cX11_isRanged 15 = .ok (.iload_n 1, 1) := by decide +kernel
theorem dX11_isRanged_16 : decode cX11_isRanged 16 = .ok (.iadd, 1) := by decide +kernel
theorem dX11_isRanged_17 : decode cX11_isRanged 17 = .ok (.invokevirtual 340, 3) := by decide +kernel
theorem dX11_isRanged_20 : decode cX11_isRanged 20 = .ok (.ifCond .lt 7, 3) := by decide +kernel
theorem dX11_isRanged_23 : decode cX11_isRanged 23 = .ok (.iconst 1, 1) := by decide +kernel
theorem dX11_isRanged_24 : decode cX11_isRanged 24 = .ok (.goto 4, 3) := by decide +kernel
theorem dX11_isRanged_27 : decode cX11_isRanged 27 = .ok (.iconst 0, 1) := by decide +kernel
theorem dX11_isRanged_28 : decode cX11_isRanged 28 = .ok (.ireturn, 1) := by decide +kernel
theorem dX11_ranged_0 : decode cX11_ranged 0 = .ok (.iconst 0, 1) := by decide +kernel
theorem dX11_ranged_1 : decode cX11_ranged 1 = .ok (.istore_n 1, 1) := by decide +kernel
theorem dX11_ranged_2 : decode cX11_ranged 2 = .ok (.iconst 0, 1) := by decide +kernel
theorem dX11_ranged_3 : decode cX11_ranged 3 = .ok (.istore_n 2, 1) := by decide +kernel
theorem dX11_ranged_4 : decode cX11_ranged 4 = .ok (.iload_n 2, 1) := by decide +kernel
theorem dX11_ranged_5 : decode cX11_ranged 5 = .ok (.aload_n 0, 1) := by decide +kernel
theorem dX11_ranged_6 : decode cX11_ranged 6 = .ok (.getfield 121, 3) := by decide +kernel
theorem dX11_ranged_9 : decode cX11_ranged 9 = .ok (.if_icmp .ge 25, 3) := by decide +kernel
theorem dX11_ranged_12 : decode cX11_ranged 12 = .ok (.iload_n 1, 1) := by decide +kernel
theorem dX11_ranged_13 : decode cX11_ranged 13 = .ok (.aload_n 0, 1) := by decide +kernel
theorem dX11_ranged_14 : decode cX11_ranged 14 = .ok (.iload_n 2, 1) := by decide +kernel
theorem dX11_ranged_15 : decode cX11_ranged 15 = .ok (.invokevirtual 393, 3) := by decide +kernel
theorem dX11_ranged_18 : decode cX11_ranged 18 = .ok (.ifCond .eq 7, 3) := by decide +kernel
theorem dX11_ranged_21 : decode cX11_ranged 21 = .ok (.iconst 1, 1) := by decide +kernel
theorem dX11_ranged_22 : decode cX11_ranged 22 = .ok (.goto 4, 3) := by decide +kernel
theorem dX11_ranged_25 : decode cX11_ranged 25 = .ok (.iconst 0, 1) := by decide +kernel
theorem dX11_ranged_26 : decode cX11_ranged 26 = .ok (.iadd, 1) := by decide +kernel
theorem dX11_ranged_27 : decode cX11_ranged 27 = .ok (.istore_n 1, 1) := by decide +kernel
theorem dX11_ranged_28 : decode cX11_ranged 28 = .ok (.iinc 2 1, 3) := by decide +kernel
theorem dX11_ranged_31 : decode cX11_ranged 31 = .ok (.goto (-27), 3) := by decide +kernel
theorem dX11_ranged_34 : decode cX11_ranged 34 = .ok (.iload_n 1, 1) := by decide +kernel
theorem dX11_ranged_35 : decode cX11_ranged 35 = .ok (.ireturn, 1) := by decide +kernel
theorem dX11_restAt_0 : decode cX11_restAt 0 = .ok (.iconst 0, 1) := by decide +kernel
theorem dX11_restAt_1 : decode cX11_restAt 1 = .ok (.istore 5, 2) := by decide +kernel
theorem dX11_restAt_3 : decode cX11_restAt 3 = .ok (.iconst 0, 1) := by decide +kernel
theorem dX11_restAt_4 : decode cX11_restAt 4 = .ok (.istore 6, 2) := by decide +kernel
theorem dX11_restAt_6 : decode cX11_restAt 6 = .ok (.iconst 0, 1) := by decide +kernel
theorem dX11_restAt_7 : decode cX11_restAt 7 = .ok (.istore 7, 2) := by decide +kernel
theorem dX11_restAt_9 : decode cX11_restAt 9 = .ok (.iconst 0, 1) := by decide +kernel
theorem dX11_restAt_10 : decode cX11_restAt 10 = .ok (.istore 8, 2) := by decide +kernel
theorem dX11_restAt_12 : decode cX11_restAt 12 = .ok (.iload 8, 2) := by decide +kernel
theorem dX11_restAt_14 : decode cX11_restAt 14 = .ok (.aload_n 0, 1) := by decide +kernel
theorem dX11_restAt_15 : decode cX11_restAt 15 = .ok (.getfield 121, 3) := by decide +kernel
theorem dX11_restAt_18 : decode cX11_restAt 18 = .ok (.if_icmp .ge 70, 3) := by decide +kernel
theorem dX11_restAt_21 : decode cX11_restAt 21 = .ok (.iload 8, 2) := by decide +kernel
theorem dX11_restAt_23 : decode cX11_restAt 23 = .ok (.iload 4, 2) := by decide +kernel
theorem dX11_restAt_25 : decode cX11_restAt 25 = .ok (.if_icmp .eq 57, 3) := by decide +kernel
theorem dX11_restAt_28 : decode cX11_restAt 28 = .ok (.aload_n 0, 1) := by decide +kernel
theorem dX11_restAt_29 : decode cX11_restAt 29 = .ok (.iload 8, 2) := by decide +kernel
theorem dX11_restAt_31 : decode cX11_restAt 31 = .ok (.invokevirtual 393, 3) := by decide +kernel
theorem dX11_restAt_34 : decode cX11_restAt 34 = .ok (.ifCond .ne 6, 3) := by decide +kernel
theorem dX11_restAt_37 : decode cX11_restAt 37 = .ok (.goto 45, 3) := by decide +kernel
theorem dX11_restAt_40 : decode cX11_restAt 40 = .ok (.aload_n 0, 1) := by decide +kernel
theorem dX11_restAt_41 : decode cX11_restAt 41 = .ok (.sipush 293, 3) := by decide +kernel
theorem dX11_restAt_44 : decode cX11_restAt 44 = .ok (.iload 8, 2) := by decide +kernel
theorem dX11_restAt_46 : decode cX11_restAt 46 = .ok (.iadd, 1) := by decide +kernel
theorem dX11_restAt_47 : decode cX11_restAt 47 = .ok (.invokevirtual 340, 3) := by decide +kernel
theorem dX11_restAt_50 : decode cX11_restAt 50 = .ok (.aload_n 0, 1) := by decide +kernel
theorem dX11_restAt_51 : decode cX11_restAt 51 = .ok (.iload 8, 2) := by decide +kernel
theorem dX11_restAt_53 : decode cX11_restAt 53 = .ok (.iload_n 1, 1) := by decide +kernel
theorem dX11_restAt_54 : decode cX11_restAt 54 = .ok (.iload_n 2, 1) := by decide +kernel
theorem dX11_restAt_55 : decode cX11_restAt 55 = .ok (.iload_n 3, 1) := by decide +kernel
theorem dX11_restAt_56 : decode cX11_restAt 56 = .ok (.invokevirtual 387, 3) := by decide +kernel
theorem dX11_restAt_59 : decode cX11_restAt 59 = .ok (.isub, 1) := by decide +kernel
theorem dX11_restAt_60 : decode cX11_restAt 60 = .ok (.istore 9, 2) := by decide +kernel
theorem dX11_restAt_62 : decode cX11_restAt 62 = .ok (.iinc 5 1, 3) := by decide +kernel
theorem dX11_restAt_65 : decode cX11_restAt 65 = .ok (.iload 6, 2) := by decide +kernel
theorem dX11_restAt_67 : decode cX11_restAt 67 = .ok (.iload 9, 2) := by decide +kernel
theorem dX11_restAt_69 : decode cX11_restAt 69 = .ok (.iadd, 1) := by decide +kernel
theorem dX11_restAt_70 : decode cX11_restAt 70 = .ok (.istore 6, 2) := by decide +kernel
theorem dX11_restAt_72 : decode cX11_restAt 72 = .ok (.iload 7, 2) := by decide +kernel
theorem dX11_restAt_74 : decode cX11_restAt 74 = .ok (.iload 9, 2) := by decide +kernel
theorem dX11_restAt_76 : decode cX11_restAt 76 = .ok (.iload 9, 2) := by decide +kernel
theorem dX11_restAt_78 : decode cX11_restAt 78 = .ok (.imul, 1) := by decide +kernel
theorem dX11_restAt_79 : decode cX11_restAt 79 = .ok (.iadd, 1) := by decide +kernel
theorem dX11_restAt_80 : decode cX11_restAt 80 = .ok (.istore 7, 2) := by decide +kernel
theorem dX11_restAt_82 : decode cX11_restAt 82 = .ok (.iinc 8 1, 3) := by decide +kernel
theorem dX11_restAt_85 : decode cX11_restAt 85 = .ok (.goto (-73), 3) := by decide +kernel
theorem dX11_restAt_88 : decode cX11_restAt 88 = .ok (.aload_n 0, 1) := by decide +kernel
theorem dX11_restAt_89 : decode cX11_restAt 89 = .ok (.iload 5, 2) := by decide +kernel
theorem dX11_restAt_91 : decode cX11_restAt 91 = .ok (.iconst 2, 1) := by decide +kernel
theorem dX11_restAt_92 : decode cX11_restAt 92 = .ok (.iload 6, 2) := by decide +kernel
theorem dX11_restAt_94 : decode cX11_restAt 94 = .ok (.imul, 1) := by decide +kernel
theorem dX11_restAt_95 : decode cX11_restAt 95 = .ok (.isub, 1) := by decide +kernel
theorem dX11_restAt_96 : decode cX11_restAt 96 = .ok (.iconst 2, 1) := by decide +kernel
theorem dX11_restAt_97 : decode cX11_restAt 97 = .ok (.iload 5, 2) := by decide +kernel
theorem dX11_restAt_99 : decode cX11_restAt 99 = .ok (.imul, 1) := by decide +kernel
theorem dX11_restAt_100 : decode cX11_restAt 100 = .ok (.invokestatic 252, 3) := by decide +kernel
theorem dX11_restAt_103 : decode cX11_restAt 103 = .ok (.ineg, 1) := by decide +kernel
theorem dX11_restAt_104 : decode cX11_restAt 104 = .ok (.putfield 396, 3) := by decide +kernel
theorem dX11_restAt_107 : decode cX11_restAt 107 = .ok (.aload_n 0, 1) := by decide +kernel
theorem dX11_restAt_108 : decode cX11_restAt 108 = .ok (.aload_n 0, 1) := by decide +kernel
theorem dX11_restAt_109 : decode cX11_restAt 109 = .ok (.getfield 396, 3) := by decide +kernel
theorem dX11_restAt_112 : decode cX11_restAt 112 = .ok (.ifCond .ge 7, 3) := by decide +kernel
theorem dX11_restAt_115 : decode cX11_restAt 115 = .ok (.iconst 0, 1) := by decide +kernel
theorem dX11_restAt_116 : decode cX11_restAt 116 = .ok (.goto 21, 3) := by decide +kernel
theorem dX11_restAt_119 : decode cX11_restAt 119 = .ok (.aload_n 0, 1) := by decide +kernel
theorem dX11_restAt_120 : decode cX11_restAt 120 = .ok (.getfield 396, 3) := by decide +kernel
theorem dX11_restAt_123 : decode cX11_restAt 123 = .ok (.bipush 99, 2) := by decide +kernel
theorem dX11_restAt_125 : decode cX11_restAt 125 = .ok (.if_icmp .le 8, 3) := by decide +kernel
theorem dX11_restAt_128 : decode cX11_restAt 128 = .ok (.bipush 99, 2) := by decide +kernel
theorem dX11_restAt_130 : decode cX11_restAt 130 = .ok (.goto 7, 3) := by decide +kernel
theorem dX11_restAt_133 : decode cX11_restAt 133 = .ok (.aload_n 0, 1) := by decide +kernel
theorem dX11_restAt_134 : decode cX11_restAt 134 = .ok (.getfield 396, 3) := by decide +kernel
theorem dX11_restAt_137 : decode cX11_restAt 137 = .ok (.putfield 396, 3) := by decide +kernel
theorem dX11_restAt_140 : decode cX11_restAt 140 = .ok (.iload 7, 2) := by decide +kernel
theorem dX11_restAt_142 : decode cX11_restAt 142 = .ok (.iconst 2, 1) := by decide +kernel
theorem dX11_restAt_143 : decode cX11_restAt 143 = .ok (.aload_n 0, 1) := by decide +kernel
theorem dX11_restAt_144 : decode cX11_restAt 144 = .ok (.getfield 396, 3) := by decide +kernel
theorem dX11_restAt_147 : decode cX11_restAt 147 = .ok (.imul, 1) := by decide +kernel
theorem dX11_restAt_148 : decode cX11_restAt 148 = .ok (.iload 6, 2) := by decide +kernel
theorem dX11_restAt_150 : decode cX11_restAt 150 = .ok (.imul, 1) := by decide +kernel
theorem dX11_restAt_151 : decode cX11_restAt 151 = .ok (.isub, 1) := by decide +kernel
theorem dX11_restAt_152 : decode cX11_restAt 152 = .ok (.iload 5, 2) := by decide +kernel
theorem dX11_restAt_154 : decode cX11_restAt 154 = .ok (.aload_n 0, 1) := by decide +kernel
theorem dX11_restAt_155 : decode cX11_restAt 155 = .ok (.getfield 396, 3) := by decide +kernel
theorem dX11_restAt_158 : decode cX11_restAt 158 = .ok (.imul, 1) := by decide +kernel
theorem dX11_restAt_159 : decode cX11_restAt 159 = .ok (.aload_n 0, 1) := by decide +kernel
theorem dX11_restAt_160 : decode cX11_restAt 160 = .ok (.getfield 396, 3) := by decide +kernel
theorem dX11_restAt_163 : decode cX11_restAt 163 = .ok (.imul, 1) := by decide +kernel
theorem dX11_restAt_164 : decode cX11_restAt 164 = .ok (.iadd, 1) := by decide +kernel
theorem dX11_restAt_165 : decode cX11_restAt 165 = .ok (.ireturn, 1) := by decide +kernel
theorem dX11_layFix_0 : decode cX11_layFix 0 = .ok (.aload_n 0, 1) := by decide +kernel
theorem dX11_layFix_1 : decode cX11_layFix 1 = .ok (.getfield 67, 3) := by decide +kernel
theorem dX11_layFix_4 : decode cX11_layFix 4 = .ok (.iconst 4, 1) := by decide +kernel
theorem dX11_layFix_5 : decode cX11_layFix 5 = .ok (.iconst (-1), 1) := by decide +kernel
theorem dX11_layFix_6 : decode cX11_layFix 6 = .ok (.iastore, 1) := by decide +kernel
theorem dX11_layFix_7 : decode cX11_layFix 7 = .ok (.iconst 0, 1) := by decide +kernel
theorem dX11_layFix_8 : decode cX11_layFix 8 = .ok (.istore_n 2, 1) := by decide +kernel
theorem dX11_layFix_9 : decode cX11_layFix 9 = .ok (.iload_n 2, 1) := by decide +kernel
theorem dX11_layFix_10 : decode cX11_layFix 10 = .ok (.sipush 4096, 3) := by decide +kernel
theorem dX11_layFix_13 : decode cX11_layFix 13 = .ok (.if_icmp .ge 104, 3) := by decide +kernel
theorem dX11_layFix_16 : decode cX11_layFix 16 = .ok (.aload_n 0, 1) := by decide +kernel
theorem dX11_layFix_17 : decode cX11_layFix 17 = .ok (.iload_n 2, 1) := by decide +kernel
theorem dX11_layFix_18 : decode cX11_layFix 18 = .ok (.sipush 256, 3) := by decide +kernel
theorem dX11_layFix_21 : decode cX11_layFix 21 = .ok (.idiv, 1) := by decide +kernel
theorem dX11_layFix_22 : decode cX11_layFix 22 = .ok (.iload_n 2, 1) := by decide +kernel
theorem dX11_layFix_23 : decode cX11_layFix 23 = .ok (.bipush 16, 2) := by decide +kernel
theorem dX11_layFix_25 : decode cX11_layFix 25 = .ok (.idiv, 1) := by decide +kernel
theorem dX11_layFix_26 : decode cX11_layFix 26 = .ok (.bipush 16, 2) := by decide +kernel
theorem dX11_layFix_28 : decode cX11_layFix 28 = .ok (.irem, 1) := by decide +kernel
theorem dX11_layFix_29 : decode cX11_layFix 29 = .ok (.iload_n 2, 1) := by decide +kernel
theorem dX11_layFix_30 : decode cX11_layFix 30 = .ok (.bipush 16, 2) := by decide +kernel
theorem dX11_layFix_32 : decode cX11_layFix 32 = .ok (.irem, 1) := by decide +kernel
theorem dX11_layFix_33 : decode cX11_layFix 33 = .ok (.iload_n 1, 1) := by decide +kernel
theorem dX11_layFix_34 : decode cX11_layFix 34 = .ok (.invokevirtual 399, 3) := by decide +kernel
theorem dX11_layFix_37 : decode cX11_layFix 37 = .ok (.istore_n 3, 1) := by decide +kernel
theorem dX11_layFix_38 : decode cX11_layFix 38 = .ok (.aload_n 0, 1) := by decide +kernel
theorem dX11_layFix_39 : decode cX11_layFix 39 = .ok (.getfield 67, 3) := by decide +kernel
theorem dX11_layFix_42 : decode cX11_layFix 42 = .ok (.iconst 4, 1) := by decide +kernel
theorem dX11_layFix_43 : decode cX11_layFix 43 = .ok (.iaload, 1) := by decide +kernel
theorem dX11_layFix_44 : decode cX11_layFix 44 = .ok (.ifCond .lt 16, 3) := by decide +kernel
theorem dX11_layFix_47 : decode cX11_layFix 47 = .ok (.iload_n 3, 1) := by decide +kernel
theorem dX11_layFix_48 : decode cX11_layFix 48 = .ok (.aload_n 0, 1) := by decide +kernel
theorem dX11_layFix_49 : decode cX11_layFix 49 = .ok (.getfield 67, 3) := by decide +kernel
theorem dX11_layFix_52 : decode cX11_layFix 52 = .ok (.iconst 4, 1) := by decide +kernel
theorem dX11_layFix_53 : decode cX11_layFix 53 = .ok (.iaload, 1) := by decide +kernel
theorem dX11_layFix_54 : decode cX11_layFix 54 = .ok (.if_icmp .lt 6, 3) := by decide +kernel
theorem dX11_layFix_57 : decode cX11_layFix 57 = .ok (.goto 54, 3) := by decide +kernel
theorem dX11_layFix_60 : decode cX11_layFix 60 = .ok (.aload_n 0, 1) := by decide +kernel
theorem dX11_layFix_61 : decode cX11_layFix 61 = .ok (.getfield 67, 3) := by decide +kernel
theorem dX11_layFix_64 : decode cX11_layFix 64 = .ok (.iconst 0, 1) := by decide +kernel
theorem dX11_layFix_65 : decode cX11_layFix 65 = .ok (.iload_n 2, 1) := by decide +kernel
theorem dX11_layFix_66 : decode cX11_layFix 66 = .ok (.sipush 256, 3) := by decide +kernel
theorem dX11_layFix_69 : decode cX11_layFix 69 = .ok (.idiv, 1) := by decide +kernel
theorem dX11_layFix_70 : decode cX11_layFix 70 = .ok (.iastore, 1) := by decide +kernel
theorem dX11_layFix_71 : decode cX11_layFix 71 = .ok (.aload_n 0, 1) := by decide +kernel
theorem dX11_layFix_72 : decode cX11_layFix 72 = .ok (.getfield 67, 3) := by decide +kernel
theorem dX11_layFix_75 : decode cX11_layFix 75 = .ok (.iconst 1, 1) := by decide +kernel
theorem dX11_layFix_76 : decode cX11_layFix 76 = .ok (.iload_n 2, 1) := by decide +kernel
theorem dX11_layFix_77 : decode cX11_layFix 77 = .ok (.bipush 16, 2) := by decide +kernel
theorem dX11_layFix_79 : decode cX11_layFix 79 = .ok (.idiv, 1) := by decide +kernel
theorem dX11_layFix_80 : decode cX11_layFix 80 = .ok (.bipush 16, 2) := by decide +kernel
theorem dX11_layFix_82 : decode cX11_layFix 82 = .ok (.irem, 1) := by decide +kernel
theorem dX11_layFix_83 : decode cX11_layFix 83 = .ok (.iastore, 1) := by decide +kernel
theorem dX11_layFix_84 : decode cX11_layFix 84 = .ok (.aload_n 0, 1) := by decide +kernel
theorem dX11_layFix_85 : decode cX11_layFix 85 = .ok (.getfield 67, 3) := by decide +kernel
theorem dX11_layFix_88 : decode cX11_layFix 88 = .ok (.iconst 2, 1) := by decide +kernel
theorem dX11_layFix_89 : decode cX11_layFix 89 = .ok (.iload_n 2, 1) := by decide +kernel
theorem dX11_layFix_90 : decode cX11_layFix 90 = .ok (.bipush 16, 2) := by decide +kernel
theorem dX11_layFix_92 : decode cX11_layFix 92 = .ok (.irem, 1) := by decide +kernel
theorem dX11_layFix_93 : decode cX11_layFix 93 = .ok (.iastore, 1) := by decide +kernel
theorem dX11_layFix_94 : decode cX11_layFix 94 = .ok (.aload_n 0, 1) := by decide +kernel
theorem dX11_layFix_95 : decode cX11_layFix 95 = .ok (.getfield 67, 3) := by decide +kernel
theorem dX11_layFix_98 : decode cX11_layFix 98 = .ok (.iconst 3, 1) := by decide +kernel
theorem dX11_layFix_99 : decode cX11_layFix 99 = .ok (.aload_n 0, 1) := by decide +kernel
theorem dX11_layFix_100 : decode cX11_layFix 100 = .ok (.getfield 396, 3) := by decide +kernel
theorem dX11_layFix_103 : decode cX11_layFix 103 = .ok (.iastore, 1) := by decide +kernel
theorem dX11_layFix_104 : decode cX11_layFix 104 = .ok (.aload_n 0, 1) := by decide +kernel
theorem dX11_layFix_105 : decode cX11_layFix 105 = .ok (.getfield 67, 3) := by decide +kernel
theorem dX11_layFix_108 : decode cX11_layFix 108 = .ok (.iconst 4, 1) := by decide +kernel
theorem dX11_layFix_109 : decode cX11_layFix 109 = .ok (.iload_n 3, 1) := by decide +kernel
theorem dX11_layFix_110 : decode cX11_layFix 110 = .ok (.iastore, 1) := by decide +kernel
theorem dX11_layFix_111 : decode cX11_layFix 111 = .ok (.iinc 2 1, 3) := by decide +kernel
theorem dX11_layFix_114 : decode cX11_layFix 114 = .ok (.goto (-105), 3) := by decide +kernel
theorem dX11_layFix_117 : decode cX11_layFix 117 = .ok (.return_, 1) := by decide +kernel
theorem dX11_fix_0 : decode cX11_fix 0 = .ok (.aload_n 0, 1) := by decide +kernel
theorem dX11_fix_1 : decode cX11_fix 1 = .ok (.iconst 0, 1) := by decide +kernel
theorem dX11_fix_2 : decode cX11_fix 2 = .ok (.putfield 76, 3) := by decide +kernel
theorem dX11_fix_5 : decode cX11_fix 5 = .ok (.iload_n 1, 1) := by decide +kernel
theorem dX11_fix_6 : decode cX11_fix 6 = .ok (.iconst 0, 1) := by decide +kernel
theorem dX11_fix_7 : decode cX11_fix 7 = .ok (.iconst 4, 1) := by decide +kernel
theorem dX11_fix_8 : decode cX11_fix 8 = .ok (.invokestatic 166, 3) := by decide +kernel
theorem dX11_fix_11 : decode cX11_fix 11 = .ok (.ifCond .ne 5, 3) := by decide +kernel
theorem dX11_fix_14 : decode cX11_fix 14 = .ok (.iconst (-1), 1) := by decide +kernel
theorem dX11_fix_15 : decode cX11_fix 15 = .ok (.ireturn, 1) := by decide +kernel
theorem dX11_fix_16 : decode cX11_fix 16 = .ok (.aload_n 0, 1) := by decide +kernel
theorem dX11_fix_17 : decode cX11_fix 17 = .ok (.invokevirtual 402, 3) := by decide +kernel
theorem dX11_fix_20 : decode cX11_fix 20 = .ok (.iconst 4, 1) := by decide +kernel
theorem dX11_fix_21 : decode cX11_fix 21 = .ok (.if_icmp .ge 6, 3) := by decide +kernel
theorem dX11_fix_24 : decode cX11_fix 24 = .ok (.bipush (-2), 2) := by decide +kernel
theorem dX11_fix_26 : decode cX11_fix 26 = .ok (.ireturn, 1) := by decide +kernel
theorem dX11_fix_27 : decode cX11_fix 27 = .ok (.aload_n 0, 1) := by decide +kernel
theorem dX11_fix_28 : decode cX11_fix 28 = .ok (.iconst (-1), 1) := by decide +kernel
theorem dX11_fix_29 : decode cX11_fix 29 = .ok (.invokevirtual 406, 3) := by decide +kernel
theorem dX11_fix_32 : decode cX11_fix 32 = .ok (.aload_n 0, 1) := by decide +kernel
theorem dX11_fix_33 : decode cX11_fix 33 = .ok (.getfield 67, 3) := by decide +kernel
theorem dX11_fix_36 : decode cX11_fix 36 = .ok (.iload_n 1, 1) := by decide +kernel
theorem dX11_fix_37 : decode cX11_fix 37 = .ok (.iaload, 1) := by decide +kernel
theorem dX11_fix_38 : decode cX11_fix 38 = .ok (.ireturn, 1) := by decide +kernel
theorem dX11_fixWithout_0 : decode cX11_fixWithout 0 = .ok (.aload_n 0, 1) := by decide +kernel
theorem dX11_fixWithout_1 : decode cX11_fixWithout 1 = .ok (.iconst 0, 1) := by decide +kernel
theorem dX11_fixWithout_2 : decode cX11_fixWithout 2 = .ok (.putfield 76, 3) := by decide +kernel
theorem dX11_fixWithout_5 : decode cX11_fixWithout 5 = .ok (.aload_n 0, 1) := by decide +kernel
theorem dX11_fixWithout_6 : decode cX11_fixWithout 6 = .ok (.iload_n 1, 1) := by decide +kernel
theorem dX11_fixWithout_7 : decode cX11_fixWithout 7 = .ok (.invokevirtual 216, 3) := by decide +kernel
theorem dX11_fixWithout_10 : decode cX11_fixWithout 10 = .ok (.ifCond .eq 12, 3) := by decide +kernel
theorem dX11_fixWithout_13 : decode cX11_fixWithout 13 = .ok (.iload_n 2, 1) := by decide +kernel
theorem dX11_fixWithout_14 : decode cX11_fixWithout 14 = .ok (.iconst 0, 1) := by decide +kernel
theorem dX11_fixWithout_15 : decode cX11_fixWithout 15 = .ok (.iconst 4, 1) := by decide +kernel
theorem dX11_fixWithout_16 : decode cX11_fixWithout 16 = .ok (.invokestatic 166, 3) := by decide +kernel
theorem dX11_fixWithout_19 : decode cX11_fixWithout 19 = .ok (.ifCond .ne 5, 3) := by decide +kernel
theorem dX11_fixWithout_22 : decode cX11_fixWithout 22 = .ok (.iconst (-1), 1) := by decide +kernel
theorem dX11_fixWithout_23 : decode cX11_fixWithout 23 = .ok (.ireturn, 1) := by decide +kernel
theorem dX11_fixWithout_24 : decode cX11_fixWithout 24 = .ok (.aload_n 0, 1) := by decide +kernel
theorem dX11_fixWithout_25 : decode cX11_fixWithout 25 = .ok (.iload_n 1, 1) := by decide +kernel
theorem dX11_fixWithout_26 : decode cX11_fixWithout 26 = .ok (.invokevirtual 393, 3) := by decide +kernel
theorem dX11_fixWithout_29 : decode cX11_fixWithout 29 = .ok (.ifCond .eq 11, 3) := by decide +kernel
theorem dX11_fixWithout_32 : decode cX11_fixWithout 32 = .ok (.aload_n 0, 1) := by decide +kernel
theorem dX11_fixWithout_33 : decode cX11_fixWithout 33 = .ok (.invokevirtual 402, 3) := by decide +kernel
theorem dX11_fixWithout_36 : decode cX11_fixWithout 36 = .ok (.iconst 5, 1) := by decide +kernel
theorem dX11_fixWithout_37 : decode cX11_fixWithout 37 = .ok (.if_icmp .ge 6, 3) := by decide +kernel
theorem dX11_fixWithout_40 : decode cX11_fixWithout 40 = .ok (.bipush (-2), 2) := by decide +kernel
theorem dX11_fixWithout_42 : decode cX11_fixWithout 42 = .ok (.ireturn, 1) := by decide +kernel
theorem dX11_fixWithout_43 : decode cX11_fixWithout 43 = .ok (.aload_n 0, 1) := by decide +kernel
theorem dX11_fixWithout_44 : decode cX11_fixWithout 44 = .ok (.iload_n 1, 1) := by decide +kernel
theorem dX11_fixWithout_45 : decode cX11_fixWithout 45 = .ok (.invokevirtual 406, 3) := by decide +kernel
theorem dX11_fixWithout_48 : decode cX11_fixWithout 48 = .ok (.aload_n 0, 1) := by decide +kernel
theorem dX11_fixWithout_49 : decode cX11_fixWithout 49 = .ok (.getfield 67, 3) := by decide +kernel
theorem dX11_fixWithout_52 : decode cX11_fixWithout 52 = .ok (.iload_n 2, 1) := by decide +kernel
theorem dX11_fixWithout_53 : decode cX11_fixWithout 53 = .ok (.iaload, 1) := by decide +kernel
theorem dX11_fixWithout_54 : decode cX11_fixWithout 54 = .ok (.ireturn, 1) := by decide +kernel
theorem dX11_suspect_0 : decode cX11_suspect 0 = .ok (.aload_n 0, 1) := by decide +kernel
theorem dX11_suspect_1 : decode cX11_suspect 1 = .ok (.iconst 0, 1) := by decide +kernel
theorem dX11_suspect_2 : decode cX11_suspect 2 = .ok (.putfield 76, 3) := by decide +kernel
theorem dX11_suspect_5 : decode cX11_suspect 5 = .ok (.aload_n 0, 1) := by decide +kernel
theorem dX11_suspect_6 : decode cX11_suspect 6 = .ok (.invokevirtual 402, 3) := by decide +kernel
theorem dX11_suspect_9 : decode cX11_suspect 9 = .ok (.iconst 5, 1) := by decide +kernel
theorem dX11_suspect_10 : decode cX11_suspect 10 = .ok (.if_icmp .ge 6, 3) := by decide +kernel
theorem dX11_suspect_13 : decode cX11_suspect 13 = .ok (.bipush (-2), 2) := by decide +kernel
theorem dX11_suspect_15 : decode cX11_suspect 15 = .ok (.ireturn, 1) := by decide +kernel
theorem dX11_suspect_16 : decode cX11_suspect 16 = .ok (.iconst (-1), 1) := by decide +kernel
theorem dX11_suspect_17 : decode cX11_suspect 17 = .ok (.istore_n 1, 1) := by decide +kernel
theorem dX11_suspect_18 : decode cX11_suspect 18 = .ok (.iconst 0, 1) := by decide +kernel
theorem dX11_suspect_19 : decode cX11_suspect 19 = .ok (.istore_n 2, 1) := by decide +kernel
theorem dX11_suspect_20 : decode cX11_suspect 20 = .ok (.iconst 0, 1) := by decide +kernel
theorem dX11_suspect_21 : decode cX11_suspect 21 = .ok (.istore_n 3, 1) := by decide +kernel
theorem dX11_suspect_22 : decode cX11_suspect 22 = .ok (.iload_n 3, 1) := by decide +kernel
theorem dX11_suspect_23 : decode cX11_suspect 23 = .ok (.aload_n 0, 1) := by decide +kernel
theorem dX11_suspect_24 : decode cX11_suspect 24 = .ok (.getfield 121, 3) := by decide +kernel
theorem dX11_suspect_27 : decode cX11_suspect 27 = .ok (.if_icmp .ge 51, 3) := by decide +kernel
theorem dX11_suspect_30 : decode cX11_suspect 30 = .ok (.aload_n 0, 1) := by decide +kernel
theorem dX11_suspect_31 : decode cX11_suspect 31 = .ok (.iload_n 3, 1) := by decide +kernel
theorem dX11_suspect_32 : decode cX11_suspect 32 = .ok (.invokevirtual 393, 3) := by decide +kernel
theorem dX11_suspect_35 : decode cX11_suspect 35 = .ok (.ifCond .ne 6, 3) := by decide +kernel
theorem dX11_suspect_38 : decode cX11_suspect 38 = .ok (.goto 34, 3) := by decide +kernel
theorem dX11_suspect_41 : decode cX11_suspect 41 = .ok (.aload_n 0, 1) := by decide +kernel
theorem dX11_suspect_42 : decode cX11_suspect 42 = .ok (.iload_n 3, 1) := by decide +kernel
theorem dX11_suspect_43 : decode cX11_suspect 43 = .ok (.invokevirtual 406, 3) := by decide +kernel
theorem dX11_suspect_46 : decode cX11_suspect 46 = .ok (.iload_n 1, 1) := by decide +kernel
theorem dX11_suspect_47 : decode cX11_suspect 47 = .ok (.ifCond .lt 16, 3) := by decide +kernel
theorem dX11_suspect_50 : decode cX11_suspect 50 = .ok (.aload_n 0, 1) := by decide +kernel
theorem dX11_suspect_51 : decode cX11_suspect 51 = .ok (.getfield 67, 3) := by decide +kernel
theorem dX11_suspect_54 : decode cX11_suspect 54 = .ok (.iconst 4, 1) := by decide +kernel
theorem dX11_suspect_55 : decode cX11_suspect 55 = .ok (.iaload, 1) := by decide +kernel
theorem dX11_suspect_56 : decode cX11_suspect 56 = .ok (.iload_n 2, 1) := by decide +kernel
theorem dX11_suspect_57 : decode cX11_suspect 57 = .ok (.if_icmp .lt 6, 3) := by decide +kernel
theorem dX11_suspect_60 : decode cX11_suspect 60 = .ok (.goto 12, 3) := by decide +kernel
theorem dX11_suspect_63 : decode cX11_suspect 63 = .ok (.iload_n 3, 1) := by decide +kernel
theorem dX11_suspect_64 : decode cX11_suspect 64 = .ok (.istore_n 1, 1) := by decide +kernel
theorem dX11_suspect_65 : decode cX11_suspect 65 = .ok (.aload_n 0, 1) := by decide +kernel
theorem dX11_suspect_66 : decode cX11_suspect 66 = .ok (.getfield 67, 3) := by decide +kernel
theorem dX11_suspect_69 : decode cX11_suspect 69 = .ok (.iconst 4, 1) := by decide +kernel
theorem dX11_suspect_70 : decode cX11_suspect 70 = .ok (.iaload, 1) := by decide +kernel
theorem dX11_suspect_71 : decode cX11_suspect 71 = .ok (.istore_n 2, 1) := by decide +kernel
theorem dX11_suspect_72 : decode cX11_suspect 72 = .ok (.iinc 3 1, 3) := by decide +kernel
theorem dX11_suspect_75 : decode cX11_suspect 75 = .ok (.goto (-53), 3) := by decide +kernel
theorem dX11_suspect_78 : decode cX11_suspect 78 = .ok (.iload_n 1, 1) := by decide +kernel
theorem dX11_suspect_79 : decode cX11_suspect 79 = .ok (.ireturn, 1) := by decide +kernel
theorem dX11_spread_0 : decode cX11_spread 0 = .ok (.aload_n 0, 1) := by decide +kernel
theorem dX11_spread_1 : decode cX11_spread 1 = .ok (.iconst 0, 1) := by decide +kernel
theorem dX11_spread_2 : decode cX11_spread 2 = .ok (.putfield 76, 3) := by decide +kernel
theorem dX11_spread_5 : decode cX11_spread 5 = .ok (.iload_n 1, 1) := by decide +kernel
theorem dX11_spread_6 : decode cX11_spread 6 = .ok (.iconst 0, 1) := by decide +kernel
theorem dX11_spread_7 : decode cX11_spread 7 = .ok (.sipush 9999, 3) := by decide +kernel
theorem dX11_spread_10 : decode cX11_spread 10 = .ok (.invokestatic 166, 3) := by decide +kernel
theorem dX11_spread_13 : decode cX11_spread 13 = .ok (.ifCond .ne 5, 3) := by decide +kernel
theorem dX11_spread_16 : decode cX11_spread 16 = .ok (.iconst (-1), 1) := by decide +kernel
theorem dX11_spread_17 : decode cX11_spread 17 = .ok (.ireturn, 1) := by decide +kernel
theorem dX11_spread_18 : decode cX11_spread 18 = .ok (.aload_n 0, 1) := by decide +kernel
theorem dX11_spread_19 : decode cX11_spread 19 = .ok (.invokevirtual 402, 3) := by decide +kernel
theorem dX11_spread_22 : decode cX11_spread 22 = .ok (.iconst 4, 1) := by decide +kernel
theorem dX11_spread_23 : decode cX11_spread 23 = .ok (.if_icmp .ge 6, 3) := by decide +kernel
theorem dX11_spread_26 : decode cX11_spread 26 = .ok (.bipush (-2), 2) := by decide +kernel
theorem dX11_spread_28 : decode cX11_spread 28 = .ok (.ireturn, 1) := by decide +kernel
theorem dX11_spread_29 : decode cX11_spread 29 = .ok (.iconst 0, 1) := by decide +kernel
theorem dX11_spread_30 : decode cX11_spread 30 = .ok (.istore_n 2, 1) := by decide +kernel
theorem dX11_spread_31 : decode cX11_spread 31 = .ok (.iconst 0, 1) := by decide +kernel
theorem dX11_spread_32 : decode cX11_spread 32 = .ok (.istore_n 3, 1) := by decide +kernel
theorem dX11_spread_33 : decode cX11_spread 33 = .ok (.iload_n 3, 1) := by decide +kernel
theorem dX11_spread_34 : decode cX11_spread 34 = .ok (.sipush 4096, 3) := by decide +kernel
theorem dX11_spread_37 : decode cX11_spread 37 = .ok (.if_icmp .ge 42, 3) := by decide +kernel
theorem dX11_spread_40 : decode cX11_spread 40 = .ok (.iload_n 2, 1) := by decide +kernel
theorem dX11_spread_41 : decode cX11_spread 41 = .ok (.aload_n 0, 1) := by decide +kernel
theorem dX11_spread_42 : decode cX11_spread 42 = .ok (.iload_n 3, 1) := by decide +kernel
theorem dX11_spread_43 : decode cX11_spread 43 = .ok (.sipush 256, 3) := by decide +kernel
theorem dX11_spread_46 : decode cX11_spread 46 = .ok (.idiv, 1) := by decide +kernel
theorem dX11_spread_47 : decode cX11_spread 47 = .ok (.iload_n 3, 1) := by decide +kernel
theorem dX11_spread_48 : decode cX11_spread 48 = .ok (.bipush 16, 2) := by decide +kernel
theorem dX11_spread_50 : decode cX11_spread 50 = .ok (.idiv, 1) := by decide +kernel
theorem dX11_spread_51 : decode cX11_spread 51 = .ok (.bipush 16, 2) := by decide +kernel
theorem dX11_spread_53 : decode cX11_spread 53 = .ok (.irem, 1) := by decide +kernel
theorem dX11_spread_54 : decode cX11_spread 54 = .ok (.iload_n 3, 1) := by decide +kernel
theorem dX11_spread_55 : decode cX11_spread 55 = .ok (.bipush 16, 2) := by decide +kernel
theorem dX11_spread_57 : decode cX11_spread 57 = .ok (.irem, 1) := by decide +kernel
theorem dX11_spread_58 : decode cX11_spread 58 = .ok (.iconst (-1), 1) := by decide +kernel
theorem dX11_spread_59 : decode cX11_spread 59 = .ok (.invokevirtual 399, 3) := by decide +kernel
theorem dX11_spread_62 : decode cX11_spread 62 = .ok (.iload_n 1, 1) := by decide +kernel
theorem dX11_spread_63 : decode cX11_spread 63 = .ok (.if_icmp .gt 7, 3) := by decide +kernel
theorem dX11_spread_66 : decode cX11_spread 66 = .ok (.iconst 1, 1) := by decide +kernel
theorem dX11_spread_67 : decode cX11_spread 67 = .ok (.goto 4, 3) := by decide +kernel
theorem dX11_spread_70 : decode cX11_spread 70 = .ok (.iconst 0, 1) := by decide +kernel
theorem dX11_spread_71 : decode cX11_spread 71 = .ok (.iadd, 1) := by decide +kernel
theorem dX11_spread_72 : decode cX11_spread 72 = .ok (.istore_n 2, 1) := by decide +kernel
theorem dX11_spread_73 : decode cX11_spread 73 = .ok (.iinc 3 1, 3) := by decide +kernel
theorem dX11_spread_76 : decode cX11_spread 76 = .ok (.goto (-43), 3) := by decide +kernel
theorem dX11_spread_79 : decode cX11_spread 79 = .ok (.iload_n 2, 1) := by decide +kernel
theorem dX11_spread_80 : decode cX11_spread 80 = .ok (.ireturn, 1) := by decide +kernel
theorem dX11_distance_0 : decode cX11_distance 0 = .ok (.aload_n 0, 1) := by decide +kernel
theorem dX11_distance_1 : decode cX11_distance 1 = .ok (.iconst 0, 1) := by decide +kernel
theorem dX11_distance_2 : decode cX11_distance 2 = .ok (.putfield 76, 3) := by decide +kernel
theorem dX11_distance_5 : decode cX11_distance 5 = .ok (.aload_n 0, 1) := by decide +kernel
theorem dX11_distance_6 : decode cX11_distance 6 = .ok (.iload_n 1, 1) := by decide +kernel
theorem dX11_distance_7 : decode cX11_distance 7 = .ok (.invokevirtual 216, 3) := by decide +kernel
theorem dX11_distance_10 : decode cX11_distance 10 = .ok (.ifCond .eq 11, 3) := by decide +kernel
theorem dX11_distance_13 : decode cX11_distance 13 = .ok (.aload_n 0, 1) := by decide +kernel
theorem dX11_distance_14 : decode cX11_distance 14 = .ok (.iload_n 2, 1) := by decide +kernel
theorem dX11_distance_15 : decode cX11_distance 15 = .ok (.invokevirtual 216, 3) := by decide +kernel
theorem dX11_distance_18 : decode cX11_distance 18 = .ok (.ifCond .ne 5, 3) := by decide +kernel
theorem dX11_distance_21 : decode cX11_distance 21 = .ok (.iconst (-1), 1) := by decide +kernel
theorem dX11_distance_22 : decode cX11_distance 22 = .ok (.ireturn, 1) := by decide +kernel
theorem dX11_distance_23 : decode cX11_distance 23 = .ok (.aload_n 0, 1) := by decide +kernel
theorem dX11_distance_24 : decode cX11_distance 24 = .ok (.iload_n 1, 1) := by decide +kernel
theorem dX11_distance_25 : decode cX11_distance 25 = .ok (.bipush 10, 2) := by decide +kernel
theorem dX11_distance_27 : decode cX11_distance 27 = .ok (.invokevirtual 160, 3) := by decide +kernel
theorem dX11_distance_30 : decode cX11_distance 30 = .ok (.ifCond .eq 13, 3) := by decide +kernel
theorem dX11_distance_33 : decode cX11_distance 33 = .ok (.aload_n 0, 1) := by decide +kernel
theorem dX11_distance_34 : decode cX11_distance 34 = .ok (.iload_n 2, 1) := by decide +kernel
theorem dX11_distance_35 : decode cX11_distance 35 = .ok (.bipush 10, 2) := by decide +kernel
theorem dX11_distance_37 : decode cX11_distance 37 = .ok (.invokevirtual 160, 3) := by decide +kernel
theorem dX11_distance_40 : decode cX11_distance 40 = .ok (.ifCond .ne 6, 3) := by decide +kernel
theorem dX11_distance_43 : decode cX11_distance 43 = .ok (.bipush (-2), 2) := by decide +kernel
theorem dX11_distance_45 : decode cX11_distance 45 = .ok (.ireturn, 1) := by decide +kernel
theorem dX11_distance_46 : decode cX11_distance 46 = .ok (.aload_n 0, 1) := by decide +kernel
theorem dX11_distance_47 : decode cX11_distance 47 = .ok (.iload_n 1, 1) := by decide +kernel
theorem dX11_distance_48 : decode cX11_distance 48 = .ok (.aload_n 0, 1) := by decide +kernel
theorem dX11_distance_49 : decode cX11_distance 49 = .ok (.iload_n 2, 1) := by decide +kernel
theorem dX11_distance_50 : decode cX11_distance 50 = .ok (.bipush 11, 2) := by decide +kernel
theorem dX11_distance_52 : decode cX11_distance 52 = .ok (.invokevirtual 160, 3) := by decide +kernel
theorem dX11_distance_55 : decode cX11_distance 55 = .ok (.aload_n 0, 1) := by decide +kernel
theorem dX11_distance_56 : decode cX11_distance 56 = .ok (.iload_n 2, 1) := by decide +kernel
theorem dX11_distance_57 : decode cX11_distance 57 = .ok (.bipush 12, 2) := by decide +kernel
theorem dX11_distance_59 : decode cX11_distance 59 = .ok (.invokevirtual 160, 3) := by decide +kernel
theorem dX11_distance_62 : decode cX11_distance 62 = .ok (.aload_n 0, 1) := by decide +kernel
theorem dX11_distance_63 : decode cX11_distance 63 = .ok (.iload_n 2, 1) := by decide +kernel
theorem dX11_distance_64 : decode cX11_distance 64 = .ok (.bipush 13, 2) := by decide +kernel
theorem dX11_distance_66 : decode cX11_distance 66 = .ok (.invokevirtual 160, 3) := by decide +kernel
theorem dX11_distance_69 : decode cX11_distance 69 = .ok (.invokevirtual 387, 3) := by decide +kernel
theorem dX11_distance_72 : decode cX11_distance 72 = .ok (.ireturn, 1) := by decide +kernel
theorem dX11_lostMany_0 : decode cX11_lostMany 0 = .ok (.iconst 0, 1) := by decide +kernel
theorem dX11_lostMany_1 : decode cX11_lostMany 1 = .ok (.istore_n 1, 1) := by decide +kernel
theorem dX11_lostMany_2 : decode cX11_lostMany 2 = .ok (.iconst 0, 1) := by decide +kernel
theorem dX11_lostMany_3 : decode cX11_lostMany 3 = .ok (.istore_n 2, 1) := by decide +kernel
theorem dX11_lostMany_4 : decode cX11_lostMany 4 = .ok (.iload_n 2, 1) := by decide +kernel
theorem dX11_lostMany_5 : decode cX11_lostMany 5 = .ok (.aload_n 0, 1) := by decide +kernel
theorem dX11_lostMany_6 : decode cX11_lostMany 6 = .ok (.sipush 292, 3) := by decide +kernel
theorem dX11_lostMany_9 : decode cX11_lostMany 9 = .ok (.invokevirtual 340, 3) := by decide +kernel
theorem dX11_lostMany_12 : decode cX11_lostMany 12 = .ok (.if_icmp .ge 27, 3) := by decide +kernel
theorem dX11_lostMany_15 : decode cX11_lostMany 15 = .ok (.iload_n 1, 1) := by decide +kernel
theorem dX11_lostMany_16 : decode cX11_lostMany 16 = .ok (.aload_n 0, 1) := by decide +kernel
theorem dX11_lostMany_17 : decode cX11_lostMany 17 = .ok (.iload_n 2, 1) := by decide +kernel
theorem dX11_lostMany_18 : decode cX11_lostMany 18 = .ok (.bipush 7, 2) := by decide +kernel
theorem dX11_lostMany_20 : decode cX11_lostMany 20 = .ok (.invokevirtual 352, 3) := by decide +kernel
theorem dX11_lostMany_23 : decode cX11_lostMany 23 = .ok (.ifCond .le 7, 3) := by decide +kernel
theorem dX11_lostMany_26 : decode cX11_lostMany 26 = .ok (.iconst 1, 1) := by decide +kernel
theorem dX11_lostMany_27 : decode cX11_lostMany 27 = .ok (.goto 4, 3) := by decide +kernel
theorem dX11_lostMany_30 : decode cX11_lostMany 30 = .ok (.iconst 0, 1) := by decide +kernel
theorem dX11_lostMany_31 : decode cX11_lostMany 31 = .ok (.iadd, 1) := by decide +kernel
theorem dX11_lostMany_32 : decode cX11_lostMany 32 = .ok (.istore_n 1, 1) := by decide +kernel
theorem dX11_lostMany_33 : decode cX11_lostMany 33 = .ok (.iinc 2 1, 3) := by decide +kernel
theorem dX11_lostMany_36 : decode cX11_lostMany 36 = .ok (.goto (-32), 3) := by decide +kernel
theorem dX11_lostMany_39 : decode cX11_lostMany 39 = .ok (.iload_n 1, 1) := by decide +kernel
theorem dX11_lostMany_40 : decode cX11_lostMany 40 = .ok (.ireturn, 1) := by decide +kernel
theorem dX11_tried_0 : decode cX11_tried 0 = .ok (.aload_n 0, 1) := by decide +kernel
theorem dX11_tried_1 : decode cX11_tried 1 = .ok (.iconst 0, 1) := by decide +kernel
theorem dX11_tried_2 : decode cX11_tried 2 = .ok (.putfield 76, 3) := by decide +kernel
theorem dX11_tried_5 : decode cX11_tried 5 = .ok (.iload_n 1, 1) := by decide +kernel
theorem dX11_tried_6 : decode cX11_tried 6 = .ok (.iconst 1, 1) := by decide +kernel
theorem dX11_tried_7 : decode cX11_tried 7 = .ok (.bipush 40, 2) := by decide +kernel
theorem dX11_tried_9 : decode cX11_tried 9 = .ok (.invokestatic 166, 3) := by decide +kernel
theorem dX11_tried_12 : decode cX11_tried 12 = .ok (.ifCond .eq 12, 3) := by decide +kernel
theorem dX11_tried_15 : decode cX11_tried 15 = .ok (.iload_n 2, 1) := by decide +kernel
theorem dX11_tried_16 : decode cX11_tried 16 = .ok (.iconst 0, 1) := by decide +kernel
theorem dX11_tried_17 : decode cX11_tried 17 = .ok (.iconst 2, 1) := by decide +kernel
theorem dX11_tried_18 : decode cX11_tried 18 = .ok (.invokestatic 166, 3) := by decide +kernel
theorem dX11_tried_21 : decode cX11_tried 21 = .ok (.ifCond .ne 5, 3) := by decide +kernel
theorem dX11_tried_24 : decode cX11_tried 24 = .ok (.iconst (-1), 1) := by decide +kernel
theorem dX11_tried_25 : decode cX11_tried 25 = .ok (.ireturn, 1) := by decide +kernel
theorem dX11_tried_26 : decode cX11_tried 26 = .ok (.aload_n 0, 1) := by decide +kernel
theorem dX11_tried_27 : decode cX11_tried 27 = .ok (.iconst 0, 1) := by decide +kernel
theorem dX11_tried_28 : decode cX11_tried 28 = .ok (.iconst 1, 1) := by decide +kernel
theorem dX11_tried_29 : decode cX11_tried 29 = .ok (.invokevirtual 343, 3) := by decide +kernel
theorem dX11_tried_32 : decode cX11_tried 32 = .ok (.aload_n 0, 1) := by decide +kernel
theorem dX11_tried_33 : decode cX11_tried 33 = .ok (.iconst 1, 1) := by decide +kernel
theorem dX11_tried_34 : decode cX11_tried 34 = .ok (.putfield 143, 3) := by decide +kernel
theorem dX11_tried_37 : decode cX11_tried 37 = .ok (.aload_n 0, 1) := by decide +kernel
theorem dX11_tried_38 : decode cX11_tried 38 = .ok (.iload_n 1, 1) := by decide +kernel
theorem dX11_tried_39 : decode cX11_tried 39 = .ok (.invokevirtual 362, 3) := by decide +kernel
theorem dX11_tried_42 : decode cX11_tried 42 = .ok (.pop, 1) := by decide +kernel
theorem dX11_tried_43 : decode cX11_tried 43 = .ok (.iload_n 2, 1) := by decide +kernel
theorem dX11_tried_44 : decode cX11_tried 44 = .ok (.ifCond .ne 10, 3) := by decide +kernel
theorem dX11_tried_47 : decode cX11_tried 47 = .ok (.aload_n 0, 1) := by decide +kernel
theorem dX11_tried_48 : decode cX11_tried 48 = .ok (.invokevirtual 409, 3) := by decide +kernel
theorem dX11_tried_51 : decode cX11_tried 51 = .ok (.goto 4, 3) := by decide +kernel
theorem dX11_tried_54 : decode cX11_tried 54 = .ok (.iconst 0, 1) := by decide +kernel
theorem dX11_tried_55 : decode cX11_tried 55 = .ok (.istore_n 3, 1) := by decide +kernel
theorem dX11_tried_56 : decode cX11_tried 56 = .ok (.iconst 0, 1) := by decide +kernel
theorem dX11_tried_57 : decode cX11_tried 57 = .ok (.istore 4, 2) := by decide +kernel
theorem dX11_tried_59 : decode cX11_tried 59 = .ok (.iload 4, 2) := by decide +kernel
theorem dX11_tried_61 : decode cX11_tried 61 = .ok (.aload_n 0, 1) := by decide +kernel
theorem dX11_tried_62 : decode cX11_tried 62 = .ok (.sipush 292, 3) := by decide +kernel
theorem dX11_tried_65 : decode cX11_tried 65 = .ok (.invokevirtual 340, 3) := by decide +kernel
theorem dX11_tried_68 : decode cX11_tried 68 = .ok (.if_icmp .ge 38, 3) := by decide +kernel
theorem dX11_tried_71 : decode cX11_tried 71 = .ok (.iload_n 2, 1) := by decide +kernel
theorem dX11_tried_72 : decode cX11_tried 72 = .ok (.ifCond .le 34, 3) := by decide +kernel
theorem dX11_tried_75 : decode cX11_tried 75 = .ok (.aload_n 0, 1) := by decide +kernel
theorem dX11_tried_76 : decode cX11_tried 76 = .ok (.iload 4, 2) := by decide +kernel
theorem dX11_tried_78 : decode cX11_tried 78 = .ok (.invokevirtual 378, 3) := by decide +kernel
theorem dX11_tried_81 : decode cX11_tried 81 = .ok (.iload_n 3, 1) := by decide +kernel
theorem dX11_tried_82 : decode cX11_tried 82 = .ok (.iload_n 2, 1) := by decide +kernel
theorem dX11_tried_83 : decode cX11_tried 83 = .ok (.iconst 1, 1) := by decide +kernel
theorem dX11_tried_84 : decode cX11_tried 84 = .ok (.if_icmp .ne 10, 3) := by decide +kernel
theorem dX11_tried_87 : decode cX11_tried 87 = .ok (.aload_n 0, 1) := by decide +kernel
theorem dX11_tried_88 : decode cX11_tried 88 = .ok (.getfield 368, 3) := by decide +kernel
theorem dX11_tried_91 : decode cX11_tried 91 = .ok (.goto 7, 3) := by decide +kernel
theorem dX11_tried_94 : decode cX11_tried 94 = .ok (.aload_n 0, 1) := by decide +kernel
theorem dX11_tried_95 : decode cX11_tried 95 = .ok (.getfield 371, 3) := by decide +kernel
theorem dX11_tried_98 : decode cX11_tried 98 = .ok (.iadd, 1) := by decide +kernel
theorem dX11_tried_99 : decode cX11_tried 99 = .ok (.istore_n 3, 1) := by decide +kernel
theorem dX11_tried_100 : decode cX11_tried 100 = .ok (.iinc 4 1, 3) := by decide +kernel
theorem dX11_tried_103 : decode cX11_tried 103 = .ok (.goto (-44), 3) := by decide +kernel
theorem dX11_tried_106 : decode cX11_tried 106 = .ok (.aload_n 0, 1) := by decide +kernel
theorem dX11_tried_107 : decode cX11_tried 107 = .ok (.iconst 0, 1) := by decide +kernel
theorem dX11_tried_108 : decode cX11_tried 108 = .ok (.putfield 143, 3) := by decide +kernel
theorem dX11_tried_111 : decode cX11_tried 111 = .ok (.iload_n 3, 1) := by decide +kernel
theorem dX11_tried_112 : decode cX11_tried 112 = .ok (.ireturn, 1) := by decide +kernel
theorem dX11_birdsWith_0 : decode cX11_birdsWith 0 = .ok (.iconst 0, 1) := by decide +kernel
theorem dX11_birdsWith_1 : decode cX11_birdsWith 1 = .ok (.istore_n 2, 1) := by decide +kernel
theorem dX11_birdsWith_2 : decode cX11_birdsWith 2 = .ok (.iconst 0, 1) := by decide +kernel
theorem dX11_birdsWith_3 : decode cX11_birdsWith 3 = .ok (.istore_n 3, 1) := by decide +kernel
theorem dX11_birdsWith_4 : decode cX11_birdsWith 4 = .ok (.iload_n 3, 1) := by decide +kernel
theorem dX11_birdsWith_5 : decode cX11_birdsWith 5 = .ok (.aload_n 0, 1) := by decide +kernel
theorem dX11_birdsWith_6 : decode cX11_birdsWith 6 = .ok (.getfield 121, 3) := by decide +kernel
theorem dX11_birdsWith_9 : decode cX11_birdsWith 9 = .ok (.if_icmp .ge 26, 3) := by decide +kernel
theorem dX11_birdsWith_12 : decode cX11_birdsWith 12 = .ok (.iload_n 2, 1) := by decide +kernel
theorem dX11_birdsWith_13 : decode cX11_birdsWith 13 = .ok (.aload_n 0, 1) := by decide +kernel
theorem dX11_birdsWith_14 : decode cX11_birdsWith 14 = .ok (.iload_n 3, 1) := by decide +kernel
theorem dX11_birdsWith_15 : decode cX11_birdsWith 15 = .ok (.iload_n 1, 1) := by decide +kernel
theorem dX11_birdsWith_16 : decode cX11_birdsWith 16 = .ok (.invokevirtual 160, 3) := by decide +kernel
theorem dX11_birdsWith_19 : decode cX11_birdsWith 19 = .ok (.ifCond .le 7, 3) := by decide +kernel
theorem dX11_birdsWith_22 : decode cX11_birdsWith 22 = .ok (.iconst 1, 1) := by decide +kernel
theorem dX11_birdsWith_23 : decode cX11_birdsWith 23 = .ok (.goto 4, 3) := by decide +kernel
theorem dX11_birdsWith_26 : decode cX11_birdsWith 26 = .ok (.iconst 0, 1) := by decide +kernel
theorem dX11_birdsWith_27 : decode cX11_birdsWith 27 = .ok (.iadd, 1) := by decide +kernel
theorem dX11_birdsWith_28 : decode cX11_birdsWith 28 = .ok (.istore_n 2, 1) := by decide +kernel
theorem dX11_birdsWith_29 : decode cX11_birdsWith 29 = .ok (.iinc 3 1, 3) := by decide +kernel
theorem dX11_birdsWith_32 : decode cX11_birdsWith 32 = .ok (.goto (-28), 3) := by decide +kernel
theorem dX11_birdsWith_35 : decode cX11_birdsWith 35 = .ok (.iload_n 2, 1) := by decide +kernel
theorem dX11_birdsWith_36 : decode cX11_birdsWith 36 = .ok (.ireturn, 1) := by decide +kernel
theorem dX11_count_0 : decode cX11_count 0 = .ok (.aload_n 0, 1) := by decide +kernel
theorem dX11_count_1 : decode cX11_count 1 = .ok (.iconst 0, 1) := by decide +kernel
theorem dX11_count_2 : decode cX11_count 2 = .ok (.putfield 76, 3) := by decide +kernel
theorem dX11_count_5 : decode cX11_count 5 = .ok (.iconst 0, 1) := by decide +kernel
theorem dX11_count_6 : decode cX11_count 6 = .ok (.istore_n 2, 1) := by decide +kernel
theorem dX11_count_7 : decode cX11_count 7 = .ok (.iload_n 1, 1) := by decide +kernel
theorem dX11_count_8 : decode cX11_count 8 = .ok (.tableswitch 184 0 12 #[68, 73, 79, 87, 92, 97, 104, 142, 150, 158, 166, 174, 179], 68) := by decide +kernel
theorem dX11_count_76 : decode cX11_count 76 = .ok (.aload_n 0, 1) := by decide +kernel
theorem dX11_count_77 : decode cX11_count 77 = .ok (.getfield 121, 3) := by decide +kernel
theorem dX11_count_80 : decode cX11_count 80 = .ok (.ireturn, 1) := by decide +kernel
theorem dX11_count_81 : decode cX11_count 81 = .ok (.aload_n 0, 1) := by decide +kernel
theorem dX11_count_82 : decode cX11_count 82 = .ok (.iconst 2, 1) := by decide +kernel
theorem dX11_count_83 : decode cX11_count 83 = .ok (.invokevirtual 412, 3) := by decide +kernel
theorem dX11_count_86 : decode cX11_count 86 = .ok (.ireturn, 1) := by decide +kernel
theorem dX11_count_87 : decode cX11_count 87 = .ok (.aload_n 0, 1) := by decide +kernel
theorem dX11_count_88 : decode cX11_count 88 = .ok (.sipush 292, 3) := by decide +kernel
theorem dX11_count_91 : decode cX11_count 91 = .ok (.invokevirtual 340, 3) := by decide +kernel
theorem dX11_count_94 : decode cX11_count 94 = .ok (.ireturn, 1) := by decide +kernel
theorem dX11_count_95 : decode cX11_count 95 = .ok (.aload_n 0, 1) := by decide +kernel
theorem dX11_count_96 : decode cX11_count 96 = .ok (.invokevirtual 409, 3) := by decide +kernel
theorem dX11_count_99 : decode cX11_count 99 = .ok (.ireturn, 1) := by decide +kernel
theorem dX11_count_100 : decode cX11_count 100 = .ok (.aload_n 0, 1) := by decide +kernel
theorem dX11_count_101 : decode cX11_count 101 = .ok (.getfield 124, 3) := by decide +kernel
theorem dX11_count_104 : decode cX11_count 104 = .ok (.ireturn, 1) := by decide +kernel
theorem dX11_count_105 : decode cX11_count 105 = .ok (.aload_n 0, 1) := by decide +kernel
theorem dX11_count_106 : decode cX11_count 106 = .ok (.bipush 10, 2) := by decide +kernel
theorem dX11_count_108 : decode cX11_count 108 = .ok (.invokevirtual 412, 3) := by decide +kernel
theorem dX11_count_111 : decode cX11_count 111 = .ok (.ireturn, 1) := by decide +kernel
theorem dX11_count_112 : decode cX11_count 112 = .ok (.iconst 0, 1) := by decide +kernel
theorem dX11_count_113 : decode cX11_count 113 = .ok (.istore_n 3, 1) := by decide +kernel
theorem dX11_count_114 : decode cX11_count 114 = .ok (.iload_n 3, 1) := by decide +kernel
theorem dX11_count_115 : decode cX11_count 115 = .ok (.aload_n 0, 1) := by decide +kernel
theorem dX11_count_116 : decode cX11_count 116 = .ok (.getfield 121, 3) := by decide +kernel
theorem dX11_count_119 : decode cX11_count 119 = .ok (.if_icmp .ge 29, 3) := by decide +kernel
theorem dX11_count_122 : decode cX11_count 122 = .ok (.iload_n 2, 1) := by decide +kernel
theorem dX11_count_123 : decode cX11_count 123 = .ok (.aload_n 0, 1) := by decide +kernel
theorem dX11_count_124 : decode cX11_count 124 = .ok (.sipush 293, 3) := by decide +kernel
theorem dX11_count_127 : decode cX11_count 127 = .ok (.iload_n 3, 1) := by decide +kernel
theorem dX11_count_128 : decode cX11_count 128 = .ok (.iadd, 1) := by decide +kernel
theorem dX11_count_129 : decode cX11_count 129 = .ok (.invokevirtual 340, 3) := by decide +kernel
theorem dX11_count_132 : decode cX11_count 132 = .ok (.ifCond .lt 7, 3) := by decide +kernel
theorem dX11_count_135 : decode cX11_count 135 = .ok (.iconst 1, 1) := by decide +kernel
theorem dX11_count_136 : decode cX11_count 136 = .ok (.goto 4, 3) := by decide +kernel
theorem dX11_count_139 : decode cX11_count 139 = .ok (.iconst 0, 1) := by decide +kernel
theorem dX11_count_140 : decode cX11_count 140 = .ok (.iadd, 1) := by decide +kernel
theorem dX11_count_141 : decode cX11_count 141 = .ok (.istore_n 2, 1) := by decide +kernel
theorem dX11_count_142 : decode cX11_count 142 = .ok (.iinc 3 1, 3) := by decide +kernel
theorem dX11_count_145 : decode cX11_count 145 = .ok (.goto (-31), 3) := by decide +kernel
theorem dX11_count_148 : decode cX11_count 148 = .ok (.iload_n 2, 1) := by decide +kernel
theorem dX11_count_149 : decode cX11_count 149 = .ok (.ireturn, 1) := by decide +kernel
theorem dX11_count_150 : decode cX11_count 150 = .ok (.aload_n 0, 1) := by decide +kernel
theorem dX11_count_151 : decode cX11_count 151 = .ok (.getfield 26, 3) := by decide +kernel
theorem dX11_count_154 : decode cX11_count 154 = .ok (.bipush 9, 2) := by decide +kernel
theorem dX11_count_156 : decode cX11_count 156 = .ok (.iaload, 1) := by decide +kernel
theorem dX11_count_157 : decode cX11_count 157 = .ok (.ireturn, 1) := by decide +kernel
theorem dX11_count_158 : decode cX11_count 158 = .ok (.aload_n 0, 1) := by decide +kernel
theorem dX11_count_159 : decode cX11_count 159 = .ok (.getfield 26, 3) := by decide +kernel
theorem dX11_count_162 : decode cX11_count 162 = .ok (.bipush 11, 2) := by decide +kernel
theorem dX11_count_164 : decode cX11_count 164 = .ok (.iaload, 1) := by decide +kernel
theorem dX11_count_165 : decode cX11_count 165 = .ok (.ireturn, 1) := by decide +kernel
theorem dX11_count_166 : decode cX11_count 166 = .ok (.aload_n 0, 1) := by decide +kernel
theorem dX11_count_167 : decode cX11_count 167 = .ok (.getfield 26, 3) := by decide +kernel
theorem dX11_count_170 : decode cX11_count 170 = .ok (.bipush 7, 2) := by decide +kernel
theorem dX11_count_172 : decode cX11_count 172 = .ok (.iaload, 1) := by decide +kernel
theorem dX11_count_173 : decode cX11_count 173 = .ok (.ireturn, 1) := by decide +kernel
theorem dX11_count_174 : decode cX11_count 174 = .ok (.aload_n 0, 1) := by decide +kernel
theorem dX11_count_175 : decode cX11_count 175 = .ok (.getfield 26, 3) := by decide +kernel
theorem dX11_count_178 : decode cX11_count 178 = .ok (.bipush 8, 2) := by decide +kernel
theorem dX11_count_180 : decode cX11_count 180 = .ok (.iaload, 1) := by decide +kernel
theorem dX11_count_181 : decode cX11_count 181 = .ok (.ireturn, 1) := by decide +kernel
theorem dX11_count_182 : decode cX11_count 182 = .ok (.aload_n 0, 1) := by decide +kernel
theorem dX11_count_183 : decode cX11_count 183 = .ok (.getfield 79, 3) := by decide +kernel
theorem dX11_count_186 : decode cX11_count 186 = .ok (.ireturn, 1) := by decide +kernel
theorem dX11_count_187 : decode cX11_count 187 = .ok (.aload_n 0, 1) := by decide +kernel
theorem dX11_count_188 : decode cX11_count 188 = .ok (.getfield 146, 3) := by decide +kernel
theorem dX11_count_191 : decode cX11_count 191 = .ok (.ireturn, 1) := by decide +kernel
theorem dX11_count_192 : decode cX11_count 192 = .ok (.iconst (-1), 1) := by decide +kernel
theorem dX11_count_193 : decode cX11_count 193 = .ok (.ireturn, 1) := by decide +kernel
theorem dJ6_bitCount_0f7a4_0 : decode cJ6_bitCount_0f7a4 0 = .ok (.iload_n 0, 1) := by decide +kernel
theorem dJ6_bitCount_0f7a4_1 : decode cJ6_bitCount_0f7a4 1 = .ok (.iload_n 0, 1) := by decide +kernel
theorem dJ6_bitCount_0f7a4_2 : decode cJ6_bitCount_0f7a4 2 = .ok (.iconst 1, 1) := by decide +kernel
theorem dJ6_bitCount_0f7a4_3 : decode cJ6_bitCount_0f7a4 3 = .ok (.iushr, 1) := by decide +kernel
theorem dJ6_bitCount_0f7a4_4 : decode cJ6_bitCount_0f7a4 4 = .ok (.ldc_w 265, 3) := by decide +kernel
theorem dJ6_bitCount_0f7a4_7 : decode cJ6_bitCount_0f7a4 7 = .ok (.iand, 1) := by decide +kernel
theorem dJ6_bitCount_0f7a4_8 : decode cJ6_bitCount_0f7a4 8 = .ok (.isub, 1) := by decide +kernel
theorem dJ6_bitCount_0f7a4_9 : decode cJ6_bitCount_0f7a4 9 = .ok (.istore_n 0, 1) := by decide +kernel
theorem dJ6_bitCount_0f7a4_10 : decode cJ6_bitCount_0f7a4 10 = .ok (.iload_n 0, 1) := by decide +kernel
theorem dJ6_bitCount_0f7a4_11 : decode cJ6_bitCount_0f7a4 11 = .ok (.ldc_w 266, 3) := by decide +kernel
theorem dJ6_bitCount_0f7a4_14 : decode cJ6_bitCount_0f7a4 14 = .ok (.iand, 1) := by decide +kernel
theorem dJ6_bitCount_0f7a4_15 : decode cJ6_bitCount_0f7a4 15 = .ok (.iload_n 0, 1) := by decide +kernel
theorem dJ6_bitCount_0f7a4_16 : decode cJ6_bitCount_0f7a4 16 = .ok (.iconst 2, 1) := by decide +kernel
theorem dJ6_bitCount_0f7a4_17 : decode cJ6_bitCount_0f7a4 17 = .ok (.iushr, 1) := by decide +kernel
theorem dJ6_bitCount_0f7a4_18 : decode cJ6_bitCount_0f7a4 18 = .ok (.ldc_w 266, 3) := by decide +kernel
theorem dJ6_bitCount_0f7a4_21 : decode cJ6_bitCount_0f7a4 21 = .ok (.iand, 1) := by decide +kernel
theorem dJ6_bitCount_0f7a4_22 : decode cJ6_bitCount_0f7a4 22 = .ok (.iadd, 1) := by decide +kernel
theorem dJ6_bitCount_0f7a4_23 : decode cJ6_bitCount_0f7a4 23 = .ok (.istore_n 0, 1) := by decide +kernel
theorem dJ6_bitCount_0f7a4_24 : decode cJ6_bitCount_0f7a4 24 = .ok (.iload_n 0, 1) := by decide +kernel
theorem dJ6_bitCount_0f7a4_25 : decode cJ6_bitCount_0f7a4 25 = .ok (.iload_n 0, 1) := by decide +kernel
theorem dJ6_bitCount_0f7a4_26 : decode cJ6_bitCount_0f7a4 26 = .ok (.iconst 4, 1) := by decide +kernel
theorem dJ6_bitCount_0f7a4_27 : decode cJ6_bitCount_0f7a4 27 = .ok (.iushr, 1) := by decide +kernel
theorem dJ6_bitCount_0f7a4_28 : decode cJ6_bitCount_0f7a4 28 = .ok (.iadd, 1) := by decide +kernel
theorem dJ6_bitCount_0f7a4_29 : decode cJ6_bitCount_0f7a4 29 = .ok (.ldc_w 267, 3) := by decide +kernel
theorem dJ6_bitCount_0f7a4_32 : decode cJ6_bitCount_0f7a4 32 = .ok (.iand, 1) := by decide +kernel
