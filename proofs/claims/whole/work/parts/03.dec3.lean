theorem dX13_read_207 : decode cX13_read 207 = .ok (.iaload, 1) := by decide +kernel
theorem dX13_read_208 : decode cX13_read 208 = .ok (.iaload, 1) := by decide +kernel
theorem dX13_read_209 : decode cX13_read 209 = .ok (.iastore, 1) := by decide +kernel
theorem dX13_read_210 : decode cX13_read 210 = .ok (.iinc 2 1, 3) := by decide +kernel
theorem dX13_read_213 : decode cX13_read 213 = .ok (.goto (-37), 3) := by decide +kernel
theorem dX13_read_216 : decode cX13_read 216 = .ok (.iconst 0, 1) := by decide +kernel
theorem dX13_read_217 : decode cX13_read 217 = .ok (.ireturn, 1) := by decide +kernel
theorem dX13_feed_0 : decode cX13_feed 0 = .ok (.aload_n 0, 1) := by decide +kernel
theorem dX13_feed_1 : decode cX13_feed 1 = .ok (.iconst 0, 1) := by decide +kernel
theorem dX13_feed_2 : decode cX13_feed 2 = .ok (.putfield 54, 3) := by decide +kernel
theorem dX13_feed_5 : decode cX13_feed 5 = .ok (.aload_n 0, 1) := by decide +kernel
theorem dX13_feed_6 : decode cX13_feed 6 = .ok (.getfield 79, 3) := by decide +kernel
theorem dX13_feed_9 : decode cX13_feed 9 = .ok (.sipush 1980, 3) := by decide +kernel
theorem dX13_feed_12 : decode cX13_feed 12 = .ok (.if_icmp .le 9, 3) := by decide +kernel
theorem dX13_feed_15 : decode cX13_feed 15 = .ok (.aload_n 0, 1) := by decide +kernel
theorem dX13_feed_16 : decode cX13_feed 16 = .ok (.iconst 1, 1) := by decide +kernel
theorem dX13_feed_17 : decode cX13_feed 17 = .ok (.invokevirtual 234, 3) := by decide +kernel
theorem dX13_feed_20 : decode cX13_feed 20 = .ok (.ireturn, 1) := by decide +kernel
theorem dX13_feed_21 : decode cX13_feed 21 = .ok (.iconst 5, 1) := by decide +kernel
theorem dX13_feed_22 : decode cX13_feed 22 = .ok (.newarray .int, 2) := by decide +kernel
theorem dX13_feed_24 : decode cX13_feed 24 = .ok (.dup, 1) := by decide +kernel
theorem dX13_feed_25 : decode cX13_feed 25 = .ok (.iconst 0, 1) := by decide +kernel
theorem dX13_feed_26 : decode cX13_feed 26 = .ok (.iload_n 1, 1) := by decide +kernel
theorem dX13_feed_27 : decode cX13_feed 27 = .ok (.iastore, 1) := by decide +kernel
theorem dX13_feed_28 : decode cX13_feed 28 = .ok (.dup, 1) := by decide +kernel
theorem dX13_feed_29 : decode cX13_feed 29 = .ok (.iconst 1, 1) := by decide +kernel
theorem dX13_feed_30 : decode cX13_feed 30 = .ok (.iload_n 2, 1) := by decide +kernel
theorem dX13_feed_31 : decode cX13_feed 31 = .ok (.iastore, 1) := by decide +kernel
theorem dX13_feed_32 : decode cX13_feed 32 = .ok (.dup, 1) := by decide +kernel
theorem dX13_feed_33 : decode cX13_feed 33 = .ok (.iconst 2, 1) := by decide +kernel
theorem dX13_feed_34 : decode cX13_feed 34 = .ok (.iload_n 3, 1) := by decide +kernel
theorem dX13_feed_35 : decode cX13_feed 35 = .ok (.iastore, 1) := by decide +kernel
theorem dX13_feed_36 : decode cX13_feed 36 = .ok (.dup, 1) := by decide +kernel
theorem dX13_feed_37 : decode cX13_feed 37 = .ok (.iconst 3, 1) := by decide +kernel
theorem dX13_feed_38 : decode cX13_feed 38 = .ok (.iload 4, 2) := by decide +kernel
theorem dX13_feed_40 : decode cX13_feed 40 = .ok (.iastore, 1) := by decide +kernel
theorem dX13_feed_41 : decode cX13_feed 41 = .ok (.dup, 1) := by decide +kernel
theorem dX13_feed_42 : decode cX13_feed 42 = .ok (.iconst 4, 1) := by decide +kernel
theorem dX13_feed_43 : decode cX13_feed 43 = .ok (.iload 5, 2) := by decide +kernel
theorem dX13_feed_45 : decode cX13_feed 45 = .ok (.iastore, 1) := by decide +kernel
theorem dX13_feed_46 : decode cX13_feed 46 = .ok (.astore 6, 2) := by decide +kernel
theorem dX13_feed_48 : decode cX13_feed 48 = .ok (.iconst 0, 1) := by decide +kernel
theorem dX13_feed_49 : decode cX13_feed 49 = .ok (.istore 7, 2) := by decide +kernel
theorem dX13_feed_51 : decode cX13_feed 51 = .ok (.iload 7, 2) := by decide +kernel
theorem dX13_feed_53 : decode cX13_feed 53 = .ok (.bipush 20, 2) := by decide +kernel
theorem dX13_feed_55 : decode cX13_feed 55 = .ok (.if_icmp .ge 43, 3) := by decide +kernel
theorem dX13_feed_58 : decode cX13_feed 58 = .ok (.aload_n 0, 1) := by decide +kernel
theorem dX13_feed_59 : decode cX13_feed 59 = .ok (.getfield 9, 3) := by decide +kernel
theorem dX13_feed_62 : decode cX13_feed 62 = .ok (.aload_n 0, 1) := by decide +kernel
theorem dX13_feed_63 : decode cX13_feed 63 = .ok (.getfield 79, 3) := by decide +kernel
theorem dX13_feed_66 : decode cX13_feed 66 = .ok (.iload 7, 2) := by decide +kernel
theorem dX13_feed_68 : decode cX13_feed 68 = .ok (.iadd, 1) := by decide +kernel
theorem dX13_feed_69 : decode cX13_feed 69 = .ok (.aload 6, 2) := by decide +kernel
theorem dX13_feed_71 : decode cX13_feed 71 = .ok (.iload 7, 2) := by decide +kernel
theorem dX13_feed_73 : decode cX13_feed 73 = .ok (.iconst 4, 1) := by decide +kernel
theorem dX13_feed_74 : decode cX13_feed 74 = .ok (.idiv, 1) := by decide +kernel
theorem dX13_feed_75 : decode cX13_feed 75 = .ok (.iaload, 1) := by decide +kernel
theorem dX13_feed_76 : decode cX13_feed 76 = .ok (.bipush 24, 2) := by decide +kernel
theorem dX13_feed_78 : decode cX13_feed 78 = .ok (.bipush 8, 2) := by decide +kernel
theorem dX13_feed_80 : decode cX13_feed 80 = .ok (.iload 7, 2) := by decide +kernel
theorem dX13_feed_82 : decode cX13_feed 82 = .ok (.iconst 4, 1) := by decide +kernel
theorem dX13_feed_83 : decode cX13_feed 83 = .ok (.irem, 1) := by decide +kernel
theorem dX13_feed_84 : decode cX13_feed 84 = .ok (.imul, 1) := by decide +kernel
theorem dX13_feed_85 : decode cX13_feed 85 = .ok (.isub, 1) := by decide +kernel
theorem dX13_feed_86 : decode cX13_feed 86 = .ok (.ishr, 1) := by decide +kernel
theorem dX13_feed_87 : decode cX13_feed 87 = .ok (.sipush 255, 3) := by decide +kernel
theorem dX13_feed_90 : decode cX13_feed 90 = .ok (.iand, 1) := by decide +kernel
theorem dX13_feed_91 : decode cX13_feed 91 = .ok (.iastore, 1) := by decide +kernel
theorem dX13_feed_92 : decode cX13_feed 92 = .ok (.iinc 7 1, 3) := by decide +kernel
theorem dX13_feed_95 : decode cX13_feed 95 = .ok (.goto (-44), 3) := by decide +kernel
theorem dX13_feed_98 : decode cX13_feed 98 = .ok (.aload_n 0, 1) := by decide +kernel
theorem dX13_feed_99 : decode cX13_feed 99 = .ok (.dup, 1) := by decide +kernel
theorem dX13_feed_100 : decode cX13_feed 100 = .ok (.getfield 79, 3) := by decide +kernel
theorem dX13_feed_103 : decode cX13_feed 103 = .ok (.bipush 20, 2) := by decide +kernel
theorem dX13_feed_105 : decode cX13_feed 105 = .ok (.iadd, 1) := by decide +kernel
theorem dX13_feed_106 : decode cX13_feed 106 = .ok (.putfield 79, 3) := by decide +kernel
theorem dX13_feed_109 : decode cX13_feed 109 = .ok (.aload_n 0, 1) := by decide +kernel
theorem dX13_feed_110 : decode cX13_feed 110 = .ok (.getfield 79, 3) := by decide +kernel
theorem dX13_feed_113 : decode cX13_feed 113 = .ok (.ireturn, 1) := by decide +kernel
theorem dX13_trim_0 : decode cX13_trim 0 = .ok (.aload_n 0, 1) := by decide +kernel
theorem dX13_trim_1 : decode cX13_trim 1 = .ok (.iconst 0, 1) := by decide +kernel
theorem dX13_trim_2 : decode cX13_trim 2 = .ok (.putfield 54, 3) := by decide +kernel
theorem dX13_trim_5 : decode cX13_trim 5 = .ok (.iload_n 1, 1) := by decide +kernel
theorem dX13_trim_6 : decode cX13_trim 6 = .ok (.iconst 0, 1) := by decide +kernel
theorem dX13_trim_7 : decode cX13_trim 7 = .ok (.aload_n 0, 1) := by decide +kernel
theorem dX13_trim_8 : decode cX13_trim 8 = .ok (.getfield 79, 3) := by decide +kernel
theorem dX13_trim_11 : decode cX13_trim 11 = .ok (.invokestatic 60, 3) := by decide +kernel
theorem dX13_trim_14 : decode cX13_trim 14 = .ok (.ifCond .ne 9, 3) := by decide +kernel
theorem dX13_trim_17 : decode cX13_trim 17 = .ok (.aload_n 0, 1) := by decide +kernel
theorem dX13_trim_18 : decode cX13_trim 18 = .ok (.iconst 1, 1) := by decide +kernel
theorem dX13_trim_19 : decode cX13_trim 19 = .ok (.invokevirtual 234, 3) := by decide +kernel
theorem dX13_trim_22 : decode cX13_trim 22 = .ok (.ireturn, 1) := by decide +kernel
theorem dX13_trim_23 : decode cX13_trim 23 = .ok (.aload_n 0, 1) := by decide +kernel
theorem dX13_trim_24 : decode cX13_trim 24 = .ok (.iload_n 1, 1) := by decide +kernel
theorem dX13_trim_25 : decode cX13_trim 25 = .ok (.putfield 79, 3) := by decide +kernel
theorem dX13_trim_28 : decode cX13_trim 28 = .ok (.iload_n 1, 1) := by decide +kernel
theorem dX13_trim_29 : decode cX13_trim 29 = .ok (.ireturn, 1) := by decide +kernel
theorem dX13_teach_0 : decode cX13_teach 0 = .ok (.aload_n 0, 1) := by decide +kernel
theorem dX13_teach_1 : decode cX13_teach 1 = .ok (.iconst 0, 1) := by decide +kernel
theorem dX13_teach_2 : decode cX13_teach 2 = .ok (.putfield 54, 3) := by decide +kernel
theorem dX13_teach_5 : decode cX13_teach 5 = .ok (.aload_n 0, 1) := by decide +kernel
theorem dX13_teach_6 : decode cX13_teach 6 = .ok (.iconst (-1), 1) := by decide +kernel
theorem dX13_teach_7 : decode cX13_teach 7 = .ok (.putfield 13, 3) := by decide +kernel
theorem dX13_teach_10 : decode cX13_teach 10 = .ok (.aload_n 0, 1) := by decide +kernel
theorem dX13_teach_11 : decode cX13_teach 11 = .ok (.invokevirtual 237, 3) := by decide +kernel
theorem dX13_teach_14 : decode cX13_teach 14 = .ok (.istore_n 1, 1) := by decide +kernel
theorem dX13_teach_15 : decode cX13_teach 15 = .ok (.aload_n 0, 1) := by decide +kernel
theorem dX13_teach_16 : decode cX13_teach 16 = .ok (.iconst 0, 1) := by decide +kernel
theorem dX13_teach_17 : decode cX13_teach 17 = .ok (.putfield 79, 3) := by decide +kernel
theorem dX13_teach_20 : decode cX13_teach 20 = .ok (.iload_n 1, 1) := by decide +kernel
theorem dX13_teach_21 : decode cX13_teach 21 = .ok (.ifCond .le 5, 3) := by decide +kernel
theorem dX13_teach_24 : decode cX13_teach 24 = .ok (.iload_n 1, 1) := by decide +kernel
theorem dX13_teach_25 : decode cX13_teach 25 = .ok (.ireturn, 1) := by decide +kernel
theorem dX13_teach_26 : decode cX13_teach 26 = .ok (.aload_n 0, 1) := by decide +kernel
theorem dX13_teach_27 : decode cX13_teach 27 = .ok (.aload_n 0, 1) := by decide +kernel
theorem dX13_teach_28 : decode cX13_teach 28 = .ok (.getfield 39, 3) := by decide +kernel
theorem dX13_teach_31 : decode cX13_teach 31 = .ok (.putfield 35, 3) := by decide +kernel
theorem dX13_teach_34 : decode cX13_teach 34 = .ok (.iconst 0, 1) := by decide +kernel
theorem dX13_teach_35 : decode cX13_teach 35 = .ok (.istore_n 2, 1) := by decide +kernel
theorem dX13_teach_36 : decode cX13_teach 36 = .ok (.iload_n 2, 1) := by decide +kernel
theorem dX13_teach_37 : decode cX13_teach 37 = .ok (.aload_n 0, 1) := by decide +kernel
theorem dX13_teach_38 : decode cX13_teach 38 = .ok (.getfield 35, 3) := by decide +kernel
theorem dX13_teach_41 : decode cX13_teach 41 = .ok (.getfield 57, 3) := by decide +kernel
theorem dX13_teach_44 : decode cX13_teach 44 = .ok (.if_icmp .ge 40, 3) := by decide +kernel
theorem dX13_teach_47 : decode cX13_teach 47 = .ok (.aload_n 0, 1) := by decide +kernel
theorem dX13_teach_48 : decode cX13_teach 48 = .ok (.getfield 47, 3) := by decide +kernel
theorem dX13_teach_51 : decode cX13_teach 51 = .ok (.iload_n 2, 1) := by decide +kernel
theorem dX13_teach_52 : decode cX13_teach 52 = .ok (.aload_n 0, 1) := by decide +kernel
theorem dX13_teach_53 : decode cX13_teach 53 = .ok (.getfield 35, 3) := by decide +kernel
theorem dX13_teach_56 : decode cX13_teach 56 = .ok (.getfield 213, 3) := by decide +kernel
theorem dX13_teach_59 : decode cX13_teach 59 = .ok (.iconst 5, 1) := by decide +kernel
theorem dX13_teach_60 : decode cX13_teach 60 = .ok (.iload_n 2, 1) := by decide +kernel
theorem dX13_teach_61 : decode cX13_teach 61 = .ok (.imul, 1) := by decide +kernel
theorem dX13_teach_62 : decode cX13_teach 62 = .ok (.iconst 2, 1) := by decide +kernel
theorem dX13_teach_63 : decode cX13_teach 63 = .ok (.iadd, 1) := by decide +kernel
theorem dX13_teach_64 : decode cX13_teach 64 = .ok (.iaload, 1) := by decide +kernel
theorem dX13_teach_65 : decode cX13_teach 65 = .ok (.invokevirtual 240, 3) := by decide +kernel
theorem dX13_teach_68 : decode cX13_teach 68 = .ok (.aload_n 0, 1) := by decide +kernel
theorem dX13_teach_69 : decode cX13_teach 69 = .ok (.getfield 47, 3) := by decide +kernel
theorem dX13_teach_72 : decode cX13_teach 72 = .ok (.getfield 244, 3) := by decide +kernel
theorem dX13_teach_75 : decode cX13_teach 75 = .ok (.iload_n 2, 1) := by decide +kernel
theorem dX13_teach_76 : decode cX13_teach 76 = .ok (.iconst 0, 1) := by decide +kernel
theorem dX13_teach_77 : decode cX13_teach 77 = .ok (.iastore, 1) := by decide +kernel
theorem dX13_teach_78 : decode cX13_teach 78 = .ok (.iinc 2 1, 3) := by decide +kernel
theorem dX13_teach_81 : decode cX13_teach 81 = .ok (.goto (-45), 3) := by decide +kernel
theorem dX13_teach_84 : decode cX13_teach 84 = .ok (.iconst 0, 1) := by decide +kernel
theorem dX13_teach_85 : decode cX13_teach 85 = .ok (.istore_n 2, 1) := by decide +kernel
theorem dX13_teach_86 : decode cX13_teach 86 = .ok (.iload_n 2, 1) := by decide +kernel
theorem dX13_teach_87 : decode cX13_teach 87 = .ok (.bipush 12, 2) := by decide +kernel
theorem dX13_teach_89 : decode cX13_teach 89 = .ok (.if_icmp .ge 19, 3) := by decide +kernel
theorem dX13_teach_92 : decode cX13_teach 92 = .ok (.aload_n 0, 1) := by decide +kernel
theorem dX13_teach_93 : decode cX13_teach 93 = .ok (.getfield 47, 3) := by decide +kernel
theorem dX13_teach_96 : decode cX13_teach 96 = .ok (.getfield 247, 3) := by decide +kernel
theorem dX13_teach_99 : decode cX13_teach 99 = .ok (.iload_n 2, 1) := by decide +kernel
theorem dX13_teach_100 : decode cX13_teach 100 = .ok (.iconst 0, 1) := by decide +kernel
theorem dX13_teach_101 : decode cX13_teach 101 = .ok (.iastore, 1) := by decide +kernel
theorem dX13_teach_102 : decode cX13_teach 102 = .ok (.iinc 2 1, 3) := by decide +kernel
theorem dX13_teach_105 : decode cX13_teach 105 = .ok (.goto (-19), 3) := by decide +kernel
theorem dX13_teach_108 : decode cX13_teach 108 = .ok (.iconst 0, 1) := by decide +kernel
theorem dX13_teach_109 : decode cX13_teach 109 = .ok (.ireturn, 1) := by decide +kernel
theorem dX13_errorAt_0 : decode cX13_errorAt 0 = .ok (.aload_n 0, 1) := by decide +kernel
theorem dX13_errorAt_1 : decode cX13_errorAt 1 = .ok (.iconst 0, 1) := by decide +kernel
theorem dX13_errorAt_2 : decode cX13_errorAt 2 = .ok (.putfield 54, 3) := by decide +kernel
theorem dX13_errorAt_5 : decode cX13_errorAt 5 = .ok (.aload_n 0, 1) := by decide +kernel
theorem dX13_errorAt_6 : decode cX13_errorAt 6 = .ok (.getfield 13, 3) := by decide +kernel
theorem dX13_errorAt_9 : decode cX13_errorAt 9 = .ok (.ireturn, 1) := by decide +kernel
theorem dX13_counted_0 : decode cX13_counted 0 = .ok (.iconst 0, 1) := by decide +kernel
theorem dX13_counted_1 : decode cX13_counted 1 = .ok (.istore_n 2, 1) := by decide +kernel
theorem dX13_counted_2 : decode cX13_counted 2 = .ok (.iconst 0, 1) := by decide +kernel
theorem dX13_counted_3 : decode cX13_counted 3 = .ok (.istore_n 3, 1) := by decide +kernel
theorem dX13_counted_4 : decode cX13_counted 4 = .ok (.iload_n 3, 1) := by decide +kernel
theorem dX13_counted_5 : decode cX13_counted 5 = .ok (.aload_n 0, 1) := by decide +kernel
theorem dX13_counted_6 : decode cX13_counted 6 = .ok (.getfield 35, 3) := by decide +kernel
theorem dX13_counted_9 : decode cX13_counted 9 = .ok (.getfield 57, 3) := by decide +kernel
theorem dX13_counted_12 : decode cX13_counted 12 = .ok (.if_icmp .ge 28, 3) := by decide +kernel
theorem dX13_counted_15 : decode cX13_counted 15 = .ok (.iload_n 2, 1) := by decide +kernel
theorem dX13_counted_16 : decode cX13_counted 16 = .ok (.aload_n 0, 1) := by decide +kernel
theorem dX13_counted_17 : decode cX13_counted 17 = .ok (.getfield 47, 3) := by decide +kernel
theorem dX13_counted_20 : decode cX13_counted 20 = .ok (.iload_n 3, 1) := by decide +kernel
theorem dX13_counted_21 : decode cX13_counted 21 = .ok (.invokevirtual 250, 3) := by decide +kernel
theorem dX13_counted_24 : decode cX13_counted 24 = .ok (.ifCond .eq 7, 3) := by decide +kernel
theorem dX13_counted_27 : decode cX13_counted 27 = .ok (.iconst 1, 1) := by decide +kernel
theorem dX13_counted_28 : decode cX13_counted 28 = .ok (.goto 4, 3) := by decide +kernel
theorem dX13_counted_31 : decode cX13_counted 31 = .ok (.iconst 0, 1) := by decide +kernel
theorem dX13_counted_32 : decode cX13_counted 32 = .ok (.iadd, 1) := by decide +kernel
theorem dX13_counted_33 : decode cX13_counted 33 = .ok (.istore_n 2, 1) := by decide +kernel
theorem dX13_counted_34 : decode cX13_counted 34 = .ok (.iinc 3 1, 3) := by decide +kernel
theorem dX13_counted_37 : decode cX13_counted 37 = .ok (.goto (-33), 3) := by decide +kernel
theorem dX13_counted_40 : decode cX13_counted 40 = .ok (.bipush 8, 2) := by decide +kernel
theorem dX13_counted_42 : decode cX13_counted 42 = .ok (.newarray .int, 2) := by decide +kernel
theorem dX13_counted_44 : decode cX13_counted 44 = .ok (.dup, 1) := by decide +kernel
theorem dX13_counted_45 : decode cX13_counted 45 = .ok (.iconst 0, 1) := by decide +kernel
theorem dX13_counted_46 : decode cX13_counted 46 = .ok (.aload_n 0, 1) := by decide +kernel
theorem dX13_counted_47 : decode cX13_counted 47 = .ok (.getfield 47, 3) := by decide +kernel
theorem dX13_counted_50 : decode cX13_counted 50 = .ok (.getfield 253, 3) := by decide +kernel
theorem dX13_counted_53 : decode cX13_counted 53 = .ok (.iastore, 1) := by decide +kernel
theorem dX13_counted_54 : decode cX13_counted 54 = .ok (.dup, 1) := by decide +kernel
theorem dX13_counted_55 : decode cX13_counted 55 = .ok (.iconst 1, 1) := by decide +kernel
theorem dX13_counted_56 : decode cX13_counted 56 = .ok (.aload_n 0, 1) := by decide +kernel
theorem dX13_counted_57 : decode cX13_counted 57 = .ok (.getfield 35, 3) := by decide +kernel
theorem dX13_counted_60 : decode cX13_counted 60 = .ok (.getfield 57, 3) := by decide +kernel
theorem dX13_counted_63 : decode cX13_counted 63 = .ok (.iastore, 1) := by decide +kernel
theorem dX13_counted_64 : decode cX13_counted 64 = .ok (.dup, 1) := by decide +kernel
theorem dX13_counted_65 : decode cX13_counted 65 = .ok (.iconst 2, 1) := by decide +kernel
theorem dX13_counted_66 : decode cX13_counted 66 = .ok (.aload_n 0, 1) := by decide +kernel
theorem dX13_counted_67 : decode cX13_counted 67 = .ok (.getfield 35, 3) := by decide +kernel
theorem dX13_counted_70 : decode cX13_counted 70 = .ok (.getfield 64, 3) := by decide +kernel
theorem dX13_counted_73 : decode cX13_counted 73 = .ok (.iastore, 1) := by decide +kernel
theorem dX13_counted_74 : decode cX13_counted 74 = .ok (.dup, 1) := by decide +kernel
theorem dX13_counted_75 : decode cX13_counted 75 = .ok (.iconst 3, 1) := by decide +kernel
theorem dX13_counted_76 : decode cX13_counted 76 = .ok (.aload_n 0, 1) := by decide +kernel
theorem dX13_counted_77 : decode cX13_counted 77 = .ok (.getfield 35, 3) := by decide +kernel
theorem dX13_counted_80 : decode cX13_counted 80 = .ok (.getfield 155, 3) := by decide +kernel
theorem dX13_counted_83 : decode cX13_counted 83 = .ok (.iastore, 1) := by decide +kernel
theorem dX13_counted_84 : decode cX13_counted 84 = .ok (.dup, 1) := by decide +kernel
theorem dX13_counted_85 : decode cX13_counted 85 = .ok (.iconst 4, 1) := by decide +kernel
theorem dX13_counted_86 : decode cX13_counted 86 = .ok (.aload_n 0, 1) := by decide +kernel
theorem dX13_counted_87 : decode cX13_counted 87 = .ok (.getfield 79, 3) := by decide +kernel
theorem dX13_counted_90 : decode cX13_counted 90 = .ok (.iastore, 1) := by decide +kernel
theorem dX13_counted_91 : decode cX13_counted 91 = .ok (.dup, 1) := by decide +kernel
theorem dX13_counted_92 : decode cX13_counted 92 = .ok (.iconst 5, 1) := by decide +kernel
theorem dX13_counted_93 : decode cX13_counted 93 = .ok (.aload_n 0, 1) := by decide +kernel
theorem dX13_counted_94 : decode cX13_counted 94 = .ok (.getfield 47, 3) := by decide +kernel
theorem dX13_counted_97 : decode cX13_counted 97 = .ok (.getfield 256, 3) := by decide +kernel
theorem dX13_counted_100 : decode cX13_counted 100 = .ok (.iastore, 1) := by decide +kernel
theorem dX13_counted_101 : decode cX13_counted 101 = .ok (.dup, 1) := by decide +kernel
theorem dX13_counted_102 : decode cX13_counted 102 = .ok (.bipush 6, 2) := by decide +kernel
theorem dX13_counted_104 : decode cX13_counted 104 = .ok (.iload_n 2, 1) := by decide +kernel
theorem dX13_counted_105 : decode cX13_counted 105 = .ok (.iastore, 1) := by decide +kernel
theorem dX13_counted_106 : decode cX13_counted 106 = .ok (.dup, 1) := by decide +kernel
theorem dX13_counted_107 : decode cX13_counted 107 = .ok (.bipush 7, 2) := by decide +kernel
theorem dX13_counted_109 : decode cX13_counted 109 = .ok (.aload_n 0, 1) := by decide +kernel
theorem dX13_counted_110 : decode cX13_counted 110 = .ok (.getfield 47, 3) := by decide +kernel
theorem dX13_counted_113 : decode cX13_counted 113 = .ok (.invokevirtual 259, 3) := by decide +kernel
theorem dX13_counted_116 : decode cX13_counted 116 = .ok (.iastore, 1) := by decide +kernel
theorem dX13_counted_117 : decode cX13_counted 117 = .ok (.astore_n 3, 1) := by decide +kernel
theorem dX13_counted_118 : decode cX13_counted 118 = .ok (.aload_n 3, 1) := by decide +kernel
theorem dX13_counted_119 : decode cX13_counted 119 = .ok (.iload_n 1, 1) := by decide +kernel
theorem dX13_counted_120 : decode cX13_counted 120 = .ok (.iaload, 1) := by decide +kernel
theorem dX13_counted_121 : decode cX13_counted 121 = .ok (.ireturn, 1) := by decide +kernel
theorem dX13_count_0 : decode cX13_count 0 = .ok (.aload_n 0, 1) := by decide +kernel
theorem dX13_count_1 : decode cX13_count 1 = .ok (.iconst 0, 1) := by decide +kernel
theorem dX13_count_2 : decode cX13_count 2 = .ok (.putfield 54, 3) := by decide +kernel
theorem dX13_count_5 : decode cX13_count 5 = .ok (.iload_n 1, 1) := by decide +kernel
theorem dX13_count_6 : decode cX13_count 6 = .ok (.iconst 0, 1) := by decide +kernel
theorem dX13_count_7 : decode cX13_count 7 = .ok (.bipush 7, 2) := by decide +kernel
theorem dX13_count_9 : decode cX13_count 9 = .ok (.invokestatic 60, 3) := by decide +kernel
theorem dX13_count_12 : decode cX13_count 12 = .ok (.ifCond .eq 11, 3) := by decide +kernel
theorem dX13_count_15 : decode cX13_count 15 = .ok (.aload_n 0, 1) := by decide +kernel
theorem dX13_count_16 : decode cX13_count 16 = .ok (.iload_n 1, 1) := by decide +kernel
theorem dX13_count_17 : decode cX13_count 17 = .ok (.invokevirtual 262, 3) := by decide +kernel
theorem dX13_count_20 : decode cX13_count 20 = .ok (.goto 8, 3) := by decide +kernel
theorem dX13_count_23 : decode cX13_count 23 = .ok (.aload_n 0, 1) := by decide +kernel
theorem dX13_count_24 : decode cX13_count 24 = .ok (.iconst 1, 1) := by decide +kernel
theorem dX13_count_25 : decode cX13_count 25 = .ok (.invokevirtual 234, 3) := by decide +kernel
theorem dX13_count_28 : decode cX13_count 28 = .ok (.ireturn, 1) := by decide +kernel
theorem dX13_planetTold_0 : decode cX13_planetTold 0 = .ok (.bipush 7, 2) := by decide +kernel
theorem dX13_planetTold_2 : decode cX13_planetTold 2 = .ok (.newarray .int, 2) := by decide +kernel
theorem dX13_planetTold_4 : decode cX13_planetTold 4 = .ok (.dup, 1) := by decide +kernel
theorem dX13_planetTold_5 : decode cX13_planetTold 5 = .ok (.iconst 0, 1) := by decide +kernel
theorem dX13_planetTold_6 : decode cX13_planetTold 6 = .ok (.aload_n 0, 1) := by decide +kernel
theorem dX13_planetTold_7 : decode cX13_planetTold 7 = .ok (.getfield 35, 3) := by decide +kernel
theorem dX13_planetTold_10 : decode cX13_planetTold 10 = .ok (.getfield 213, 3) := by decide +kernel
theorem dX13_planetTold_13 : decode cX13_planetTold 13 = .ok (.iconst 5, 1) := by decide +kernel
theorem dX13_planetTold_14 : decode cX13_planetTold 14 = .ok (.iload_n 1, 1) := by decide +kernel
theorem dX13_planetTold_15 : decode cX13_planetTold 15 = .ok (.imul, 1) := by decide +kernel
theorem dX13_planetTold_16 : decode cX13_planetTold 16 = .ok (.iaload, 1) := by decide +kernel
theorem dX13_planetTold_17 : decode cX13_planetTold 17 = .ok (.iastore, 1) := by decide +kernel
theorem dX13_planetTold_18 : decode cX13_planetTold 18 = .ok (.dup, 1) := by decide +kernel
theorem dX13_planetTold_19 : decode cX13_planetTold 19 = .ok (.iconst 1, 1) := by decide +kernel
theorem dX13_planetTold_20 : decode cX13_planetTold 20 = .ok (.aload_n 0, 1) := by decide +kernel
theorem dX13_planetTold_21 : decode cX13_planetTold 21 = .ok (.getfield 35, 3) := by decide +kernel
theorem dX13_planetTold_24 : decode cX13_planetTold 24 = .ok (.getfield 213, 3) := by decide +kernel
theorem dX13_planetTold_27 : decode cX13_planetTold 27 = .ok (.iconst 5, 1) := by decide +kernel
theorem dX13_planetTold_28 : decode cX13_planetTold 28 = .ok (.iload_n 1, 1) := by decide +kernel
theorem dX13_planetTold_29 : decode cX13_planetTold 29 = .ok (.imul, 1) := by decide +kernel
theorem dX13_planetTold_30 : decode cX13_planetTold 30 = .ok (.iconst 1, 1) := by decide +kernel
theorem dX13_planetTold_31 : decode cX13_planetTold 31 = .ok (.iadd, 1) := by decide +kernel
theorem dX13_planetTold_32 : decode cX13_planetTold 32 = .ok (.iaload, 1) := by decide +kernel
theorem dX13_planetTold_33 : decode cX13_planetTold 33 = .ok (.iastore, 1) := by decide +kernel
theorem dX13_planetTold_34 : decode cX13_planetTold 34 = .ok (.dup, 1) := by decide +kernel
theorem dX13_planetTold_35 : decode cX13_planetTold 35 = .ok (.iconst 2, 1) := by decide +kernel
theorem dX13_planetTold_36 : decode cX13_planetTold 36 = .ok (.aload_n 0, 1) := by decide +kernel
theorem dX13_planetTold_37 : decode cX13_planetTold 37 = .ok (.getfield 47, 3) := by decide +kernel
theorem dX13_planetTold_40 : decode cX13_planetTold 40 = .ok (.getfield 265, 3) := by decide +kernel
theorem dX13_planetTold_43 : decode cX13_planetTold 43 = .ok (.iload_n 1, 1) := by decide +kernel
theorem dX13_planetTold_44 : decode cX13_planetTold 44 = .ok (.iaload, 1) := by decide +kernel
theorem dX13_planetTold_45 : decode cX13_planetTold 45 = .ok (.iastore, 1) := by decide +kernel
theorem dX13_planetTold_46 : decode cX13_planetTold 46 = .ok (.dup, 1) := by decide +kernel
theorem dX13_planetTold_47 : decode cX13_planetTold 47 = .ok (.iconst 3, 1) := by decide +kernel
theorem dX13_planetTold_48 : decode cX13_planetTold 48 = .ok (.aload_n 0, 1) := by decide +kernel
theorem dX13_planetTold_49 : decode cX13_planetTold 49 = .ok (.getfield 47, 3) := by decide +kernel
theorem dX13_planetTold_52 : decode cX13_planetTold 52 = .ok (.getfield 244, 3) := by decide +kernel
theorem dX13_planetTold_55 : decode cX13_planetTold 55 = .ok (.iload_n 1, 1) := by decide +kernel
theorem dX13_planetTold_56 : decode cX13_planetTold 56 = .ok (.iaload, 1) := by decide +kernel
theorem dX13_planetTold_57 : decode cX13_planetTold 57 = .ok (.iastore, 1) := by decide +kernel
theorem dX13_planetTold_58 : decode cX13_planetTold 58 = .ok (.dup, 1) := by decide +kernel
theorem dX13_planetTold_59 : decode cX13_planetTold 59 = .ok (.iconst 4, 1) := by decide +kernel
theorem dX13_planetTold_60 : decode cX13_planetTold 60 = .ok (.aload_n 0, 1) := by decide +kernel
theorem dX13_planetTold_61 : decode cX13_planetTold 61 = .ok (.getfield 35, 3) := by decide +kernel
theorem dX13_planetTold_64 : decode cX13_planetTold 64 = .ok (.getfield 213, 3) := by decide +kernel
theorem dX13_planetTold_67 : decode cX13_planetTold 67 = .ok (.iconst 5, 1) := by decide +kernel
theorem dX13_planetTold_68 : decode cX13_planetTold 68 = .ok (.iload_n 1, 1) := by decide +kernel
theorem dX13_planetTold_69 : decode cX13_planetTold 69 = .ok (.imul, 1) := by decide +kernel
theorem dX13_planetTold_70 : decode cX13_planetTold 70 = .ok (.iconst 3, 1) := by decide +kernel
theorem dX13_planetTold_71 : decode cX13_planetTold 71 = .ok (.iadd, 1) := by decide +kernel
theorem dX13_planetTold_72 : decode cX13_planetTold 72 = .ok (.iaload, 1) := by decide +kernel
theorem dX13_planetTold_73 : decode cX13_planetTold 73 = .ok (.iastore, 1) := by decide +kernel
theorem dX13_planetTold_74 : decode cX13_planetTold 74 = .ok (.dup, 1) := by decide +kernel
theorem dX13_planetTold_75 : decode cX13_planetTold 75 = .ok (.iconst 5, 1) := by decide +kernel
theorem dX13_planetTold_76 : decode cX13_planetTold 76 = .ok (.aload_n 0, 1) := by decide +kernel
theorem dX13_planetTold_77 : decode cX13_planetTold 77 = .ok (.getfield 35, 3) := by decide +kernel
theorem dX13_planetTold_80 : decode cX13_planetTold 80 = .ok (.getfield 213, 3) := by decide +kernel
theorem dX13_planetTold_83 : decode cX13_planetTold 83 = .ok (.iconst 5, 1) := by decide +kernel
theorem dX13_planetTold_84 : decode cX13_planetTold 84 = .ok (.iload_n 1, 1) := by decide +kernel
theorem dX13_planetTold_85 : decode cX13_planetTold 85 = .ok (.imul, 1) := by decide +kernel
theorem dX13_planetTold_86 : decode cX13_planetTold 86 = .ok (.iconst 4, 1) := by decide +kernel
theorem dX13_planetTold_87 : decode cX13_planetTold 87 = .ok (.iadd, 1) := by decide +kernel
theorem dX13_planetTold_88 : decode cX13_planetTold 88 = .ok (.iaload, 1) := by decide +kernel
theorem dX13_planetTold_89 : decode cX13_planetTold 89 = .ok (.iastore, 1) := by decide +kernel
theorem dX13_planetTold_90 : decode cX13_planetTold 90 = .ok (.dup, 1) := by decide +kernel
theorem dX13_planetTold_91 : decode cX13_planetTold 91 = .ok (.bipush 6, 2) := by decide +kernel
theorem dX13_planetTold_93 : decode cX13_planetTold 93 = .ok (.aload_n 0, 1) := by decide +kernel
theorem dX13_planetTold_94 : decode cX13_planetTold 94 = .ok (.getfield 47, 3) := by decide +kernel
theorem dX13_planetTold_97 : decode cX13_planetTold 97 = .ok (.iload_n 1, 1) := by decide +kernel
theorem dX13_planetTold_98 : decode cX13_planetTold 98 = .ok (.invokevirtual 250, 3) := by decide +kernel
theorem dX13_planetTold_101 : decode cX13_planetTold 101 = .ok (.ifCond .eq 7, 3) := by decide +kernel
theorem dX13_planetTold_104 : decode cX13_planetTold 104 = .ok (.iconst 1, 1) := by decide +kernel
theorem dX13_planetTold_105 : decode cX13_planetTold 105 = .ok (.goto 4, 3) := by decide +kernel
theorem dX13_planetTold_108 : decode cX13_planetTold 108 = .ok (.iconst 0, 1) := by decide +kernel
theorem dX13_planetTold_109 : decode cX13_planetTold 109 = .ok (.iastore, 1) := by decide +kernel
theorem dX13_planetTold_110 : decode cX13_planetTold 110 = .ok (.astore_n 3, 1) := by decide +kernel
theorem dX13_planetTold_111 : decode cX13_planetTold 111 = .ok (.aload_n 3, 1) := by decide +kernel
theorem dX13_planetTold_112 : decode cX13_planetTold 112 = .ok (.iload_n 2, 1) := by decide +kernel
theorem dX13_planetTold_113 : decode cX13_planetTold 113 = .ok (.iaload, 1) := by decide +kernel
theorem dX13_planetTold_114 : decode cX13_planetTold 114 = .ok (.ireturn, 1) := by decide +kernel
theorem dX13_planet_0 : decode cX13_planet 0 = .ok (.aload_n 0, 1) := by decide +kernel
theorem dX13_planet_1 : decode cX13_planet 1 = .ok (.iconst 0, 1) := by decide +kernel
theorem dX13_planet_2 : decode cX13_planet 2 = .ok (.putfield 54, 3) := by decide +kernel
theorem dX13_planet_5 : decode cX13_planet 5 = .ok (.aload_n 0, 1) := by decide +kernel
theorem dX13_planet_6 : decode cX13_planet 6 = .ok (.iload_n 1, 1) := by decide +kernel
theorem dX13_planet_7 : decode cX13_planet 7 = .ok (.invokevirtual 268, 3) := by decide +kernel
theorem dX13_planet_10 : decode cX13_planet 10 = .ok (.ifCond .eq 22, 3) := by decide +kernel
theorem dX13_planet_13 : decode cX13_planet 13 = .ok (.iload_n 2, 1) := by decide +kernel
theorem dX13_planet_14 : decode cX13_planet 14 = .ok (.iconst 0, 1) := by decide +kernel
theorem dX13_planet_15 : decode cX13_planet 15 = .ok (.bipush 6, 2) := by decide +kernel
theorem dX13_planet_17 : decode cX13_planet 17 = .ok (.invokestatic 60, 3) := by decide +kernel
theorem dX13_planet_20 : decode cX13_planet 20 = .ok (.ifCond .eq 12, 3) := by decide +kernel
theorem dX13_planet_23 : decode cX13_planet 23 = .ok (.aload_n 0, 1) := by decide +kernel
theorem dX13_planet_24 : decode cX13_planet 24 = .ok (.iload_n 1, 1) := by decide +kernel
theorem dX13_planet_25 : decode cX13_planet 25 = .ok (.iload_n 2, 1) := by decide +kernel
theorem dX13_planet_26 : decode cX13_planet 26 = .ok (.invokevirtual 271, 3) := by decide +kernel
theorem dX13_planet_29 : decode cX13_planet 29 = .ok (.goto 8, 3) := by decide +kernel
theorem dX13_planet_32 : decode cX13_planet 32 = .ok (.aload_n 0, 1) := by decide +kernel
theorem dX13_planet_33 : decode cX13_planet 33 = .ok (.iconst 1, 1) := by decide +kernel
theorem dX13_planet_34 : decode cX13_planet 34 = .ok (.invokevirtual 234, 3) := by decide +kernel
theorem dX13_planet_37 : decode cX13_planet 37 = .ok (.ireturn, 1) := by decide +kernel
theorem dX13_set_0 : decode cX13_set 0 = .ok (.aload_n 0, 1) := by decide +kernel
theorem dX13_set_1 : decode cX13_set 1 = .ok (.iconst 0, 1) := by decide +kernel
theorem dX13_set_2 : decode cX13_set 2 = .ok (.putfield 54, 3) := by decide +kernel
theorem dX13_set_5 : decode cX13_set 5 = .ok (.aload_n 0, 1) := by decide +kernel
theorem dX13_set_6 : decode cX13_set 6 = .ok (.iload_n 1, 1) := by decide +kernel
theorem dX13_set_7 : decode cX13_set 7 = .ok (.invokevirtual 268, 3) := by decide +kernel
theorem dX13_set_10 : decode cX13_set 10 = .ok (.ifCond .ne 9, 3) := by decide +kernel
theorem dX13_set_13 : decode cX13_set 13 = .ok (.aload_n 0, 1) := by decide +kernel
theorem dX13_set_14 : decode cX13_set 14 = .ok (.iconst 1, 1) := by decide +kernel
theorem dX13_set_15 : decode cX13_set 15 = .ok (.invokevirtual 234, 3) := by decide +kernel
theorem dX13_set_18 : decode cX13_set 18 = .ok (.ireturn, 1) := by decide +kernel
theorem dX13_set_19 : decode cX13_set 19 = .ok (.iload_n 2, 1) := by decide +kernel
theorem dX13_set_20 : decode cX13_set 20 = .ok (.iconst 0, 1) := by decide +kernel
theorem dX13_set_21 : decode cX13_set 21 = .ok (.sipush 359, 3) := by decide +kernel
theorem dX13_set_24 : decode cX13_set 24 = .ok (.invokestatic 60, 3) := by decide +kernel
theorem dX13_set_27 : decode cX13_set 27 = .ok (.ifCond .ne 9, 3) := by decide +kernel
theorem dX13_set_30 : decode cX13_set 30 = .ok (.aload_n 0, 1) := by decide +kernel
theorem dX13_set_31 : decode cX13_set 31 = .ok (.iconst 2, 1) := by decide +kernel
theorem dX13_set_32 : decode cX13_set 32 = .ok (.invokevirtual 234, 3) := by decide +kernel
theorem dX13_set_35 : decode cX13_set 35 = .ok (.ireturn, 1) := by decide +kernel
theorem dX13_set_36 : decode cX13_set 36 = .ok (.aload_n 0, 1) := by decide +kernel
theorem dX13_set_37 : decode cX13_set 37 = .ok (.getfield 47, 3) := by decide +kernel
theorem dX13_set_40 : decode cX13_set 40 = .ok (.getfield 265, 3) := by decide +kernel
theorem dX13_set_43 : decode cX13_set 43 = .ok (.iload_n 1, 1) := by decide +kernel
theorem dX13_set_44 : decode cX13_set 44 = .ok (.iaload, 1) := by decide +kernel
theorem dX13_set_45 : decode cX13_set 45 = .ok (.istore_n 3, 1) := by decide +kernel
theorem dX13_set_46 : decode cX13_set 46 = .ok (.aload_n 0, 1) := by decide +kernel
theorem dX13_set_47 : decode cX13_set 47 = .ok (.getfield 47, 3) := by decide +kernel
theorem dX13_set_50 : decode cX13_set 50 = .ok (.iload_n 1, 1) := by decide +kernel
theorem dX13_set_51 : decode cX13_set 51 = .ok (.iload_n 2, 1) := by decide +kernel
theorem dX13_set_52 : decode cX13_set 52 = .ok (.invokevirtual 240, 3) := by decide +kernel
theorem dX13_set_55 : decode cX13_set 55 = .ok (.iload_n 3, 1) := by decide +kernel
theorem dX13_set_56 : decode cX13_set 56 = .ok (.ireturn, 1) := by decide +kernel
theorem dX13_gap_0 : decode cX13_gap 0 = .ok (.aload_n 0, 1) := by decide +kernel
theorem dX13_gap_1 : decode cX13_gap 1 = .ok (.iconst 0, 1) := by decide +kernel
theorem dX13_gap_2 : decode cX13_gap 2 = .ok (.putfield 54, 3) := by decide +kernel
theorem dX13_gap_5 : decode cX13_gap 5 = .ok (.aload_n 0, 1) := by decide +kernel
theorem dX13_gap_6 : decode cX13_gap 6 = .ok (.iload_n 1, 1) := by decide +kernel
theorem dX13_gap_7 : decode cX13_gap 7 = .ok (.invokevirtual 268, 3) := by decide +kernel
theorem dX13_gap_10 : decode cX13_gap 10 = .ok (.ifCond .eq 35, 3) := by decide +kernel
theorem dX13_gap_13 : decode cX13_gap 13 = .ok (.aload_n 0, 1) := by decide +kernel
theorem dX13_gap_14 : decode cX13_gap 14 = .ok (.iload_n 2, 1) := by decide +kernel
theorem dX13_gap_15 : decode cX13_gap 15 = .ok (.invokevirtual 268, 3) := by decide +kernel
theorem dX13_gap_18 : decode cX13_gap 18 = .ok (.ifCond .eq 27, 3) := by decide +kernel
theorem dX13_gap_21 : decode cX13_gap 21 = .ok (.aload_n 0, 1) := by decide +kernel
theorem dX13_gap_22 : decode cX13_gap 22 = .ok (.getfield 47, 3) := by decide +kernel
theorem dX13_gap_25 : decode cX13_gap 25 = .ok (.getfield 265, 3) := by decide +kernel
theorem dX13_gap_28 : decode cX13_gap 28 = .ok (.iload_n 1, 1) := by decide +kernel
theorem dX13_gap_29 : decode cX13_gap 29 = .ok (.iaload, 1) := by decide +kernel
theorem dX13_gap_30 : decode cX13_gap 30 = .ok (.aload_n 0, 1) := by decide +kernel
theorem dX13_gap_31 : decode cX13_gap 31 = .ok (.getfield 47, 3) := by decide +kernel
theorem dX13_gap_34 : decode cX13_gap 34 = .ok (.getfield 265, 3) := by decide +kernel
theorem dX13_gap_37 : decode cX13_gap 37 = .ok (.iload_n 2, 1) := by decide +kernel
theorem dX13_gap_38 : decode cX13_gap 38 = .ok (.iaload, 1) := by decide +kernel
theorem dX13_gap_39 : decode cX13_gap 39 = .ok (.invokestatic 274, 3) := by decide +kernel
theorem dX13_gap_42 : decode cX13_gap 42 = .ok (.goto 8, 3) := by decide +kernel
theorem dX13_gap_45 : decode cX13_gap 45 = .ok (.aload_n 0, 1) := by decide +kernel
theorem dX13_gap_46 : decode cX13_gap 46 = .ok (.iconst 1, 1) := by decide +kernel
theorem dX13_gap_47 : decode cX13_gap 47 = .ok (.invokevirtual 234, 3) := by decide +kernel
theorem dX13_gap_50 : decode cX13_gap 50 = .ok (.ireturn, 1) := by decide +kernel
theorem dX13_meets_0 : decode cX13_meets 0 = .ok (.aload_n 0, 1) := by decide +kernel
theorem dX13_meets_1 : decode cX13_meets 1 = .ok (.iconst 0, 1) := by decide +kernel
theorem dX13_meets_2 : decode cX13_meets 2 = .ok (.putfield 54, 3) := by decide +kernel
theorem dX13_meets_5 : decode cX13_meets 5 = .ok (.aload_n 0, 1) := by decide +kernel
theorem dX13_meets_6 : decode cX13_meets 6 = .ok (.iload_n 1, 1) := by decide +kernel
theorem dX13_meets_7 : decode cX13_meets 7 = .ok (.invokevirtual 268, 3) := by decide +kernel
theorem dX13_meets_10 : decode cX13_meets 10 = .ok (.ifCond .eq 34, 3) := by decide +kernel
theorem dX13_meets_13 : decode cX13_meets 13 = .ok (.aload_n 0, 1) := by decide +kernel
theorem dX13_meets_14 : decode cX13_meets 14 = .ok (.iload_n 2, 1) := by decide +kernel
theorem dX13_meets_15 : decode cX13_meets 15 = .ok (.invokevirtual 268, 3) := by decide +kernel
theorem dX13_meets_18 : decode cX13_meets 18 = .ok (.ifCond .eq 26, 3) := by decide +kernel
theorem dX13_meets_21 : decode cX13_meets 21 = .ok (.aload_n 0, 1) := by decide +kernel
theorem dX13_meets_22 : decode cX13_meets 22 = .ok (.getfield 47, 3) := by decide +kernel
theorem dX13_meets_25 : decode cX13_meets 25 = .ok (.iload_n 1, 1) := by decide +kernel
theorem dX13_meets_26 : decode cX13_meets 26 = .ok (.iload_n 2, 1) := by decide +kernel
theorem dX13_meets_27 : decode cX13_meets 27 = .ok (.iload_n 3, 1) := by decide +kernel
theorem dX13_meets_28 : decode cX13_meets 28 = .ok (.ifCond .eq 9, 3) := by decide +kernel
theorem dX13_meets_31 : decode cX13_meets 31 = .ok (.sipush 180, 3) := by decide +kernel
theorem dX13_meets_34 : decode cX13_meets 34 = .ok (.goto 4, 3) := by decide +kernel
theorem dX13_meets_37 : decode cX13_meets 37 = .ok (.iconst 0, 1) := by decide +kernel
theorem dX13_meets_38 : decode cX13_meets 38 = .ok (.invokevirtual 277, 3) := by decide +kernel
theorem dX13_meets_41 : decode cX13_meets 41 = .ok (.goto 16, 3) := by decide +kernel
theorem dX13_meets_44 : decode cX13_meets 44 = .ok (.aload_n 0, 1) := by decide +kernel
theorem dX13_meets_45 : decode cX13_meets 45 = .ok (.iconst 1, 1) := by decide +kernel
theorem dX13_meets_46 : decode cX13_meets 46 = .ok (.invokevirtual 234, 3) := by decide +kernel
theorem dX13_meets_49 : decode cX13_meets 49 = .ok (.ifCond .eq 7, 3) := by decide +kernel
theorem dX13_meets_52 : decode cX13_meets 52 = .ok (.iconst 1, 1) := by decide +kernel
theorem dX13_meets_53 : decode cX13_meets 53 = .ok (.goto 4, 3) := by decide +kernel
theorem dX13_meets_56 : decode cX13_meets 56 = .ok (.iconst 0, 1) := by decide +kernel
theorem dX13_meets_57 : decode cX13_meets 57 = .ok (.ireturn, 1) := by decide +kernel
theorem dX13_letter_0 : decode cX13_letter 0 = .ok (.aload_n 0, 1) := by decide +kernel
theorem dX13_letter_1 : decode cX13_letter 1 = .ok (.iconst 0, 1) := by decide +kernel
theorem dX13_letter_2 : decode cX13_letter 2 = .ok (.putfield 54, 3) := by decide +kernel
theorem dX13_letter_5 : decode cX13_letter 5 = .ok (.aload_n 0, 1) := by decide +kernel
theorem dX13_letter_6 : decode cX13_letter 6 = .ok (.iload_n 1, 1) := by decide +kernel
theorem dX13_letter_7 : decode cX13_letter 7 = .ok (.invokevirtual 280, 3) := by decide +kernel
theorem dX13_letter_10 : decode cX13_letter 10 = .ok (.ifCond .eq 39, 3) := by decide +kernel
theorem dX13_letter_13 : decode cX13_letter 13 = .ok (.iload_n 2, 1) := by decide +kernel
theorem dX13_letter_14 : decode cX13_letter 14 = .ok (.iconst 0, 1) := by decide +kernel
theorem dX13_letter_15 : decode cX13_letter 15 = .ok (.aload_n 0, 1) := by decide +kernel
theorem dX13_letter_16 : decode cX13_letter 16 = .ok (.getfield 35, 3) := by decide +kernel
theorem dX13_letter_19 : decode cX13_letter 19 = .ok (.getfield 219, 3) := by decide +kernel
theorem dX13_letter_22 : decode cX13_letter 22 = .ok (.iload_n 1, 1) := by decide +kernel
theorem dX13_letter_23 : decode cX13_letter 23 = .ok (.iaload, 1) := by decide +kernel
theorem dX13_letter_24 : decode cX13_letter 24 = .ok (.iconst 1, 1) := by decide +kernel
theorem dX13_letter_25 : decode cX13_letter 25 = .ok (.isub, 1) := by decide +kernel
theorem dX13_letter_26 : decode cX13_letter 26 = .ok (.invokestatic 60, 3) := by decide +kernel
theorem dX13_letter_29 : decode cX13_letter 29 = .ok (.ifCond .eq 20, 3) := by decide +kernel
theorem dX13_letter_32 : decode cX13_letter 32 = .ok (.aload_n 0, 1) := by decide +kernel
theorem dX13_letter_33 : decode cX13_letter 33 = .ok (.getfield 35, 3) := by decide +kernel
theorem dX13_letter_36 : decode cX13_letter 36 = .ok (.getfield 222, 3) := by decide +kernel
theorem dX13_letter_39 : decode cX13_letter 39 = .ok (.bipush 12, 2) := by decide +kernel
theorem dX13_letter_41 : decode cX13_letter 41 = .ok (.iload_n 1, 1) := by decide +kernel
theorem dX13_letter_42 : decode cX13_letter 42 = .ok (.imul, 1) := by decide +kernel
theorem dX13_letter_43 : decode cX13_letter 43 = .ok (.iload_n 2, 1) := by decide +kernel
theorem dX13_letter_44 : decode cX13_letter 44 = .ok (.iadd, 1) := by decide +kernel
theorem dX13_letter_45 : decode cX13_letter 45 = .ok (.iaload, 1) := by decide +kernel
theorem dX13_letter_46 : decode cX13_letter 46 = .ok (.goto 8, 3) := by decide +kernel
theorem dX13_letter_49 : decode cX13_letter 49 = .ok (.aload_n 0, 1) := by decide +kernel
theorem dX13_letter_50 : decode cX13_letter 50 = .ok (.iconst 1, 1) := by decide +kernel
theorem dX13_letter_51 : decode cX13_letter 51 = .ok (.invokevirtual 234, 3) := by decide +kernel
theorem dX13_letter_54 : decode cX13_letter 54 = .ok (.ireturn, 1) := by decide +kernel
theorem dX13_wrote_0 : decode cX13_wrote 0 = .ok (.aload_n 0, 1) := by decide +kernel
theorem dX13_wrote_1 : decode cX13_wrote 1 = .ok (.iconst 0, 1) := by decide +kernel
theorem dX13_wrote_2 : decode cX13_wrote 2 = .ok (.putfield 54, 3) := by decide +kernel
theorem dX13_wrote_5 : decode cX13_wrote 5 = .ok (.iload_n 1, 1) := by decide +kernel
theorem dX13_wrote_6 : decode cX13_wrote 6 = .ok (.iconst 0, 1) := by decide +kernel
theorem dX13_wrote_7 : decode cX13_wrote 7 = .ok (.aload_n 0, 1) := by decide +kernel
theorem dX13_wrote_8 : decode cX13_wrote 8 = .ok (.getfield 35, 3) := by decide +kernel
theorem dX13_wrote_11 : decode cX13_wrote 11 = .ok (.getfield 155, 3) := by decide +kernel
theorem dX13_wrote_14 : decode cX13_wrote 14 = .ok (.iconst 1, 1) := by decide +kernel
theorem dX13_wrote_15 : decode cX13_wrote 15 = .ok (.isub, 1) := by decide +kernel
theorem dX13_wrote_16 : decode cX13_wrote 16 = .ok (.invokestatic 60, 3) := by decide +kernel
theorem dX13_wrote_19 : decode cX13_wrote 19 = .ok (.ifCond .eq 15, 3) := by decide +kernel
theorem dX13_wrote_22 : decode cX13_wrote 22 = .ok (.aload_n 0, 1) := by decide +kernel
theorem dX13_wrote_23 : decode cX13_wrote 23 = .ok (.getfield 47, 3) := by decide +kernel
theorem dX13_wrote_26 : decode cX13_wrote 26 = .ok (.getfield 247, 3) := by decide +kernel
theorem dX13_wrote_29 : decode cX13_wrote 29 = .ok (.iload_n 1, 1) := by decide +kernel
theorem dX13_wrote_30 : decode cX13_wrote 30 = .ok (.iaload, 1) := by decide +kernel
theorem dX13_wrote_31 : decode cX13_wrote 31 = .ok (.goto 8, 3) := by decide +kernel
theorem dX13_wrote_34 : decode cX13_wrote 34 = .ok (.aload_n 0, 1) := by decide +kernel
theorem dX13_wrote_35 : decode cX13_wrote 35 = .ok (.iconst 1, 1) := by decide +kernel
theorem dX13_wrote_36 : decode cX13_wrote 36 = .ok (.invokevirtual 234, 3) := by decide +kernel
theorem dX13_wrote_39 : decode cX13_wrote 39 = .ok (.ireturn, 1) := by decide +kernel
theorem dX13_pass_0 : decode cX13_pass 0 = .ok (.aload_n 0, 1) := by decide +kernel
theorem dX13_pass_1 : decode cX13_pass 1 = .ok (.iconst 0, 1) := by decide +kernel
theorem dX13_pass_2 : decode cX13_pass 2 = .ok (.putfield 54, 3) := by decide +kernel
theorem dX13_pass_5 : decode cX13_pass 5 = .ok (.iload_n 1, 1) := by decide +kernel
theorem dX13_pass_6 : decode cX13_pass 6 = .ok (.iconst 1, 1) := by decide +kernel
theorem dX13_pass_7 : decode cX13_pass 7 = .ok (.sipush 300, 3) := by decide +kernel
theorem dX13_pass_10 : decode cX13_pass 10 = .ok (.invokestatic 60, 3) := by decide +kernel
theorem dX13_pass_13 : decode cX13_pass 13 = .ok (.ifCond .ne 9, 3) := by decide +kernel
theorem dX13_pass_16 : decode cX13_pass 16 = .ok (.aload_n 0, 1) := by decide +kernel
theorem dX13_pass_17 : decode cX13_pass 17 = .ok (.iconst 1, 1) := by decide +kernel
theorem dX13_pass_18 : decode cX13_pass 18 = .ok (.invokevirtual 234, 3) := by decide +kernel
theorem dX13_pass_21 : decode cX13_pass 21 = .ok (.ireturn, 1) := by decide +kernel
theorem dX13_pass_22 : decode cX13_pass 22 = .ok (.iconst 0, 1) := by decide +kernel
theorem dX13_pass_23 : decode cX13_pass 23 = .ok (.istore_n 2, 1) := by decide +kernel
theorem dX13_pass_24 : decode cX13_pass 24 = .ok (.iconst 0, 1) := by decide +kernel
theorem dX13_pass_25 : decode cX13_pass 25 = .ok (.istore_n 3, 1) := by decide +kernel
theorem dX13_pass_26 : decode cX13_pass 26 = .ok (.iload_n 3, 1) := by decide +kernel
theorem dX13_pass_27 : decode cX13_pass 27 = .ok (.iload_n 1, 1) := by decide +kernel
theorem dX13_pass_28 : decode cX13_pass 28 = .ok (.if_icmp .ge 19, 3) := by decide +kernel
theorem dX13_pass_31 : decode cX13_pass 31 = .ok (.iload_n 2, 1) := by decide +kernel
theorem dX13_pass_32 : decode cX13_pass 32 = .ok (.aload_n 0, 1) := by decide +kernel
theorem dX13_pass_33 : decode cX13_pass 33 = .ok (.getfield 47, 3) := by decide +kernel
theorem dX13_pass_36 : decode cX13_pass 36 = .ok (.invokevirtual 283, 3) := by decide +kernel
theorem dX13_pass_39 : decode cX13_pass 39 = .ok (.iadd, 1) := by decide +kernel
theorem dX13_pass_40 : decode cX13_pass 40 = .ok (.istore_n 2, 1) := by decide +kernel
theorem dX13_pass_41 : decode cX13_pass 41 = .ok (.iinc 3 1, 3) := by decide +kernel
theorem dX13_pass_44 : decode cX13_pass 44 = .ok (.goto (-18), 3) := by decide +kernel
theorem dX13_pass_47 : decode cX13_pass 47 = .ok (.iload_n 2, 1) := by decide +kernel
theorem dX13_pass_48 : decode cX13_pass 48 = .ok (.ireturn, 1) := by decide +kernel
theorem dX13_byteAt_0 : decode cX13_byteAt 0 = .ok (.aload_n 0, 1) := by decide +kernel
theorem dX13_byteAt_1 : decode cX13_byteAt 1 = .ok (.iconst 0, 1) := by decide +kernel
theorem dX13_byteAt_2 : decode cX13_byteAt 2 = .ok (.putfield 54, 3) := by decide +kernel
theorem dX13_byteAt_5 : decode cX13_byteAt 5 = .ok (.iload_n 1, 1) := by decide +kernel
theorem dX13_byteAt_6 : decode cX13_byteAt 6 = .ok (.iconst 0, 1) := by decide +kernel
theorem dX13_byteAt_7 : decode cX13_byteAt 7 = .ok (.aload_n 0, 1) := by decide +kernel
theorem dX13_byteAt_8 : decode cX13_byteAt 8 = .ok (.getfield 47, 3) := by decide +kernel
theorem dX13_byteAt_11 : decode cX13_byteAt 11 = .ok (.getfield 256, 3) := by decide +kernel
theorem dX13_byteAt_14 : decode cX13_byteAt 14 = .ok (.iconst 1, 1) := by decide +kernel
theorem dX13_byteAt_15 : decode cX13_byteAt 15 = .ok (.isub, 1) := by decide +kernel
theorem dX13_byteAt_16 : decode cX13_byteAt 16 = .ok (.invokestatic 60, 3) := by decide +kernel
theorem dX13_byteAt_19 : decode cX13_byteAt 19 = .ok (.ifCond .eq 15, 3) := by decide +kernel
theorem dX13_byteAt_22 : decode cX13_byteAt 22 = .ok (.aload_n 0, 1) := by decide +kernel
theorem dX13_byteAt_23 : decode cX13_byteAt 23 = .ok (.getfield 47, 3) := by decide +kernel
theorem dX13_byteAt_26 : decode cX13_byteAt 26 = .ok (.getfield 286, 3) := by decide +kernel
theorem dX13_byteAt_29 : decode cX13_byteAt 29 = .ok (.iload_n 1, 1) := by decide +kernel
theorem dX13_byteAt_30 : decode cX13_byteAt 30 = .ok (.iaload, 1) := by decide +kernel
theorem dX13_byteAt_31 : decode cX13_byteAt 31 = .ok (.goto 8, 3) := by decide +kernel
theorem dX13_byteAt_34 : decode cX13_byteAt 34 = .ok (.aload_n 0, 1) := by decide +kernel
theorem dX13_byteAt_35 : decode cX13_byteAt 35 = .ok (.iconst 1, 1) := by decide +kernel
theorem dX13_byteAt_36 : decode cX13_byteAt 36 = .ok (.invokevirtual 234, 3) := by decide +kernel
theorem dX13_byteAt_39 : decode cX13_byteAt 39 = .ok (.ireturn, 1) := by decide +kernel
theorem dX13_clear_0 : decode cX13_clear 0 = .ok (.aload_n 0, 1) := by decide +kernel
theorem dX13_clear_1 : decode cX13_clear 1 = .ok (.iconst 0, 1) := by decide +kernel
theorem dX13_clear_2 : decode cX13_clear 2 = .ok (.putfield 54, 3) := by decide +kernel
theorem dX13_clear_5 : decode cX13_clear 5 = .ok (.aload_n 0, 1) := by decide +kernel
theorem dX13_clear_6 : decode cX13_clear 6 = .ok (.getfield 47, 3) := by decide +kernel
theorem dX13_clear_9 : decode cX13_clear 9 = .ok (.getfield 256, 3) := by decide +kernel
theorem dX13_clear_12 : decode cX13_clear 12 = .ok (.istore_n 1, 1) := by decide +kernel
theorem dX13_clear_13 : decode cX13_clear 13 = .ok (.aload_n 0, 1) := by decide +kernel
theorem dX13_clear_14 : decode cX13_clear 14 = .ok (.getfield 47, 3) := by decide +kernel
theorem dX13_clear_17 : decode cX13_clear 17 = .ok (.iconst 0, 1) := by decide +kernel
theorem dX13_clear_18 : decode cX13_clear 18 = .ok (.putfield 256, 3) := by decide +kernel
theorem dX13_clear_21 : decode cX13_clear 21 = .ok (.iload_n 1, 1) := by decide +kernel
theorem dX13_clear_22 : decode cX13_clear 22 = .ok (.ireturn, 1) := by decide +kernel
theorem dX13_find_0 : decode cX13_find 0 = .ok (.aload_n 0, 1) := by decide +kernel
theorem dX13_find_1 : decode cX13_find 1 = .ok (.iconst 0, 1) := by decide +kernel
theorem dX13_find_2 : decode cX13_find 2 = .ok (.putfield 54, 3) := by decide +kernel
theorem dX13_find_5 : decode cX13_find 5 = .ok (.aload_n 0, 1) := by decide +kernel
theorem dX13_find_6 : decode cX13_find 6 = .ok (.getfield 47, 3) := by decide +kernel
theorem dX13_find_9 : decode cX13_find 9 = .ok (.iconst 0, 1) := by decide +kernel
theorem dX13_find_10 : decode cX13_find 10 = .ok (.invokevirtual 289, 3) := by decide +kernel
theorem dX13_find_13 : decode cX13_find 13 = .ok (.ireturn, 1) := by decide +kernel
theorem dX13_numberOf_0 : decode cX13_numberOf 0 = .ok (.iconst 0, 1) := by decide +kernel
theorem dX13_numberOf_1 : decode cX13_numberOf 1 = .ok (.istore_n 3, 1) := by decide +kernel
theorem dX13_numberOf_2 : decode cX13_numberOf 2 = .ok (.iload_n 3, 1) := by decide +kernel
theorem dX13_numberOf_3 : decode cX13_numberOf 3 = .ok (.aload_n 0, 1) := by decide +kernel
theorem dX13_numberOf_4 : decode cX13_numberOf 4 = .ok (.getfield 35, 3) := by decide +kernel
theorem dX13_numberOf_7 : decode cX13_numberOf 7 = .ok (.getfield 219, 3) := by decide +kernel
theorem dX13_numberOf_10 : decode cX13_numberOf 10 = .ok (.iload_n 1, 1) := by decide +kernel
theorem dX13_numberOf_11 : decode cX13_numberOf 11 = .ok (.iaload, 1) := by decide +kernel
theorem dX13_numberOf_12 : decode cX13_numberOf 12 = .ok (.if_icmp .ge 29, 3) := by decide +kernel
theorem dX13_numberOf_15 : decode cX13_numberOf 15 = .ok (.aload_n 0, 1) := by decide +kernel
theorem dX13_numberOf_16 : decode cX13_numberOf 16 = .ok (.getfield 35, 3) := by decide +kernel
theorem dX13_numberOf_19 : decode cX13_numberOf 19 = .ok (.getfield 222, 3) := by decide +kernel
theorem dX13_numberOf_22 : decode cX13_numberOf 22 = .ok (.bipush 12, 2) := by decide +kernel
theorem dX13_numberOf_24 : decode cX13_numberOf 24 = .ok (.iload_n 1, 1) := by decide +kernel
theorem dX13_numberOf_25 : decode cX13_numberOf 25 = .ok (.imul, 1) := by decide +kernel
theorem dX13_numberOf_26 : decode cX13_numberOf 26 = .ok (.iload_n 3, 1) := by decide +kernel
theorem dX13_numberOf_27 : decode cX13_numberOf 27 = .ok (.iadd, 1) := by decide +kernel
theorem dX13_numberOf_28 : decode cX13_numberOf 28 = .ok (.iaload, 1) := by decide +kernel
theorem dX13_numberOf_29 : decode cX13_numberOf 29 = .ok (.iload_n 2, 1) := by decide +kernel
theorem dX13_numberOf_30 : decode cX13_numberOf 30 = .ok (.if_icmp .ne 5, 3) := by decide +kernel
theorem dX13_numberOf_33 : decode cX13_numberOf 33 = .ok (.iload_n 3, 1) := by decide +kernel
theorem dX13_numberOf_34 : decode cX13_numberOf 34 = .ok (.ireturn, 1) := by decide +kernel
theorem dX13_numberOf_35 : decode cX13_numberOf 35 = .ok (.iinc 3 1, 3) := by decide +kernel
theorem dX13_numberOf_38 : decode cX13_numberOf 38 = .ok (.goto (-36), 3) := by decide +kernel
theorem dX13_numberOf_41 : decode cX13_numberOf 41 = .ok (.iconst (-1), 1) := by decide +kernel
theorem dX13_numberOf_42 : decode cX13_numberOf 42 = .ok (.ireturn, 1) := by decide +kernel
theorem dX13_translate_0 : decode cX13_translate 0 = .ok (.aload_n 0, 1) := by decide +kernel
theorem dX13_translate_1 : decode cX13_translate 1 = .ok (.iconst 0, 1) := by decide +kernel
theorem dX13_translate_2 : decode cX13_translate 2 = .ok (.putfield 54, 3) := by decide +kernel
theorem dX13_translate_5 : decode cX13_translate 5 = .ok (.aload_n 0, 1) := by decide +kernel
theorem dX13_translate_6 : decode cX13_translate 6 = .ok (.iload_n 1, 1) := by decide +kernel
theorem dX13_translate_7 : decode cX13_translate 7 = .ok (.invokevirtual 280, 3) := by decide +kernel
theorem dX13_translate_10 : decode cX13_translate 10 = .ok (.ifCond .eq 11, 3) := by decide +kernel
theorem dX13_translate_13 : decode cX13_translate 13 = .ok (.aload_n 0, 1) := by decide +kernel
theorem dX13_translate_14 : decode cX13_translate 14 = .ok (.iload_n 2, 1) := by decide +kernel
theorem dX13_translate_15 : decode cX13_translate 15 = .ok (.invokevirtual 280, 3) := by decide +kernel
theorem dX13_translate_18 : decode cX13_translate 18 = .ok (.ifCond .ne 9, 3) := by decide +kernel
theorem dX13_translate_21 : decode cX13_translate 21 = .ok (.aload_n 0, 1) := by decide +kernel
theorem dX13_translate_22 : decode cX13_translate 22 = .ok (.iconst 1, 1) := by decide +kernel
theorem dX13_translate_23 : decode cX13_translate 23 = .ok (.invokevirtual 234, 3) := by decide +kernel
theorem dX13_translate_26 : decode cX13_translate 26 = .ok (.ireturn, 1) := by decide +kernel
theorem dX13_translate_27 : decode cX13_translate 27 = .ok (.iconst 0, 1) := by decide +kernel
theorem dX13_translate_28 : decode cX13_translate 28 = .ok (.istore_n 3, 1) := by decide +kernel
theorem dX13_translate_29 : decode cX13_translate 29 = .ok (.iconst 0, 1) := by decide +kernel
theorem dX13_translate_30 : decode cX13_translate 30 = .ok (.istore 4, 2) := by decide +kernel
theorem dX13_translate_32 : decode cX13_translate 32 = .ok (.iload 4, 2) := by decide +kernel
theorem dX13_translate_34 : decode cX13_translate 34 = .ok (.aload_n 0, 1) := by decide +kernel
theorem dX13_translate_35 : decode cX13_translate 35 = .ok (.getfield 47, 3) := by decide +kernel
theorem dX13_translate_38 : decode cX13_translate 38 = .ok (.getfield 256, 3) := by decide +kernel
theorem dX13_translate_41 : decode cX13_translate 41 = .ok (.if_icmp .ge 101, 3) := by decide +kernel
theorem dX13_translate_44 : decode cX13_translate 44 = .ok (.aload_n 0, 1) := by decide +kernel
theorem dX13_translate_45 : decode cX13_translate 45 = .ok (.iload_n 1, 1) := by decide +kernel
theorem dX13_translate_46 : decode cX13_translate 46 = .ok (.aload_n 0, 1) := by decide +kernel
theorem dX13_translate_47 : decode cX13_translate 47 = .ok (.getfield 47, 3) := by decide +kernel
theorem dX13_translate_50 : decode cX13_translate 50 = .ok (.getfield 286, 3) := by decide +kernel
theorem dX13_translate_53 : decode cX13_translate 53 = .ok (.iload 4, 2) := by decide +kernel
theorem dX13_translate_55 : decode cX13_translate 55 = .ok (.iaload, 1) := by decide +kernel
theorem dX13_translate_56 : decode cX13_translate 56 = .ok (.invokevirtual 292, 3) := by decide +kernel
theorem dX13_translate_59 : decode cX13_translate 59 = .ok (.istore 5, 2) := by decide +kernel
theorem dX13_translate_61 : decode cX13_translate 61 = .ok (.iload 5, 2) := by decide +kernel
theorem dX13_translate_63 : decode cX13_translate 63 = .ok (.iconst (-1), 1) := by decide +kernel
theorem dX13_translate_64 : decode cX13_translate 64 = .ok (.if_icmp .eq 72, 3) := by decide +kernel
theorem dX13_translate_67 : decode cX13_translate 67 = .ok (.iload 5, 2) := by decide +kernel
theorem dX13_translate_69 : decode cX13_translate 69 = .ok (.aload_n 0, 1) := by decide +kernel
theorem dX13_translate_70 : decode cX13_translate 70 = .ok (.getfield 35, 3) := by decide +kernel
theorem dX13_translate_73 : decode cX13_translate 73 = .ok (.getfield 219, 3) := by decide +kernel
theorem dX13_translate_76 : decode cX13_translate 76 = .ok (.iload_n 2, 1) := by decide +kernel
theorem dX13_translate_77 : decode cX13_translate 77 = .ok (.iaload, 1) := by decide +kernel
theorem dX13_translate_78 : decode cX13_translate 78 = .ok (.if_icmp .lt 6, 3) := by decide +kernel
theorem dX13_translate_81 : decode cX13_translate 81 = .ok (.goto 55, 3) := by decide +kernel
theorem dX13_translate_84 : decode cX13_translate 84 = .ok (.aload_n 0, 1) := by decide +kernel
theorem dX13_translate_85 : decode cX13_translate 85 = .ok (.getfield 35, 3) := by decide +kernel
theorem dX13_translate_88 : decode cX13_translate 88 = .ok (.getfield 222, 3) := by decide +kernel
theorem dX13_translate_91 : decode cX13_translate 91 = .ok (.bipush 12, 2) := by decide +kernel
theorem dX13_translate_93 : decode cX13_translate 93 = .ok (.iload_n 2, 1) := by decide +kernel
theorem dX13_translate_94 : decode cX13_translate 94 = .ok (.imul, 1) := by decide +kernel
theorem dX13_translate_95 : decode cX13_translate 95 = .ok (.iload 5, 2) := by decide +kernel
theorem dX13_translate_97 : decode cX13_translate 97 = .ok (.iadd, 1) := by decide +kernel
theorem dX13_translate_98 : decode cX13_translate 98 = .ok (.iaload, 1) := by decide +kernel
theorem dX13_translate_99 : decode cX13_translate 99 = .ok (.istore 6, 2) := by decide +kernel
theorem dX13_translate_101 : decode cX13_translate 101 = .ok (.iload_n 3, 1) := by decide +kernel
theorem dX13_translate_102 : decode cX13_translate 102 = .ok (.iload 6, 2) := by decide +kernel
theorem dX13_translate_104 : decode cX13_translate 104 = .ok (.aload_n 0, 1) := by decide +kernel
theorem dX13_translate_105 : decode cX13_translate 105 = .ok (.getfield 47, 3) := by decide +kernel
theorem dX13_translate_108 : decode cX13_translate 108 = .ok (.getfield 286, 3) := by decide +kernel
theorem dX13_translate_111 : decode cX13_translate 111 = .ok (.iload 4, 2) := by decide +kernel
theorem dX13_translate_113 : decode cX13_translate 113 = .ok (.iaload, 1) := by decide +kernel
theorem dX13_translate_114 : decode cX13_translate 114 = .ok (.if_icmp .ne 7, 3) := by decide +kernel
theorem dX13_translate_117 : decode cX13_translate 117 = .ok (.iconst 0, 1) := by decide +kernel
theorem dX13_translate_118 : decode cX13_translate 118 = .ok (.goto 4, 3) := by decide +kernel
theorem dX13_translate_121 : decode cX13_translate 121 = .ok (.iconst 1, 1) := by decide +kernel
theorem dX13_translate_122 : decode cX13_translate 122 = .ok (.iadd, 1) := by decide +kernel
theorem dX13_translate_123 : decode cX13_translate 123 = .ok (.istore_n 3, 1) := by decide +kernel
theorem dX13_translate_124 : decode cX13_translate 124 = .ok (.aload_n 0, 1) := by decide +kernel
theorem dX13_translate_125 : decode cX13_translate 125 = .ok (.getfield 47, 3) := by decide +kernel
theorem dX13_translate_128 : decode cX13_translate 128 = .ok (.getfield 286, 3) := by decide +kernel
theorem dX13_translate_131 : decode cX13_translate 131 = .ok (.iload 4, 2) := by decide +kernel
theorem dX13_translate_133 : decode cX13_translate 133 = .ok (.iload 6, 2) := by decide +kernel
theorem dX13_translate_135 : decode cX13_translate 135 = .ok (.iastore, 1) := by decide +kernel
theorem dX13_translate_136 : decode cX13_translate 136 = .ok (.iinc 4 1, 3) := by decide +kernel
theorem dX13_translate_139 : decode cX13_translate 139 = .ok (.goto (-107), 3) := by decide +kernel
theorem dX13_translate_142 : decode cX13_translate 142 = .ok (.iload_n 3, 1) := by decide +kernel
theorem dX13_translate_143 : decode cX13_translate 143 = .ok (.ireturn, 1) := by decide +kernel
theorem dX13_foresee_0 : decode cX13_foresee 0 = .ok (.aload_n 0, 1) := by decide +kernel
theorem dX13_foresee_1 : decode cX13_foresee 1 = .ok (.iconst 0, 1) := by decide +kernel
theorem dX13_foresee_2 : decode cX13_foresee 2 = .ok (.putfield 54, 3) := by decide +kernel
theorem dX13_foresee_5 : decode cX13_foresee 5 = .ok (.iload_n 1, 1) := by decide +kernel
theorem dX13_foresee_6 : decode cX13_foresee 6 = .ok (.iconst 1, 1) := by decide +kernel
theorem dX13_foresee_7 : decode cX13_foresee 7 = .ok (.sipush 300, 3) := by decide +kernel
theorem dX13_foresee_10 : decode cX13_foresee 10 = .ok (.invokestatic 60, 3) := by decide +kernel
theorem dX13_foresee_13 : decode cX13_foresee 13 = .ok (.ifCond .ne 9, 3) := by decide +kernel
theorem dX13_foresee_16 : decode cX13_foresee 16 = .ok (.aload_n 0, 1) := by decide +kernel
theorem dX13_foresee_17 : decode cX13_foresee 17 = .ok (.iconst 1, 1) := by decide +kernel
theorem dX13_foresee_18 : decode cX13_foresee 18 = .ok (.invokevirtual 234, 3) := by decide +kernel
theorem dX13_foresee_21 : decode cX13_foresee 21 = .ok (.ireturn, 1) := by decide +kernel
theorem dX13_foresee_22 : decode cX13_foresee 22 = .ok (.iload_n 2, 1) := by decide +kernel
theorem dX13_foresee_23 : decode cX13_foresee 23 = .ok (.iconst 0, 1) := by decide +kernel
theorem dX13_foresee_24 : decode cX13_foresee 24 = .ok (.iconst 2, 1) := by decide +kernel
theorem dX13_foresee_25 : decode cX13_foresee 25 = .ok (.invokestatic 60, 3) := by decide +kernel
theorem dX13_foresee_28 : decode cX13_foresee 28 = .ok (.ifCond .ne 9, 3) := by decide +kernel
theorem dX13_foresee_31 : decode cX13_foresee 31 = .ok (.aload_n 0, 1) := by decide +kernel
theorem dX13_foresee_32 : decode cX13_foresee 32 = .ok (.iconst 2, 1) := by decide +kernel
theorem dX13_foresee_33 : decode cX13_foresee 33 = .ok (.invokevirtual 234, 3) := by decide +kernel
theorem dX13_foresee_36 : decode cX13_foresee 36 = .ok (.ireturn, 1) := by decide +kernel
theorem dX13_foresee_37 : decode cX13_foresee 37 = .ok (.aload_n 0, 1) := by decide +kernel
theorem dX13_foresee_38 : decode cX13_foresee 38 = .ok (.getfield 51, 3) := by decide +kernel
theorem dX13_foresee_41 : decode cX13_foresee 41 = .ok (.aload_n 0, 1) := by decide +kernel
theorem dX13_foresee_42 : decode cX13_foresee 42 = .ok (.getfield 47, 3) := by decide +kernel
theorem dX13_foresee_45 : decode cX13_foresee 45 = .ok (.invokevirtual 295, 3) := by decide +kernel
theorem dX13_foresee_48 : decode cX13_foresee 48 = .ok (.iconst 0, 1) := by decide +kernel
theorem dX13_foresee_49 : decode cX13_foresee 49 = .ok (.istore_n 3, 1) := by decide +kernel
theorem dX13_foresee_50 : decode cX13_foresee 50 = .ok (.iconst 0, 1) := by decide +kernel
theorem dX13_foresee_51 : decode cX13_foresee 51 = .ok (.istore 4, 2) := by decide +kernel
theorem dX13_foresee_53 : decode cX13_foresee 53 = .ok (.iload 4, 2) := by decide +kernel
theorem dX13_foresee_55 : decode cX13_foresee 55 = .ok (.iload_n 1, 1) := by decide +kernel
theorem dX13_foresee_56 : decode cX13_foresee 56 = .ok (.if_icmp .ge 19, 3) := by decide +kernel
theorem dX13_foresee_59 : decode cX13_foresee 59 = .ok (.iload_n 3, 1) := by decide +kernel
theorem dX13_foresee_60 : decode cX13_foresee 60 = .ok (.aload_n 0, 1) := by decide +kernel
theorem dX13_foresee_61 : decode cX13_foresee 61 = .ok (.getfield 51, 3) := by decide +kernel
theorem dX13_foresee_64 : decode cX13_foresee 64 = .ok (.invokevirtual 283, 3) := by decide +kernel
theorem dX13_foresee_67 : decode cX13_foresee 67 = .ok (.iadd, 1) := by decide +kernel
theorem dX13_foresee_68 : decode cX13_foresee 68 = .ok (.istore_n 3, 1) := by decide +kernel
theorem dX13_foresee_69 : decode cX13_foresee 69 = .ok (.iinc 4 1, 3) := by decide +kernel
theorem dX13_foresee_72 : decode cX13_foresee 72 = .ok (.goto (-19), 3) := by decide +kernel
theorem dX13_foresee_75 : decode cX13_foresee 75 = .ok (.iload_n 2, 1) := by decide +kernel
theorem dX13_foresee_76 : decode cX13_foresee 76 = .ok (.ifCond .ne 7, 3) := by decide +kernel
theorem dX13_foresee_79 : decode cX13_foresee 79 = .ok (.iload_n 3, 1) := by decide +kernel
theorem dX13_foresee_80 : decode cX13_foresee 80 = .ok (.goto 25, 3) := by decide +kernel
theorem dX13_foresee_83 : decode cX13_foresee 83 = .ok (.iload_n 2, 1) := by decide +kernel
theorem dX13_foresee_84 : decode cX13_foresee 84 = .ok (.iconst 1, 1) := by decide +kernel
theorem dX13_foresee_85 : decode cX13_foresee 85 = .ok (.if_icmp .ne 13, 3) := by decide +kernel
theorem dX13_foresee_88 : decode cX13_foresee 88 = .ok (.aload_n 0, 1) := by decide +kernel
theorem dX13_foresee_89 : decode cX13_foresee 89 = .ok (.getfield 51, 3) := by decide +kernel
theorem dX13_foresee_92 : decode cX13_foresee 92 = .ok (.invokevirtual 259, 3) := by decide +kernel
theorem dX13_foresee_95 : decode cX13_foresee 95 = .ok (.goto 10, 3) := by decide +kernel
theorem dX13_foresee_98 : decode cX13_foresee 98 = .ok (.aload_n 0, 1) := by decide +kernel
theorem dX13_foresee_99 : decode cX13_foresee 99 = .ok (.getfield 51, 3) := by decide +kernel
theorem dX13_foresee_102 : decode cX13_foresee 102 = .ok (.invokevirtual 299, 3) := by decide +kernel
theorem dX13_foresee_105 : decode cX13_foresee 105 = .ok (.ireturn, 1) := by decide +kernel
theorem dX13_next_0 : decode cX13_next 0 = .ok (.aload_n 0, 1) := by decide +kernel
theorem dX13_next_1 : decode cX13_next 1 = .ok (.iconst 0, 1) := by decide +kernel
theorem dX13_next_2 : decode cX13_next 2 = .ok (.putfield 54, 3) := by decide +kernel
theorem dX13_next_5 : decode cX13_next 5 = .ok (.aload_n 0, 1) := by decide +kernel
theorem dX13_next_6 : decode cX13_next 6 = .ok (.iload_n 1, 1) := by decide +kernel
theorem dX13_next_7 : decode cX13_next 7 = .ok (.invokevirtual 268, 3) := by decide +kernel
theorem dX13_next_10 : decode cX13_next 10 = .ok (.ifCond .eq 11, 3) := by decide +kernel
theorem dX13_next_13 : decode cX13_next 13 = .ok (.aload_n 0, 1) := by decide +kernel
theorem dX13_next_14 : decode cX13_next 14 = .ok (.iload_n 2, 1) := by decide +kernel
theorem dX13_next_15 : decode cX13_next 15 = .ok (.invokevirtual 268, 3) := by decide +kernel
theorem dX13_next_18 : decode cX13_next 18 = .ok (.ifCond .ne 9, 3) := by decide +kernel
theorem dX13_next_21 : decode cX13_next 21 = .ok (.aload_n 0, 1) := by decide +kernel
theorem dX13_next_22 : decode cX13_next 22 = .ok (.iconst 1, 1) := by decide +kernel
theorem dX13_next_23 : decode cX13_next 23 = .ok (.invokevirtual 234, 3) := by decide +kernel
theorem dX13_next_26 : decode cX13_next 26 = .ok (.ireturn, 1) := by decide +kernel
theorem dX13_next_27 : decode cX13_next 27 = .ok (.aload_n 0, 1) := by decide +kernel
theorem dX13_next_28 : decode cX13_next 28 = .ok (.getfield 51, 3) := by decide +kernel
theorem dX13_next_31 : decode cX13_next 31 = .ok (.aload_n 0, 1) := by decide +kernel
theorem dX13_next_32 : decode cX13_next 32 = .ok (.getfield 47, 3) := by decide +kernel
theorem dX13_next_35 : decode cX13_next 35 = .ok (.invokevirtual 295, 3) := by decide +kernel
theorem dX13_next_38 : decode cX13_next 38 = .ok (.iconst 1, 1) := by decide +kernel
theorem dX13_next_39 : decode cX13_next 39 = .ok (.istore 4, 2) := by decide +kernel
theorem dX13_next_41 : decode cX13_next 41 = .ok (.iload 4, 2) := by decide +kernel
theorem dX13_next_43 : decode cX13_next 43 = .ok (.sipush 1000, 3) := by decide +kernel
theorem dX13_next_46 : decode cX13_next 46 = .ok (.if_icmp .gt 42, 3) := by decide +kernel
theorem dX13_next_49 : decode cX13_next 49 = .ok (.aload_n 0, 1) := by decide +kernel
theorem dX13_next_50 : decode cX13_next 50 = .ok (.getfield 51, 3) := by decide +kernel
theorem dX13_next_53 : decode cX13_next 53 = .ok (.invokevirtual 302, 3) := by decide +kernel
theorem dX13_next_56 : decode cX13_next 56 = .ok (.aload_n 0, 1) := by decide +kernel
theorem dX13_next_57 : decode cX13_next 57 = .ok (.getfield 51, 3) := by decide +kernel
theorem dX13_next_60 : decode cX13_next 60 = .ok (.iload_n 1, 1) := by decide +kernel
theorem dX13_next_61 : decode cX13_next 61 = .ok (.iload_n 2, 1) := by decide +kernel
theorem dX13_next_62 : decode cX13_next 62 = .ok (.iload_n 3, 1) := by decide +kernel
theorem dX13_next_63 : decode cX13_next 63 = .ok (.ifCond .eq 9, 3) := by decide +kernel
theorem dX13_next_66 : decode cX13_next 66 = .ok (.sipush 180, 3) := by decide +kernel
theorem dX13_next_69 : decode cX13_next 69 = .ok (.goto 4, 3) := by decide +kernel
theorem dX13_next_72 : decode cX13_next 72 = .ok (.iconst 0, 1) := by decide +kernel
theorem dX13_next_73 : decode cX13_next 73 = .ok (.invokevirtual 277, 3) := by decide +kernel
theorem dX13_next_76 : decode cX13_next 76 = .ok (.ifCond .eq 6, 3) := by decide +kernel
theorem dX13_next_79 : decode cX13_next 79 = .ok (.iload 4, 2) := by decide +kernel
theorem dX13_next_81 : decode cX13_next 81 = .ok (.ireturn, 1) := by decide +kernel
theorem dX13_next_82 : decode cX13_next 82 = .ok (.iinc 4 1, 3) := by decide +kernel
theorem dX13_next_85 : decode cX13_next 85 = .ok (.goto (-44), 3) := by decide +kernel
theorem dX13_next_88 : decode cX13_next 88 = .ok (.iconst (-1), 1) := by decide +kernel
theorem dX13_next_89 : decode cX13_next 89 = .ok (.ireturn, 1) := by decide +kernel
theorem dX13_spells_0 : decode cX13_spells 0 = .ok (.aload_n 0, 1) := by decide +kernel
theorem dX13_spells_1 : decode cX13_spells 1 = .ok (.iconst 0, 1) := by decide +kernel
theorem dX13_spells_2 : decode cX13_spells 2 = .ok (.putfield 54, 3) := by decide +kernel
theorem dX13_spells_5 : decode cX13_spells 5 = .ok (.aload_n 0, 1) := by decide +kernel
theorem dX13_spells_6 : decode cX13_spells 6 = .ok (.getfield 79, 3) := by decide +kernel
theorem dX13_spells_9 : decode cX13_spells 9 = .ok (.ifCond .ne 5, 3) := by decide +kernel
theorem dX13_spells_12 : decode cX13_spells 12 = .ok (.iconst (-1), 1) := by decide +kernel
theorem dX13_spells_13 : decode cX13_spells 13 = .ok (.ireturn, 1) := by decide +kernel
theorem dX13_spells_14 : decode cX13_spells 14 = .ok (.aload_n 0, 1) := by decide +kernel
theorem dX13_spells_15 : decode cX13_spells 15 = .ok (.getfield 51, 3) := by decide +kernel
theorem dX13_spells_18 : decode cX13_spells 18 = .ok (.aload_n 0, 1) := by decide +kernel
theorem dX13_spells_19 : decode cX13_spells 19 = .ok (.getfield 47, 3) := by decide +kernel
theorem dX13_spells_22 : decode cX13_spells 22 = .ok (.invokevirtual 295, 3) := by decide +kernel
theorem dX13_spells_25 : decode cX13_spells 25 = .ok (.iconst 0, 1) := by decide +kernel
theorem dX13_spells_26 : decode cX13_spells 26 = .ok (.istore_n 1, 1) := by decide +kernel
theorem dX13_spells_27 : decode cX13_spells 27 = .ok (.iconst 0, 1) := by decide +kernel
theorem dX13_spells_28 : decode cX13_spells 28 = .ok (.istore_n 2, 1) := by decide +kernel
theorem dX13_spells_29 : decode cX13_spells 29 = .ok (.iload_n 2, 1) := by decide +kernel
theorem dX13_spells_30 : decode cX13_spells 30 = .ok (.sipush 400, 3) := by decide +kernel
theorem dX13_spells_33 : decode cX13_spells 33 = .ok (.if_icmp .gt 50, 3) := by decide +kernel
theorem dX13_spells_36 : decode cX13_spells 36 = .ok (.aload_n 0, 1) := by decide +kernel
theorem dX13_spells_37 : decode cX13_spells 37 = .ok (.getfield 51, 3) := by decide +kernel
theorem dX13_spells_40 : decode cX13_spells 40 = .ok (.iload_n 1, 1) := by decide +kernel
theorem dX13_spells_41 : decode cX13_spells 41 = .ok (.invokevirtual 289, 3) := by decide +kernel
theorem dX13_spells_44 : decode cX13_spells 44 = .ok (.iconst (-1), 1) := by decide +kernel
theorem dX13_spells_45 : decode cX13_spells 45 = .ok (.if_icmp .eq 5, 3) := by decide +kernel
theorem dX13_spells_48 : decode cX13_spells 48 = .ok (.iload_n 2, 1) := by decide +kernel
theorem dX13_spells_49 : decode cX13_spells 49 = .ok (.ireturn, 1) := by decide +kernel
theorem dX13_spells_50 : decode cX13_spells 50 = .ok (.iconst 0, 1) := by decide +kernel
theorem dX13_spells_51 : decode cX13_spells 51 = .ok (.aload_n 0, 1) := by decide +kernel
theorem dX13_spells_52 : decode cX13_spells 52 = .ok (.getfield 51, 3) := by decide +kernel
theorem dX13_spells_55 : decode cX13_spells 55 = .ok (.getfield 256, 3) := by decide +kernel
theorem dX13_spells_58 : decode cX13_spells 58 = .ok (.aload_n 0, 1) := by decide +kernel
theorem dX13_spells_59 : decode cX13_spells 59 = .ok (.getfield 79, 3) := by decide +kernel
theorem dX13_spells_62 : decode cX13_spells 62 = .ok (.isub, 1) := by decide +kernel
theorem dX13_spells_63 : decode cX13_spells 63 = .ok (.iconst 1, 1) := by decide +kernel
theorem dX13_spells_64 : decode cX13_spells 64 = .ok (.iadd, 1) := by decide +kernel
theorem dX13_spells_65 : decode cX13_spells 65 = .ok (.invokestatic 76, 3) := by decide +kernel
theorem dX13_spells_68 : decode cX13_spells 68 = .ok (.istore_n 1, 1) := by decide +kernel
theorem dX13_spells_69 : decode cX13_spells 69 = .ok (.aload_n 0, 1) := by decide +kernel
theorem dX13_spells_70 : decode cX13_spells 70 = .ok (.getfield 51, 3) := by decide +kernel
theorem dX13_spells_73 : decode cX13_spells 73 = .ok (.invokevirtual 283, 3) := by decide +kernel
theorem dX13_spells_76 : decode cX13_spells 76 = .ok (.pop, 1) := by decide +kernel
theorem dX13_spells_77 : decode cX13_spells 77 = .ok (.iinc 2 1, 3) := by decide +kernel
theorem dX13_spells_80 : decode cX13_spells 80 = .ok (.goto (-51), 3) := by decide +kernel
theorem dX13_spells_83 : decode cX13_spells 83 = .ok (.iconst (-1), 1) := by decide +kernel
theorem dX13_spells_84 : decode cX13_spells 84 = .ok (.ireturn, 1) := by decide +kernel
theorem dX13_again_0 : decode cX13_again 0 = .ok (.aload_n 0, 1) := by decide +kernel
theorem dX13_again_1 : decode cX13_again 1 = .ok (.iconst 0, 1) := by decide +kernel
theorem dX13_again_2 : decode cX13_again 2 = .ok (.putfield 54, 3) := by decide +kernel
theorem dX13_again_5 : decode cX13_again 5 = .ok (.iload_n 1, 1) := by decide +kernel
theorem dX13_again_6 : decode cX13_again 6 = .ok (.iconst 1, 1) := by decide +kernel
theorem dX13_again_7 : decode cX13_again 7 = .ok (.sipush 2000, 3) := by decide +kernel
theorem dX13_again_10 : decode cX13_again 10 = .ok (.invokestatic 60, 3) := by decide +kernel
theorem dX13_again_13 : decode cX13_again 13 = .ok (.ifCond .ne 9, 3) := by decide +kernel
theorem dX13_again_16 : decode cX13_again 16 = .ok (.aload_n 0, 1) := by decide +kernel
theorem dX13_again_17 : decode cX13_again 17 = .ok (.iconst 1, 1) := by decide +kernel
theorem dX13_again_18 : decode cX13_again 18 = .ok (.invokevirtual 234, 3) := by decide +kernel
theorem dX13_again_21 : decode cX13_again 21 = .ok (.ireturn, 1) := by decide +kernel
theorem dX13_again_22 : decode cX13_again 22 = .ok (.aload_n 0, 1) := by decide +kernel
theorem dX13_again_23 : decode cX13_again 23 = .ok (.getfield 51, 3) := by decide +kernel
theorem dX13_again_26 : decode cX13_again 26 = .ok (.aload_n 0, 1) := by decide +kernel
theorem dX13_again_27 : decode cX13_again 27 = .ok (.getfield 47, 3) := by decide +kernel
theorem dX13_again_30 : decode cX13_again 30 = .ok (.invokevirtual 295, 3) := by decide +kernel
theorem dX13_again_33 : decode cX13_again 33 = .ok (.iconst 1, 1) := by decide +kernel
theorem dX13_again_34 : decode cX13_again 34 = .ok (.istore_n 2, 1) := by decide +kernel
theorem dX13_again_35 : decode cX13_again 35 = .ok (.iload_n 2, 1) := by decide +kernel
theorem dX13_again_36 : decode cX13_again 36 = .ok (.iload_n 1, 1) := by decide +kernel
theorem dX13_again_37 : decode cX13_again 37 = .ok (.if_icmp .gt 86, 3) := by decide +kernel
theorem dX13_again_40 : decode cX13_again 40 = .ok (.aload_n 0, 1) := by decide +kernel
theorem dX13_again_41 : decode cX13_again 41 = .ok (.getfield 35, 3) := by decide +kernel
theorem dX13_again_44 : decode cX13_again 44 = .ok (.getfield 57, 3) := by decide +kernel
theorem dX13_again_47 : decode cX13_again 47 = .ok (.ifCond .le 76, 3) := by decide +kernel
theorem dX13_again_50 : decode cX13_again 50 = .ok (.aload_n 0, 1) := by decide +kernel
theorem dX13_again_51 : decode cX13_again 51 = .ok (.getfield 51, 3) := by decide +kernel
theorem dX13_again_54 : decode cX13_again 54 = .ok (.invokevirtual 302, 3) := by decide +kernel
theorem dX13_again_57 : decode cX13_again 57 = .ok (.iconst 1, 1) := by decide +kernel
theorem dX13_again_58 : decode cX13_again 58 = .ok (.istore_n 3, 1) := by decide +kernel
theorem dX13_again_59 : decode cX13_again 59 = .ok (.iconst 0, 1) := by decide +kernel
theorem dX13_again_60 : decode cX13_again 60 = .ok (.istore 4, 2) := by decide +kernel
theorem dX13_again_62 : decode cX13_again 62 = .ok (.iload 4, 2) := by decide +kernel
theorem dX13_again_64 : decode cX13_again 64 = .ok (.aload_n 0, 1) := by decide +kernel
theorem dX13_again_65 : decode cX13_again 65 = .ok (.getfield 35, 3) := by decide +kernel
theorem dX13_again_68 : decode cX13_again 68 = .ok (.getfield 57, 3) := by decide +kernel
theorem dX13_again_71 : decode cX13_again 71 = .ok (.if_icmp .ge 40, 3) := by decide +kernel
theorem dX13_again_74 : decode cX13_again 74 = .ok (.iload_n 3, 1) := by decide +kernel
theorem dX13_again_75 : decode cX13_again 75 = .ok (.aload_n 0, 1) := by decide +kernel
theorem dX13_again_76 : decode cX13_again 76 = .ok (.getfield 51, 3) := by decide +kernel
theorem dX13_again_79 : decode cX13_again 79 = .ok (.getfield 265, 3) := by decide +kernel
theorem dX13_again_82 : decode cX13_again 82 = .ok (.iload 4, 2) := by decide +kernel
theorem dX13_again_84 : decode cX13_again 84 = .ok (.iaload, 1) := by decide +kernel
theorem dX13_again_85 : decode cX13_again 85 = .ok (.aload_n 0, 1) := by decide +kernel
theorem dX13_again_86 : decode cX13_again 86 = .ok (.getfield 47, 3) := by decide +kernel
theorem dX13_again_89 : decode cX13_again 89 = .ok (.getfield 265, 3) := by decide +kernel
theorem dX13_again_92 : decode cX13_again 92 = .ok (.iload 4, 2) := by decide +kernel
theorem dX13_again_94 : decode cX13_again 94 = .ok (.iaload, 1) := by decide +kernel
theorem dX13_again_95 : decode cX13_again 95 = .ok (.if_icmp .ne 7, 3) := by decide +kernel
theorem dX13_again_98 : decode cX13_again 98 = .ok (.iconst 1, 1) := by decide +kernel
theorem dX13_again_99 : decode cX13_again 99 = .ok (.goto 4, 3) := by decide +kernel
theorem dX13_again_102 : decode cX13_again 102 = .ok (.iconst 0, 1) := by decide +kernel
theorem dX13_again_103 : decode cX13_again 103 = .ok (.iand, 1) := by decide +kernel
theorem dX13_again_104 : decode cX13_again 104 = .ok (.istore_n 3, 1) := by decide +kernel
theorem dX13_again_105 : decode cX13_again 105 = .ok (.iinc 4 1, 3) := by decide +kernel
theorem dX13_again_108 : decode cX13_again 108 = .ok (.goto (-46), 3) := by decide +kernel
theorem dX13_again_111 : decode cX13_again 111 = .ok (.iload_n 3, 1) := by decide +kernel
theorem dX13_again_112 : decode cX13_again 112 = .ok (.ifCond .eq 5, 3) := by decide +kernel
theorem dX13_again_115 : decode cX13_again 115 = .ok (.iload_n 2, 1) := by decide +kernel
theorem dX13_again_116 : decode cX13_again 116 = .ok (.ireturn, 1) := by decide +kernel
theorem dX13_again_117 : decode cX13_again 117 = .ok (.iinc 2 1, 3) := by decide +kernel
theorem dX13_again_120 : decode cX13_again 120 = .ok (.goto (-85), 3) := by decide +kernel
theorem dX13_again_123 : decode cX13_again 123 = .ok (.iconst (-1), 1) := by decide +kernel
theorem dX13_again_124 : decode cX13_again 124 = .ok (.ireturn, 1) := by decide +kernel
theorem dX13_advise_0 : decode cX13_advise 0 = .ok (.aload_n 0, 1) := by decide +kernel
theorem dX13_advise_1 : decode cX13_advise 1 = .ok (.iconst 0, 1) := by decide +kernel
theorem dX13_advise_2 : decode cX13_advise 2 = .ok (.putfield 54, 3) := by decide +kernel
theorem dX13_advise_5 : decode cX13_advise 5 = .ok (.aload_n 0, 1) := by decide +kernel
theorem dX13_advise_6 : decode cX13_advise 6 = .ok (.iload_n 1, 1) := by decide +kernel
theorem dX13_advise_7 : decode cX13_advise 7 = .ok (.invokevirtual 268, 3) := by decide +kernel
theorem dX13_advise_10 : decode cX13_advise 10 = .ok (.ifCond .ne 9, 3) := by decide +kernel
theorem dX13_advise_13 : decode cX13_advise 13 = .ok (.aload_n 0, 1) := by decide +kernel
theorem dX13_advise_14 : decode cX13_advise 14 = .ok (.iconst 1, 1) := by decide +kernel
theorem dX13_advise_15 : decode cX13_advise 15 = .ok (.invokevirtual 234, 3) := by decide +kernel
theorem dX13_advise_18 : decode cX13_advise 18 = .ok (.ireturn, 1) := by decide +kernel
theorem dX13_advise_19 : decode cX13_advise 19 = .ok (.iload_n 2, 1) := by decide +kernel
theorem dX13_advise_20 : decode cX13_advise 20 = .ok (.iconst 1, 1) := by decide +kernel
theorem dX13_advise_21 : decode cX13_advise 21 = .ok (.bipush 60, 2) := by decide +kernel
theorem dX13_advise_23 : decode cX13_advise 23 = .ok (.invokestatic 60, 3) := by decide +kernel
theorem dX13_advise_26 : decode cX13_advise 26 = .ok (.ifCond .ne 9, 3) := by decide +kernel
theorem dX13_advise_29 : decode cX13_advise 29 = .ok (.aload_n 0, 1) := by decide +kernel
theorem dX13_advise_30 : decode cX13_advise 30 = .ok (.iconst 2, 1) := by decide +kernel
theorem dX13_advise_31 : decode cX13_advise 31 = .ok (.invokevirtual 234, 3) := by decide +kernel
theorem dX13_advise_34 : decode cX13_advise 34 = .ok (.ireturn, 1) := by decide +kernel
theorem dX13_advise_35 : decode cX13_advise 35 = .ok (.iconst 0, 1) := by decide +kernel
theorem dX13_advise_36 : decode cX13_advise 36 = .ok (.istore_n 3, 1) := by decide +kernel
theorem dX13_advise_37 : decode cX13_advise 37 = .ok (.iconst (-1), 1) := by decide +kernel
theorem dX13_advise_38 : decode cX13_advise 38 = .ok (.istore 4, 2) := by decide +kernel
theorem dX13_advise_40 : decode cX13_advise 40 = .ok (.iconst 0, 1) := by decide +kernel
theorem dX13_advise_41 : decode cX13_advise 41 = .ok (.istore 5, 2) := by decide +kernel
theorem dX13_advise_43 : decode cX13_advise 43 = .ok (.iload 5, 2) := by decide +kernel
theorem dX13_advise_45 : decode cX13_advise 45 = .ok (.bipush 36, 2) := by decide +kernel
theorem dX13_advise_47 : decode cX13_advise 47 = .ok (.if_icmp .ge 94, 3) := by decide +kernel
theorem dX13_advise_50 : decode cX13_advise 50 = .ok (.aload_n 0, 1) := by decide +kernel
theorem dX13_advise_51 : decode cX13_advise 51 = .ok (.getfield 51, 3) := by decide +kernel
theorem dX13_advise_54 : decode cX13_advise 54 = .ok (.aload_n 0, 1) := by decide +kernel
theorem dX13_advise_55 : decode cX13_advise 55 = .ok (.getfield 47, 3) := by decide +kernel
theorem dX13_advise_58 : decode cX13_advise 58 = .ok (.invokevirtual 295, 3) := by decide +kernel
theorem dX13_advise_61 : decode cX13_advise 61 = .ok (.aload_n 0, 1) := by decide +kernel
theorem dX13_advise_62 : decode cX13_advise 62 = .ok (.getfield 51, 3) := by decide +kernel
theorem dX13_advise_65 : decode cX13_advise 65 = .ok (.iload_n 1, 1) := by decide +kernel
theorem dX13_advise_66 : decode cX13_advise 66 = .ok (.aload_n 0, 1) := by decide +kernel
theorem dX13_advise_67 : decode cX13_advise 67 = .ok (.getfield 47, 3) := by decide +kernel
theorem dX13_advise_70 : decode cX13_advise 70 = .ok (.getfield 265, 3) := by decide +kernel
theorem dX13_advise_73 : decode cX13_advise 73 = .ok (.iload_n 1, 1) := by decide +kernel
theorem dX13_advise_74 : decode cX13_advise 74 = .ok (.iaload, 1) := by decide +kernel
theorem dX13_advise_75 : decode cX13_advise 75 = .ok (.bipush 10, 2) := by decide +kernel
theorem dX13_advise_77 : decode cX13_advise 77 = .ok (.iload 5, 2) := by decide +kernel
theorem dX13_advise_79 : decode cX13_advise 79 = .ok (.imul, 1) := by decide +kernel
theorem dX13_advise_80 : decode cX13_advise 80 = .ok (.iadd, 1) := by decide +kernel
theorem dX13_advise_81 : decode cX13_advise 81 = .ok (.sipush 360, 3) := by decide +kernel
theorem dX13_advise_84 : decode cX13_advise 84 = .ok (.irem, 1) := by decide +kernel
theorem dX13_advise_85 : decode cX13_advise 85 = .ok (.invokevirtual 240, 3) := by decide +kernel
theorem dX13_advise_88 : decode cX13_advise 88 = .ok (.iconst 0, 1) := by decide +kernel
theorem dX13_advise_89 : decode cX13_advise 89 = .ok (.istore 6, 2) := by decide +kernel
theorem dX13_advise_91 : decode cX13_advise 91 = .ok (.iconst 0, 1) := by decide +kernel
theorem dX13_advise_92 : decode cX13_advise 92 = .ok (.istore 7, 2) := by decide +kernel
theorem dX13_advise_94 : decode cX13_advise 94 = .ok (.iload 7, 2) := by decide +kernel
theorem dX13_advise_96 : decode cX13_advise 96 = .ok (.iload_n 2, 1) := by decide +kernel
theorem dX13_advise_97 : decode cX13_advise 97 = .ok (.if_icmp .ge 21, 3) := by decide +kernel
theorem dX13_advise_100 : decode cX13_advise 100 = .ok (.iload 6, 2) := by decide +kernel
theorem dX13_advise_102 : decode cX13_advise 102 = .ok (.aload_n 0, 1) := by decide +kernel
theorem dX13_advise_103 : decode cX13_advise 103 = .ok (.getfield 51, 3) := by decide +kernel
theorem dX13_advise_106 : decode cX13_advise 106 = .ok (.invokevirtual 283, 3) := by decide +kernel
theorem dX13_advise_109 : decode cX13_advise 109 = .ok (.iadd, 1) := by decide +kernel
theorem dX13_advise_110 : decode cX13_advise 110 = .ok (.istore 6, 2) := by decide +kernel
theorem dX13_advise_112 : decode cX13_advise 112 = .ok (.iinc 7 1, 3) := by decide +kernel
theorem dX13_advise_115 : decode cX13_advise 115 = .ok (.goto (-21), 3) := by decide +kernel
theorem dX13_advise_118 : decode cX13_advise 118 = .ok (.iload 6, 2) := by decide +kernel
theorem dX13_advise_120 : decode cX13_advise 120 = .ok (.iload 4, 2) := by decide +kernel
theorem dX13_advise_122 : decode cX13_advise 122 = .ok (.if_icmp .gt 6, 3) := by decide +kernel
theorem dX13_advise_125 : decode cX13_advise 125 = .ok (.goto 10, 3) := by decide +kernel
theorem dX13_advise_128 : decode cX13_advise 128 = .ok (.iload 6, 2) := by decide +kernel
theorem dX13_advise_130 : decode cX13_advise 130 = .ok (.istore 4, 2) := by decide +kernel
theorem dX13_advise_132 : decode cX13_advise 132 = .ok (.iload 5, 2) := by decide +kernel
theorem dX13_advise_134 : decode cX13_advise 134 = .ok (.istore_n 3, 1) := by decide +kernel
theorem dX13_advise_135 : decode cX13_advise 135 = .ok (.iinc 5 1, 3) := by decide +kernel
theorem dX13_advise_138 : decode cX13_advise 138 = .ok (.goto (-95), 3) := by decide +kernel
theorem dX13_advise_141 : decode cX13_advise 141 = .ok (.iload_n 3, 1) := by decide +kernel
theorem dX13_advise_142 : decode cX13_advise 142 = .ok (.ireturn, 1) := by decide +kernel
theorem dX13_wroteInAll_0 : decode cX13_wroteInAll 0 = .ok (.iconst 0, 1) := by decide +kernel
theorem dX13_wroteInAll_1 : decode cX13_wroteInAll 1 = .ok (.istore_n 1, 1) := by decide +kernel
theorem dX13_wroteInAll_2 : decode cX13_wroteInAll 2 = .ok (.iconst 0, 1) := by decide +kernel
theorem dX13_wroteInAll_3 : decode cX13_wroteInAll 3 = .ok (.istore_n 2, 1) := by decide +kernel
theorem dX13_wroteInAll_4 : decode cX13_wroteInAll 4 = .ok (.iload_n 2, 1) := by decide +kernel
theorem dX13_wroteInAll_5 : decode cX13_wroteInAll 5 = .ok (.aload_n 0, 1) := by decide +kernel
theorem dX13_wroteInAll_6 : decode cX13_wroteInAll 6 = .ok (.getfield 35, 3) := by decide +kernel
theorem dX13_wroteInAll_9 : decode cX13_wroteInAll 9 = .ok (.getfield 155, 3) := by decide +kernel
theorem dX13_wroteInAll_12 : decode cX13_wroteInAll 12 = .ok (.if_icmp .ge 21, 3) := by decide +kernel
theorem dX13_wroteInAll_15 : decode cX13_wroteInAll 15 = .ok (.iload_n 1, 1) := by decide +kernel
theorem dX13_wroteInAll_16 : decode cX13_wroteInAll 16 = .ok (.aload_n 0, 1) := by decide +kernel
theorem dX13_wroteInAll_17 : decode cX13_wroteInAll 17 = .ok (.getfield 47, 3) := by decide +kernel
theorem dX13_wroteInAll_20 : decode cX13_wroteInAll 20 = .ok (.getfield 247, 3) := by decide +kernel
theorem dX13_wroteInAll_23 : decode cX13_wroteInAll 23 = .ok (.iload_n 2, 1) := by decide +kernel
theorem dX13_wroteInAll_24 : decode cX13_wroteInAll 24 = .ok (.iaload, 1) := by decide +kernel
theorem dX13_wroteInAll_25 : decode cX13_wroteInAll 25 = .ok (.iadd, 1) := by decide +kernel
theorem dX13_wroteInAll_26 : decode cX13_wroteInAll 26 = .ok (.istore_n 1, 1) := by decide +kernel
theorem dX13_wroteInAll_27 : decode cX13_wroteInAll 27 = .ok (.iinc 2 1, 3) := by decide +kernel
theorem dX13_wroteInAll_30 : decode cX13_wroteInAll 30 = .ok (.goto (-26), 3) := by decide +kernel
theorem dX13_wroteInAll_33 : decode cX13_wroteInAll 33 = .ok (.iload_n 1, 1) := by decide +kernel
theorem dX13_wroteInAll_34 : decode cX13_wroteInAll 34 = .ok (.ireturn, 1) := by decide +kernel
theorem dX13_mean_0 : decode cX13_mean 0 = .ok (.aload_n 0, 1) := by decide +kernel
theorem dX13_mean_1 : decode cX13_mean 1 = .ok (.iconst 0, 1) := by decide +kernel
theorem dX13_mean_2 : decode cX13_mean 2 = .ok (.putfield 54, 3) := by decide +kernel
theorem dX13_mean_5 : decode cX13_mean 5 = .ok (.aload_n 0, 1) := by decide +kernel
theorem dX13_mean_6 : decode cX13_mean 6 = .ok (.getfield 47, 3) := by decide +kernel
theorem dX13_mean_9 : decode cX13_mean 9 = .ok (.getfield 253, 3) := by decide +kernel
theorem dX13_mean_12 : decode cX13_mean 12 = .ok (.ifCond .ne 7, 3) := by decide +kernel
theorem dX13_mean_15 : decode cX13_mean 15 = .ok (.dconst 0, 1) := by decide +kernel
theorem dX13_mean_16 : decode cX13_mean 16 = .ok (.goto 17, 3) := by decide +kernel
theorem dX13_mean_19 : decode cX13_mean 19 = .ok (.aload_n 0, 1) := by decide +kernel
theorem dX13_mean_20 : decode cX13_mean 20 = .ok (.invokevirtual 305, 3) := by decide +kernel
theorem dX13_mean_23 : decode cX13_mean 23 = .ok (.i2d, 1) := by decide +kernel
theorem dX13_mean_24 : decode cX13_mean 24 = .ok (.aload_n 0, 1) := by decide +kernel
theorem dX13_mean_25 : decode cX13_mean 25 = .ok (.getfield 47, 3) := by decide +kernel
theorem dX13_mean_28 : decode cX13_mean 28 = .ok (.getfield 253, 3) := by decide +kernel
theorem dX13_mean_31 : decode cX13_mean 31 = .ok (.i2d, 1) := by decide +kernel
theorem dX13_mean_32 : decode cX13_mean 32 = .ok (.ddiv, 1) := by decide +kernel
theorem dX13_mean_33 : decode cX13_mean 33 = .ok (.dreturn, 1) := by decide +kernel
theorem dX13_digest_0 : decode cX13_digest 0 = .ok (.aload_n 0, 1) := by decide +kernel
theorem dX13_digest_1 : decode cX13_digest 1 = .ok (.iconst 0, 1) := by decide +kernel
theorem dX13_digest_2 : decode cX13_digest 2 = .ok (.putfield 54, 3) := by decide +kernel
theorem dX13_digest_5 : decode cX13_digest 5 = .ok (.ldc2_w 308, 3) := by decide +kernel
theorem dX13_digest_8 : decode cX13_digest 8 = .ok (.lstore_n 1, 1) := by decide +kernel
theorem dX13_digest_9 : decode cX13_digest 9 = .ok (.iconst 0, 1) := by decide +kernel
theorem dX13_digest_10 : decode cX13_digest 10 = .ok (.istore_n 3, 1) := by decide +kernel
theorem dX13_digest_11 : decode cX13_digest 11 = .ok (.iload_n 3, 1) := by decide +kernel
theorem dX13_digest_12 : decode cX13_digest 12 = .ok (.bipush 8, 2) := by decide +kernel
theorem dX13_digest_14 : decode cX13_digest 14 = .ok (.if_icmp .ge 22, 3) := by decide +kernel
theorem dX13_digest_17 : decode cX13_digest 17 = .ok (.lload_n 1, 1) := by decide +kernel
theorem dX13_digest_18 : decode cX13_digest 18 = .ok (.ldc2_w 310, 3) := by decide +kernel
theorem dX13_digest_21 : decode cX13_digest 21 = .ok (.lmul, 1) := by decide +kernel
theorem dX13_digest_22 : decode cX13_digest 22 = .ok (.aload_n 0, 1) := by decide +kernel
theorem dX13_digest_23 : decode cX13_digest 23 = .ok (.iload_n 3, 1) := by decide +kernel
theorem dX13_digest_24 : decode cX13_digest 24 = .ok (.invokevirtual 262, 3) := by decide +kernel
theorem dX13_digest_27 : decode cX13_digest 27 = .ok (.i2l, 1) := by decide +kernel
theorem dX13_digest_28 : decode cX13_digest 28 = .ok (.ladd, 1) := by decide +kernel
theorem dX13_digest_29 : decode cX13_digest 29 = .ok (.lstore_n 1, 1) := by decide +kernel
theorem dX13_digest_30 : decode cX13_digest 30 = .ok (.iinc 3 1, 3) := by decide +kernel
theorem dX13_digest_33 : decode cX13_digest 33 = .ok (.goto (-22), 3) := by decide +kernel
theorem dX13_digest_36 : decode cX13_digest 36 = .ok (.iconst 0, 1) := by decide +kernel
theorem dX13_digest_37 : decode cX13_digest 37 = .ok (.istore_n 3, 1) := by decide +kernel
theorem dX13_digest_38 : decode cX13_digest 38 = .ok (.iload_n 3, 1) := by decide +kernel
theorem dX13_digest_39 : decode cX13_digest 39 = .ok (.aload_n 0, 1) := by decide +kernel
theorem dX13_digest_40 : decode cX13_digest 40 = .ok (.getfield 35, 3) := by decide +kernel
theorem dX13_digest_43 : decode cX13_digest 43 = .ok (.getfield 57, 3) := by decide +kernel
theorem dX13_digest_46 : decode cX13_digest 46 = .ok (.if_icmp .ge 40, 3) := by decide +kernel
theorem dX13_digest_49 : decode cX13_digest 49 = .ok (.iconst 0, 1) := by decide +kernel
theorem dX13_digest_50 : decode cX13_digest 50 = .ok (.istore 4, 2) := by decide +kernel
theorem dX13_digest_52 : decode cX13_digest 52 = .ok (.iload 4, 2) := by decide +kernel
theorem dX13_digest_54 : decode cX13_digest 54 = .ok (.bipush 7, 2) := by decide +kernel
theorem dX13_digest_56 : decode cX13_digest 56 = .ok (.if_icmp .ge 24, 3) := by decide +kernel
theorem dX13_digest_59 : decode cX13_digest 59 = .ok (.lload_n 1, 1) := by decide +kernel
theorem dX13_digest_60 : decode cX13_digest 60 = .ok (.ldc2_w 310, 3) := by decide +kernel
theorem dX13_digest_63 : decode cX13_digest 63 = .ok (.lmul, 1) := by decide +kernel
theorem dX13_digest_64 : decode cX13_digest 64 = .ok (.aload_n 0, 1) := by decide +kernel
theorem dX13_digest_65 : decode cX13_digest 65 = .ok (.iload_n 3, 1) := by decide +kernel
theorem dX13_digest_66 : decode cX13_digest 66 = .ok (.iload 4, 2) := by decide +kernel
theorem dX13_digest_68 : decode cX13_digest 68 = .ok (.invokevirtual 271, 3) := by decide +kernel
theorem dX13_digest_71 : decode cX13_digest 71 = .ok (.i2l, 1) := by decide +kernel
theorem dX13_digest_72 : decode cX13_digest 72 = .ok (.ladd, 1) := by decide +kernel
theorem dX13_digest_73 : decode cX13_digest 73 = .ok (.lstore_n 1, 1) := by decide +kernel
theorem dX13_digest_74 : decode cX13_digest 74 = .ok (.iinc 4 1, 3) := by decide +kernel
theorem dX13_digest_77 : decode cX13_digest 77 = .ok (.goto (-25), 3) := by decide +kernel
theorem dX13_digest_80 : decode cX13_digest 80 = .ok (.iinc 3 1, 3) := by decide +kernel
theorem dX13_digest_83 : decode cX13_digest 83 = .ok (.goto (-45), 3) := by decide +kernel
theorem dX13_digest_86 : decode cX13_digest 86 = .ok (.iconst 0, 1) := by decide +kernel
theorem dX13_digest_87 : decode cX13_digest 87 = .ok (.istore_n 3, 1) := by decide +kernel
theorem dX13_digest_88 : decode cX13_digest 88 = .ok (.iload_n 3, 1) := by decide +kernel
theorem dX13_digest_89 : decode cX13_digest 89 = .ok (.aload_n 0, 1) := by decide +kernel
theorem dX13_digest_90 : decode cX13_digest 90 = .ok (.getfield 35, 3) := by decide +kernel
theorem dX13_digest_93 : decode cX13_digest 93 = .ok (.getfield 64, 3) := by decide +kernel
theorem dX13_digest_96 : decode cX13_digest 96 = .ok (.if_icmp .ge 72, 3) := by decide +kernel
theorem dX13_digest_99 : decode cX13_digest 99 = .ok (.lload_n 1, 1) := by decide +kernel
theorem dX13_digest_100 : decode cX13_digest 100 = .ok (.ldc2_w 310, 3) := by decide +kernel
theorem dX13_digest_103 : decode cX13_digest 103 = .ok (.lmul, 1) := by decide +kernel
theorem dX13_digest_104 : decode cX13_digest 104 = .ok (.aload_n 0, 1) := by decide +kernel
theorem dX13_digest_105 : decode cX13_digest 105 = .ok (.getfield 35, 3) := by decide +kernel
theorem dX13_digest_108 : decode cX13_digest 108 = .ok (.getfield 219, 3) := by decide +kernel
theorem dX13_digest_111 : decode cX13_digest 111 = .ok (.iload_n 3, 1) := by decide +kernel
theorem dX13_digest_112 : decode cX13_digest 112 = .ok (.iaload, 1) := by decide +kernel
theorem dX13_digest_113 : decode cX13_digest 113 = .ok (.i2l, 1) := by decide +kernel
theorem dX13_digest_114 : decode cX13_digest 114 = .ok (.ladd, 1) := by decide +kernel
theorem dX13_digest_115 : decode cX13_digest 115 = .ok (.lstore_n 1, 1) := by decide +kernel
theorem dX13_digest_116 : decode cX13_digest 116 = .ok (.iconst 0, 1) := by decide +kernel
theorem dX13_digest_117 : decode cX13_digest 117 = .ok (.istore 4, 2) := by decide +kernel
theorem dX13_digest_119 : decode cX13_digest 119 = .ok (.iload 4, 2) := by decide +kernel
theorem dX13_digest_121 : decode cX13_digest 121 = .ok (.aload_n 0, 1) := by decide +kernel
theorem dX13_digest_122 : decode cX13_digest 122 = .ok (.getfield 35, 3) := by decide +kernel
theorem dX13_digest_125 : decode cX13_digest 125 = .ok (.getfield 219, 3) := by decide +kernel
theorem dX13_digest_128 : decode cX13_digest 128 = .ok (.iload_n 3, 1) := by decide +kernel
theorem dX13_digest_129 : decode cX13_digest 129 = .ok (.iaload, 1) := by decide +kernel
theorem dX13_digest_130 : decode cX13_digest 130 = .ok (.if_icmp .ge 32, 3) := by decide +kernel
theorem dX13_digest_133 : decode cX13_digest 133 = .ok (.lload_n 1, 1) := by decide +kernel
theorem dX13_digest_134 : decode cX13_digest 134 = .ok (.ldc2_w 310, 3) := by decide +kernel
theorem dX13_digest_137 : decode cX13_digest 137 = .ok (.lmul, 1) := by decide +kernel
theorem dX13_digest_138 : decode cX13_digest 138 = .ok (.aload_n 0, 1) := by decide +kernel
theorem dX13_digest_139 : decode cX13_digest 139 = .ok (.getfield 35, 3) := by decide +kernel
theorem dX13_digest_142 : decode cX13_digest 142 = .ok (.getfield 222, 3) := by decide +kernel
theorem dX13_digest_145 : decode cX13_digest 145 = .ok (.bipush 12, 2) := by decide +kernel
theorem dX13_digest_147 : decode cX13_digest 147 = .ok (.iload_n 3, 1) := by decide +kernel
theorem dX13_digest_148 : decode cX13_digest 148 = .ok (.imul, 1) := by decide +kernel
theorem dX13_digest_149 : decode cX13_digest 149 = .ok (.iload 4, 2) := by decide +kernel
theorem dX13_digest_151 : decode cX13_digest 151 = .ok (.iadd, 1) := by decide +kernel
theorem dX13_digest_152 : decode cX13_digest 152 = .ok (.iaload, 1) := by decide +kernel
theorem dX13_digest_153 : decode cX13_digest 153 = .ok (.i2l, 1) := by decide +kernel
theorem dX13_digest_154 : decode cX13_digest 154 = .ok (.ladd, 1) := by decide +kernel
theorem dX13_digest_155 : decode cX13_digest 155 = .ok (.lstore_n 1, 1) := by decide +kernel
theorem dX13_digest_156 : decode cX13_digest 156 = .ok (.iinc 4 1, 3) := by decide +kernel
theorem dX13_digest_159 : decode cX13_digest 159 = .ok (.goto (-40), 3) := by decide +kernel
theorem dX13_digest_162 : decode cX13_digest 162 = .ok (.iinc 3 1, 3) := by decide +kernel
theorem dX13_digest_165 : decode cX13_digest 165 = .ok (.goto (-77), 3) := by decide +kernel
theorem dX13_digest_168 : decode cX13_digest 168 = .ok (.iconst 0, 1) := by decide +kernel
theorem dX13_digest_169 : decode cX13_digest 169 = .ok (.istore_n 3, 1) := by decide +kernel
theorem dX13_digest_170 : decode cX13_digest 170 = .ok (.iload_n 3, 1) := by decide +kernel
theorem dX13_digest_171 : decode cX13_digest 171 = .ok (.aload_n 0, 1) := by decide +kernel
theorem dX13_digest_172 : decode cX13_digest 172 = .ok (.getfield 35, 3) := by decide +kernel
theorem dX13_digest_175 : decode cX13_digest 175 = .ok (.getfield 155, 3) := by decide +kernel
theorem dX13_digest_178 : decode cX13_digest 178 = .ok (.if_icmp .ge 26, 3) := by decide +kernel
theorem dX13_digest_181 : decode cX13_digest 181 = .ok (.lload_n 1, 1) := by decide +kernel
theorem dX13_digest_182 : decode cX13_digest 182 = .ok (.ldc2_w 310, 3) := by decide +kernel
theorem dX13_digest_185 : decode cX13_digest 185 = .ok (.lmul, 1) := by decide +kernel
theorem dX13_digest_186 : decode cX13_digest 186 = .ok (.aload_n 0, 1) := by decide +kernel
theorem dX13_digest_187 : decode cX13_digest 187 = .ok (.getfield 47, 3) := by decide +kernel
theorem dX13_digest_190 : decode cX13_digest 190 = .ok (.getfield 247, 3) := by decide +kernel
theorem dX13_digest_193 : decode cX13_digest 193 = .ok (.iload_n 3, 1) := by decide +kernel
theorem dX13_digest_194 : decode cX13_digest 194 = .ok (.iaload, 1) := by decide +kernel
theorem dX13_digest_195 : decode cX13_digest 195 = .ok (.i2l, 1) := by decide +kernel
theorem dX13_digest_196 : decode cX13_digest 196 = .ok (.ladd, 1) := by decide +kernel
theorem dX13_digest_197 : decode cX13_digest 197 = .ok (.lstore_n 1, 1) := by decide +kernel
theorem dX13_digest_198 : decode cX13_digest 198 = .ok (.iinc 3 1, 3) := by decide +kernel
theorem dX13_digest_201 : decode cX13_digest 201 = .ok (.goto (-31), 3) := by decide +kernel
theorem dX13_digest_204 : decode cX13_digest 204 = .ok (.iconst 0, 1) := by decide +kernel
theorem dX13_digest_205 : decode cX13_digest 205 = .ok (.istore_n 3, 1) := by decide +kernel
theorem dX13_digest_206 : decode cX13_digest 206 = .ok (.iload_n 3, 1) := by decide +kernel
theorem dX13_digest_207 : decode cX13_digest 207 = .ok (.aload_n 0, 1) := by decide +kernel
theorem dX13_digest_208 : decode cX13_digest 208 = .ok (.getfield 47, 3) := by decide +kernel
theorem dX13_digest_211 : decode cX13_digest 211 = .ok (.getfield 256, 3) := by decide +kernel
theorem dX13_digest_214 : decode cX13_digest 214 = .ok (.if_icmp .ge 26, 3) := by decide +kernel
theorem dX13_digest_217 : decode cX13_digest 217 = .ok (.lload_n 1, 1) := by decide +kernel
theorem dX13_digest_218 : decode cX13_digest 218 = .ok (.ldc2_w 310, 3) := by decide +kernel
theorem dX13_digest_221 : decode cX13_digest 221 = .ok (.lmul, 1) := by decide +kernel
theorem dX13_digest_222 : decode cX13_digest 222 = .ok (.aload_n 0, 1) := by decide +kernel
theorem dX13_digest_223 : decode cX13_digest 223 = .ok (.getfield 47, 3) := by decide +kernel
theorem dX13_digest_226 : decode cX13_digest 226 = .ok (.getfield 286, 3) := by decide +kernel
theorem dX13_digest_229 : decode cX13_digest 229 = .ok (.iload_n 3, 1) := by decide +kernel
theorem dX13_digest_230 : decode cX13_digest 230 = .ok (.iaload, 1) := by decide +kernel
theorem dX13_digest_231 : decode cX13_digest 231 = .ok (.i2l, 1) := by decide +kernel
theorem dX13_digest_232 : decode cX13_digest 232 = .ok (.ladd, 1) := by decide +kernel
theorem dX13_digest_233 : decode cX13_digest 233 = .ok (.lstore_n 1, 1) := by decide +kernel
theorem dX13_digest_234 : decode cX13_digest 234 = .ok (.iinc 3 1, 3) := by decide +kernel
theorem dX13_digest_237 : decode cX13_digest 237 = .ok (.goto (-31), 3) := by decide +kernel
theorem dX13_digest_240 : decode cX13_digest 240 = .ok (.lload_n 1, 1) := by decide +kernel
theorem dX13_digest_241 : decode cX13_digest 241 = .ok (.lreturn, 1) := by decide +kernel
theorem dL_feed_0 : decode cL_feed 0 = .ok (.aload 6, 2) := by decide +kernel
theorem dL_feed_2 : decode cL_feed 2 = .ok (.iconst 0, 1) := by decide +kernel
theorem dL_feed_3 : decode cL_feed 3 = .ok (.aload_n 0, 1) := by decide +kernel
theorem dL_feed_4 : decode cL_feed 4 = .ok (.iload_n 1, 1) := by decide +kernel
theorem dL_feed_5 : decode cL_feed 5 = .ok (.iload_n 2, 1) := by decide +kernel
theorem dL_feed_6 : decode cL_feed 6 = .ok (.iload_n 3, 1) := by decide +kernel
theorem dL_feed_7 : decode cL_feed 7 = .ok (.iload 4, 2) := by decide +kernel
theorem dL_feed_9 : decode cL_feed 9 = .ok (.iload 5, 2) := by decide +kernel
theorem dL_feed_11 : decode cL_feed 11 = .ok (.invokevirtual 7, 3) := by decide +kernel
theorem dL_feed_14 : decode cL_feed 14 = .ok (.i2l, 1) := by decide +kernel
theorem dL_feed_15 : decode cL_feed 15 = .ok (.lastore, 1) := by decide +kernel
theorem dL_feed_16 : decode cL_feed 16 = .ok (.goto 7, 3) := by decide +kernel
theorem dL_feed_19 : decode cL_feed 19 = .ok (.astore 7, 2) := by decide +kernel
theorem dL_feed_21 : decode cL_feed 21 = .ok (.iconst 1, 1) := by decide +kernel
theorem dL_feed_22 : decode cL_feed 22 = .ok (.ireturn, 1) := by decide +kernel
theorem dL_feed_23 : decode cL_feed 23 = .ok (.iconst 0, 1) := by decide +kernel
theorem dL_feed_24 : decode cL_feed 24 = .ok (.ireturn, 1) := by decide +kernel
theorem dL_trim_0 : decode cL_trim 0 = .ok (.aload_n 2, 1) := by decide +kernel
theorem dL_trim_1 : decode cL_trim 1 = .ok (.iconst 0, 1) := by decide +kernel
theorem dL_trim_2 : decode cL_trim 2 = .ok (.aload_n 0, 1) := by decide +kernel
theorem dL_trim_3 : decode cL_trim 3 = .ok (.iload_n 1, 1) := by decide +kernel
theorem dL_trim_4 : decode cL_trim 4 = .ok (.invokevirtual 15, 3) := by decide +kernel
theorem dL_trim_7 : decode cL_trim 7 = .ok (.i2l, 1) := by decide +kernel
theorem dL_trim_8 : decode cL_trim 8 = .ok (.lastore, 1) := by decide +kernel
theorem dL_trim_9 : decode cL_trim 9 = .ok (.goto 6, 3) := by decide +kernel
theorem dL_trim_12 : decode cL_trim 12 = .ok (.astore_n 3, 1) := by decide +kernel
theorem dL_trim_13 : decode cL_trim 13 = .ok (.iconst 1, 1) := by decide +kernel
theorem dL_trim_14 : decode cL_trim 14 = .ok (.ireturn, 1) := by decide +kernel
theorem dL_trim_15 : decode cL_trim 15 = .ok (.iconst 0, 1) := by decide +kernel
theorem dL_trim_16 : decode cL_trim 16 = .ok (.ireturn, 1) := by decide +kernel
theorem dL_count_0 : decode cL_count 0 = .ok (.aload_n 2, 1) := by decide +kernel
theorem dL_count_1 : decode cL_count 1 = .ok (.iconst 0, 1) := by decide +kernel
theorem dL_count_2 : decode cL_count 2 = .ok (.aload_n 0, 1) := by decide +kernel
theorem dL_count_3 : decode cL_count 3 = .ok (.iload_n 1, 1) := by decide +kernel
theorem dL_count_4 : decode cL_count 4 = .ok (.invokevirtual 21, 3) := by decide +kernel
theorem dL_count_7 : decode cL_count 7 = .ok (.i2l, 1) := by decide +kernel
theorem dL_count_8 : decode cL_count 8 = .ok (.lastore, 1) := by decide +kernel
theorem dL_count_9 : decode cL_count 9 = .ok (.goto 6, 3) := by decide +kernel
theorem dL_count_12 : decode cL_count 12 = .ok (.astore_n 3, 1) := by decide +kernel
theorem dL_count_13 : decode cL_count 13 = .ok (.iconst 1, 1) := by decide +kernel
theorem dL_count_14 : decode cL_count 14 = .ok (.ireturn, 1) := by decide +kernel
theorem dL_count_15 : decode cL_count 15 = .ok (.iconst 0, 1) := by decide +kernel
theorem dL_count_16 : decode cL_count 16 = .ok (.ireturn, 1) := by decide +kernel
theorem dL_planet_0 : decode cL_planet 0 = .ok (.aload_n 3, 1) := by decide +kernel
theorem dL_planet_1 : decode cL_planet 1 = .ok (.iconst 0, 1) := by decide +kernel
theorem dL_planet_2 : decode cL_planet 2 = .ok (.aload_n 0, 1) := by decide +kernel
theorem dL_planet_3 : decode cL_planet 3 = .ok (.iload_n 1, 1) := by decide +kernel
theorem dL_planet_4 : decode cL_planet 4 = .ok (.iload_n 2, 1) := by decide +kernel
theorem dL_planet_5 : decode cL_planet 5 = .ok (.invokevirtual 26, 3) := by decide +kernel
theorem dL_planet_8 : decode cL_planet 8 = .ok (.i2l, 1) := by decide +kernel
theorem dL_planet_9 : decode cL_planet 9 = .ok (.lastore, 1) := by decide +kernel
theorem dL_planet_10 : decode cL_planet 10 = .ok (.goto 7, 3) := by decide +kernel
theorem dL_planet_13 : decode cL_planet 13 = .ok (.astore 4, 2) := by decide +kernel
theorem dL_planet_15 : decode cL_planet 15 = .ok (.iconst 1, 1) := by decide +kernel
theorem dL_planet_16 : decode cL_planet 16 = .ok (.ireturn, 1) := by decide +kernel
theorem dL_planet_17 : decode cL_planet 17 = .ok (.iconst 0, 1) := by decide +kernel
theorem dL_planet_18 : decode cL_planet 18 = .ok (.ireturn, 1) := by decide +kernel
theorem dL_set_0 : decode cL_set 0 = .ok (.aload_n 3, 1) := by decide +kernel
theorem dL_set_1 : decode cL_set 1 = .ok (.iconst 0, 1) := by decide +kernel
theorem dL_set_2 : decode cL_set 2 = .ok (.aload_n 0, 1) := by decide +kernel
theorem dL_set_3 : decode cL_set 3 = .ok (.iload_n 1, 1) := by decide +kernel
theorem dL_set_4 : decode cL_set 4 = .ok (.iload_n 2, 1) := by decide +kernel
theorem dL_set_5 : decode cL_set 5 = .ok (.invokevirtual 30, 3) := by decide +kernel
theorem dL_set_8 : decode cL_set 8 = .ok (.i2l, 1) := by decide +kernel
theorem dL_set_9 : decode cL_set 9 = .ok (.lastore, 1) := by decide +kernel
theorem dL_set_10 : decode cL_set 10 = .ok (.goto 11, 3) := by decide +kernel
theorem dL_set_13 : decode cL_set 13 = .ok (.astore 4, 2) := by decide +kernel
theorem dL_set_15 : decode cL_set 15 = .ok (.iconst 1, 1) := by decide +kernel
theorem dL_set_16 : decode cL_set 16 = .ok (.ireturn, 1) := by decide +kernel
theorem dL_set_17 : decode cL_set 17 = .ok (.astore 4, 2) := by decide +kernel
theorem dL_set_19 : decode cL_set 19 = .ok (.iconst 2, 1) := by decide +kernel
theorem dL_set_20 : decode cL_set 20 = .ok (.ireturn, 1) := by decide +kernel
theorem dL_set_21 : decode cL_set 21 = .ok (.iconst 0, 1) := by decide +kernel
theorem dL_set_22 : decode cL_set 22 = .ok (.ireturn, 1) := by decide +kernel
theorem dL_gap_0 : decode cL_gap 0 = .ok (.aload_n 3, 1) := by decide +kernel
theorem dL_gap_1 : decode cL_gap 1 = .ok (.iconst 0, 1) := by decide +kernel
theorem dL_gap_2 : decode cL_gap 2 = .ok (.aload_n 0, 1) := by decide +kernel
theorem dL_gap_3 : decode cL_gap 3 = .ok (.iload_n 1, 1) := by decide +kernel
theorem dL_gap_4 : decode cL_gap 4 = .ok (.iload_n 2, 1) := by decide +kernel
theorem dL_gap_5 : decode cL_gap 5 = .ok (.invokevirtual 33, 3) := by decide +kernel
theorem dL_gap_8 : decode cL_gap 8 = .ok (.i2l, 1) := by decide +kernel
theorem dL_gap_9 : decode cL_gap 9 = .ok (.lastore, 1) := by decide +kernel
theorem dL_gap_10 : decode cL_gap 10 = .ok (.goto 7, 3) := by decide +kernel
theorem dL_gap_13 : decode cL_gap 13 = .ok (.astore 4, 2) := by decide +kernel
theorem dL_gap_15 : decode cL_gap 15 = .ok (.iconst 1, 1) := by decide +kernel
theorem dL_gap_16 : decode cL_gap 16 = .ok (.ireturn, 1) := by decide +kernel
theorem dL_gap_17 : decode cL_gap 17 = .ok (.iconst 0, 1) := by decide +kernel
theorem dL_gap_18 : decode cL_gap 18 = .ok (.ireturn, 1) := by decide +kernel
theorem dL_meets_0 : decode cL_meets 0 = .ok (.aload 4, 2) := by decide +kernel
theorem dL_meets_2 : decode cL_meets 2 = .ok (.iconst 0, 1) := by decide +kernel
theorem dL_meets_3 : decode cL_meets 3 = .ok (.aload_n 0, 1) := by decide +kernel
theorem dL_meets_4 : decode cL_meets 4 = .ok (.iload_n 1, 1) := by decide +kernel
theorem dL_meets_5 : decode cL_meets 5 = .ok (.iload_n 2, 1) := by decide +kernel
theorem dL_meets_6 : decode cL_meets 6 = .ok (.iload_n 3, 1) := by decide +kernel
theorem dL_meets_7 : decode cL_meets 7 = .ok (.invokevirtual 36, 3) := by decide +kernel
theorem dL_meets_10 : decode cL_meets 10 = .ok (.ifCond .eq 7, 3) := by decide +kernel
theorem dL_meets_13 : decode cL_meets 13 = .ok (.lconst 1, 1) := by decide +kernel
theorem dL_meets_14 : decode cL_meets 14 = .ok (.goto 4, 3) := by decide +kernel
theorem dL_meets_17 : decode cL_meets 17 = .ok (.lconst 0, 1) := by decide +kernel
theorem dL_meets_18 : decode cL_meets 18 = .ok (.lastore, 1) := by decide +kernel
theorem dL_meets_19 : decode cL_meets 19 = .ok (.goto 7, 3) := by decide +kernel
theorem dL_meets_22 : decode cL_meets 22 = .ok (.astore 5, 2) := by decide +kernel
theorem dL_meets_24 : decode cL_meets 24 = .ok (.iconst 1, 1) := by decide +kernel
theorem dL_meets_25 : decode cL_meets 25 = .ok (.ireturn, 1) := by decide +kernel
theorem dL_meets_26 : decode cL_meets 26 = .ok (.iconst 0, 1) := by decide +kernel
theorem dL_meets_27 : decode cL_meets 27 = .ok (.ireturn, 1) := by decide +kernel
theorem dL_letter_0 : decode cL_letter 0 = .ok (.aload_n 3, 1) := by decide +kernel
theorem dL_letter_1 : decode cL_letter 1 = .ok (.iconst 0, 1) := by decide +kernel
theorem dL_letter_2 : decode cL_letter 2 = .ok (.aload_n 0, 1) := by decide +kernel
theorem dL_letter_3 : decode cL_letter 3 = .ok (.iload_n 1, 1) := by decide +kernel
theorem dL_letter_4 : decode cL_letter 4 = .ok (.iload_n 2, 1) := by decide +kernel
theorem dL_letter_5 : decode cL_letter 5 = .ok (.invokevirtual 40, 3) := by decide +kernel
theorem dL_letter_8 : decode cL_letter 8 = .ok (.i2l, 1) := by decide +kernel
theorem dL_letter_9 : decode cL_letter 9 = .ok (.lastore, 1) := by decide +kernel
theorem dL_letter_10 : decode cL_letter 10 = .ok (.goto 7, 3) := by decide +kernel
theorem dL_letter_13 : decode cL_letter 13 = .ok (.astore 4, 2) := by decide +kernel
theorem dL_letter_15 : decode cL_letter 15 = .ok (.iconst 1, 1) := by decide +kernel
theorem dL_letter_16 : decode cL_letter 16 = .ok (.ireturn, 1) := by decide +kernel
theorem dL_letter_17 : decode cL_letter 17 = .ok (.iconst 0, 1) := by decide +kernel
theorem dL_letter_18 : decode cL_letter 18 = .ok (.ireturn, 1) := by decide +kernel
theorem dL_wrote_0 : decode cL_wrote 0 = .ok (.aload_n 2, 1) := by decide +kernel
theorem dL_wrote_1 : decode cL_wrote 1 = .ok (.iconst 0, 1) := by decide +kernel
theorem dL_wrote_2 : decode cL_wrote 2 = .ok (.aload_n 0, 1) := by decide +kernel
theorem dL_wrote_3 : decode cL_wrote 3 = .ok (.iload_n 1, 1) := by decide +kernel
theorem dL_wrote_4 : decode cL_wrote 4 = .ok (.invokevirtual 43, 3) := by decide +kernel
theorem dL_wrote_7 : decode cL_wrote 7 = .ok (.i2l, 1) := by decide +kernel
theorem dL_wrote_8 : decode cL_wrote 8 = .ok (.lastore, 1) := by decide +kernel
theorem dL_wrote_9 : decode cL_wrote 9 = .ok (.goto 6, 3) := by decide +kernel
theorem dL_wrote_12 : decode cL_wrote 12 = .ok (.astore_n 3, 1) := by decide +kernel
theorem dL_wrote_13 : decode cL_wrote 13 = .ok (.iconst 1, 1) := by decide +kernel
theorem dL_wrote_14 : decode cL_wrote 14 = .ok (.ireturn, 1) := by decide +kernel
theorem dL_wrote_15 : decode cL_wrote 15 = .ok (.iconst 0, 1) := by decide +kernel
theorem dL_wrote_16 : decode cL_wrote 16 = .ok (.ireturn, 1) := by decide +kernel
theorem dL_pass_0 : decode cL_pass 0 = .ok (.aload_n 2, 1) := by decide +kernel
theorem dL_pass_1 : decode cL_pass 1 = .ok (.iconst 0, 1) := by decide +kernel
theorem dL_pass_2 : decode cL_pass 2 = .ok (.aload_n 0, 1) := by decide +kernel
theorem dL_pass_3 : decode cL_pass 3 = .ok (.iload_n 1, 1) := by decide +kernel
theorem dL_pass_4 : decode cL_pass 4 = .ok (.invokevirtual 46, 3) := by decide +kernel
theorem dL_pass_7 : decode cL_pass 7 = .ok (.i2l, 1) := by decide +kernel
theorem dL_pass_8 : decode cL_pass 8 = .ok (.lastore, 1) := by decide +kernel
theorem dL_pass_9 : decode cL_pass 9 = .ok (.goto 6, 3) := by decide +kernel
theorem dL_pass_12 : decode cL_pass 12 = .ok (.astore_n 3, 1) := by decide +kernel
theorem dL_pass_13 : decode cL_pass 13 = .ok (.iconst 1, 1) := by decide +kernel
theorem dL_pass_14 : decode cL_pass 14 = .ok (.ireturn, 1) := by decide +kernel
theorem dL_pass_15 : decode cL_pass 15 = .ok (.iconst 0, 1) := by decide +kernel
theorem dL_pass_16 : decode cL_pass 16 = .ok (.ireturn, 1) := by decide +kernel
theorem dL_byteAt_0 : decode cL_byteAt 0 = .ok (.aload_n 2, 1) := by decide +kernel
theorem dL_byteAt_1 : decode cL_byteAt 1 = .ok (.iconst 0, 1) := by decide +kernel
theorem dL_byteAt_2 : decode cL_byteAt 2 = .ok (.aload_n 0, 1) := by decide +kernel
theorem dL_byteAt_3 : decode cL_byteAt 3 = .ok (.iload_n 1, 1) := by decide +kernel
theorem dL_byteAt_4 : decode cL_byteAt 4 = .ok (.invokevirtual 49, 3) := by decide +kernel
theorem dL_byteAt_7 : decode cL_byteAt 7 = .ok (.i2l, 1) := by decide +kernel
theorem dL_byteAt_8 : decode cL_byteAt 8 = .ok (.lastore, 1) := by decide +kernel
theorem dL_byteAt_9 : decode cL_byteAt 9 = .ok (.goto 6, 3) := by decide +kernel
theorem dL_byteAt_12 : decode cL_byteAt 12 = .ok (.astore_n 3, 1) := by decide +kernel
theorem dL_byteAt_13 : decode cL_byteAt 13 = .ok (.iconst 1, 1) := by decide +kernel
theorem dL_byteAt_14 : decode cL_byteAt 14 = .ok (.ireturn, 1) := by decide +kernel
theorem dL_byteAt_15 : decode cL_byteAt 15 = .ok (.iconst 0, 1) := by decide +kernel
theorem dL_byteAt_16 : decode cL_byteAt 16 = .ok (.ireturn, 1) := by decide +kernel
theorem dL_translate_0 : decode cL_translate 0 = .ok (.aload_n 3, 1) := by decide +kernel
theorem dL_translate_1 : decode cL_translate 1 = .ok (.iconst 0, 1) := by decide +kernel
theorem dL_translate_2 : decode cL_translate 2 = .ok (.aload_n 0, 1) := by decide +kernel
theorem dL_translate_3 : decode cL_translate 3 = .ok (.iload_n 1, 1) := by decide +kernel
theorem dL_translate_4 : decode cL_translate 4 = .ok (.iload_n 2, 1) := by decide +kernel
theorem dL_translate_5 : decode cL_translate 5 = .ok (.invokevirtual 52, 3) := by decide +kernel
theorem dL_translate_8 : decode cL_translate 8 = .ok (.i2l, 1) := by decide +kernel
theorem dL_translate_9 : decode cL_translate 9 = .ok (.lastore, 1) := by decide +kernel
theorem dL_translate_10 : decode cL_translate 10 = .ok (.goto 7, 3) := by decide +kernel
theorem dL_translate_13 : decode cL_translate 13 = .ok (.astore 4, 2) := by decide +kernel
theorem dL_translate_15 : decode cL_translate 15 = .ok (.iconst 1, 1) := by decide +kernel
theorem dL_translate_16 : decode cL_translate 16 = .ok (.ireturn, 1) := by decide +kernel
theorem dL_translate_17 : decode cL_translate 17 = .ok (.iconst 0, 1) := by decide +kernel
theorem dL_translate_18 : decode cL_translate 18 = .ok (.ireturn, 1) := by decide +kernel
theorem dL_foresee_0 : decode cL_foresee 0 = .ok (.aload_n 3, 1) := by decide +kernel
theorem dL_foresee_1 : decode cL_foresee 1 = .ok (.iconst 0, 1) := by decide +kernel
theorem dL_foresee_2 : decode cL_foresee 2 = .ok (.aload_n 0, 1) := by decide +kernel
theorem dL_foresee_3 : decode cL_foresee 3 = .ok (.iload_n 1, 1) := by decide +kernel
theorem dL_foresee_4 : decode cL_foresee 4 = .ok (.iload_n 2, 1) := by decide +kernel
theorem dL_foresee_5 : decode cL_foresee 5 = .ok (.invokevirtual 55, 3) := by decide +kernel
theorem dL_foresee_8 : decode cL_foresee 8 = .ok (.i2l, 1) := by decide +kernel
theorem dL_foresee_9 : decode cL_foresee 9 = .ok (.lastore, 1) := by decide +kernel
theorem dL_foresee_10 : decode cL_foresee 10 = .ok (.goto 11, 3) := by decide +kernel
theorem dL_foresee_13 : decode cL_foresee 13 = .ok (.astore 4, 2) := by decide +kernel
theorem dL_foresee_15 : decode cL_foresee 15 = .ok (.iconst 1, 1) := by decide +kernel
theorem dL_foresee_16 : decode cL_foresee 16 = .ok (.ireturn, 1) := by decide +kernel
theorem dL_foresee_17 : decode cL_foresee 17 = .ok (.astore 4, 2) := by decide +kernel
theorem dL_foresee_19 : decode cL_foresee 19 = .ok (.iconst 2, 1) := by decide +kernel
theorem dL_foresee_20 : decode cL_foresee 20 = .ok (.ireturn, 1) := by decide +kernel
theorem dL_foresee_21 : decode cL_foresee 21 = .ok (.iconst 0, 1) := by decide +kernel
theorem dL_foresee_22 : decode cL_foresee 22 = .ok (.ireturn, 1) := by decide +kernel
theorem dL_next_0 : decode cL_next 0 = .ok (.aload 4, 2) := by decide +kernel
theorem dL_next_2 : decode cL_next 2 = .ok (.iconst 0, 1) := by decide +kernel
theorem dL_next_3 : decode cL_next 3 = .ok (.aload_n 0, 1) := by decide +kernel
theorem dL_next_4 : decode cL_next 4 = .ok (.iload_n 1, 1) := by decide +kernel
theorem dL_next_5 : decode cL_next 5 = .ok (.iload_n 2, 1) := by decide +kernel
theorem dL_next_6 : decode cL_next 6 = .ok (.iload_n 3, 1) := by decide +kernel
theorem dL_next_7 : decode cL_next 7 = .ok (.invokevirtual 58, 3) := by decide +kernel
theorem dL_next_10 : decode cL_next 10 = .ok (.i2l, 1) := by decide +kernel
theorem dL_next_11 : decode cL_next 11 = .ok (.lastore, 1) := by decide +kernel
theorem dL_next_12 : decode cL_next 12 = .ok (.goto 7, 3) := by decide +kernel
theorem dL_next_15 : decode cL_next 15 = .ok (.astore 5, 2) := by decide +kernel
theorem dL_next_17 : decode cL_next 17 = .ok (.iconst 1, 1) := by decide +kernel
theorem dL_next_18 : decode cL_next 18 = .ok (.ireturn, 1) := by decide +kernel
theorem dL_next_19 : decode cL_next 19 = .ok (.iconst 0, 1) := by decide +kernel
theorem dL_next_20 : decode cL_next 20 = .ok (.ireturn, 1) := by decide +kernel
theorem dL_again_0 : decode cL_again 0 = .ok (.aload_n 2, 1) := by decide +kernel
theorem dL_again_1 : decode cL_again 1 = .ok (.iconst 0, 1) := by decide +kernel
theorem dL_again_2 : decode cL_again 2 = .ok (.aload_n 0, 1) := by decide +kernel
theorem dL_again_3 : decode cL_again 3 = .ok (.iload_n 1, 1) := by decide +kernel
theorem dL_again_4 : decode cL_again 4 = .ok (.invokevirtual 62, 3) := by decide +kernel
theorem dL_again_7 : decode cL_again 7 = .ok (.i2l, 1) := by decide +kernel
theorem dL_again_8 : decode cL_again 8 = .ok (.lastore, 1) := by decide +kernel
theorem dL_again_9 : decode cL_again 9 = .ok (.goto 6, 3) := by decide +kernel
theorem dL_again_12 : decode cL_again 12 = .ok (.astore_n 3, 1) := by decide +kernel
theorem dL_again_13 : decode cL_again 13 = .ok (.iconst 1, 1) := by decide +kernel
theorem dL_again_14 : decode cL_again 14 = .ok (.ireturn, 1) := by decide +kernel
theorem dL_again_15 : decode cL_again 15 = .ok (.iconst 0, 1) := by decide +kernel
theorem dL_again_16 : decode cL_again 16 = .ok (.ireturn, 1) := by decide +kernel
theorem dL_advise_0 : decode cL_advise 0 = .ok (.aload_n 3, 1) := by decide +kernel
theorem dL_advise_1 : decode cL_advise 1 = .ok (.iconst 0, 1) := by decide +kernel
theorem dL_advise_2 : decode cL_advise 2 = .ok (.aload_n 0, 1) := by decide +kernel
theorem dL_advise_3 : decode cL_advise 3 = .ok (.iload_n 1, 1) := by decide +kernel
theorem dL_advise_4 : decode cL_advise 4 = .ok (.iload_n 2, 1) := by decide +kernel
theorem dL_advise_5 : decode cL_advise 5 = .ok (.invokevirtual 65, 3) := by decide +kernel
theorem dL_advise_8 : decode cL_advise 8 = .ok (.i2l, 1) := by decide +kernel
theorem dL_advise_9 : decode cL_advise 9 = .ok (.lastore, 1) := by decide +kernel
theorem dL_advise_10 : decode cL_advise 10 = .ok (.goto 11, 3) := by decide +kernel
theorem dL_advise_13 : decode cL_advise 13 = .ok (.astore 4, 2) := by decide +kernel
theorem dL_advise_15 : decode cL_advise 15 = .ok (.iconst 1, 1) := by decide +kernel
theorem dL_advise_16 : decode cL_advise 16 = .ok (.ireturn, 1) := by decide +kernel
theorem dL_advise_17 : decode cL_advise 17 = .ok (.astore 4, 2) := by decide +kernel
theorem dL_advise_19 : decode cL_advise 19 = .ok (.iconst 2, 1) := by decide +kernel
theorem dL_advise_20 : decode cL_advise 20 = .ok (.ireturn, 1) := by decide +kernel
theorem dL_advise_21 : decode cL_advise 21 = .ok (.iconst 0, 1) := by decide +kernel
theorem dL_advise_22 : decode cL_advise 22 = .ok (.ireturn, 1) := by decide +kernel
theorem dL_law_0 : decode cL_law 0 = .ok (.new 8, 3) := by decide +kernel
theorem dL_law_3 : decode cL_law 3 = .ok (.dup, 1) := by decide +kernel
theorem dL_law_4 : decode cL_law 4 = .ok (.invokespecial 68, 3) := by decide +kernel
theorem dL_law_7 : decode cL_law 7 = .ok (.astore_n 1, 1) := by decide +kernel
theorem dL_law_8 : decode cL_law 8 = .ok (.new 69, 3) := by decide +kernel
theorem dL_law_11 : decode cL_law 11 = .ok (.dup, 1) := by decide +kernel
theorem dL_law_12 : decode cL_law 12 = .ok (.invokespecial 71, 3) := by decide +kernel
theorem dL_law_15 : decode cL_law 15 = .ok (.astore_n 2, 1) := by decide +kernel
theorem dL_law_16 : decode cL_law 16 = .ok (.iconst 1, 1) := by decide +kernel
theorem dL_law_17 : decode cL_law 17 = .ok (.newarray .long, 2) := by decide +kernel
theorem dL_law_19 : decode cL_law 19 = .ok (.astore_n 3, 1) := by decide +kernel
theorem dL_law_20 : decode cL_law 20 = .ok (.iconst 0, 1) := by decide +kernel
theorem dL_law_21 : decode cL_law 21 = .ok (.istore 4, 2) := by decide +kernel
theorem dL_law_23 : decode cL_law 23 = .ok (.iload 4, 2) := by decide +kernel
theorem dL_law_25 : decode cL_law 25 = .ok (.aload_n 0, 1) := by decide +kernel
theorem dL_law_26 : decode cL_law 26 = .ok (.arraylength, 1) := by decide +kernel
theorem dL_law_27 : decode cL_law 27 = .ok (.bipush 6, 2) := by decide +kernel
theorem dL_law_29 : decode cL_law 29 = .ok (.isub, 1) := by decide +kernel
theorem dL_law_30 : decode cL_law 30 = .ok (.if_icmp .gt 1359, 3) := by decide +kernel
theorem dL_law_33 : decode cL_law 33 = .ok (.aload_n 0, 1) := by decide +kernel
theorem dL_law_34 : decode cL_law 34 = .ok (.iload 4, 2) := by decide +kernel
theorem dL_law_36 : decode cL_law 36 = .ok (.iaload, 1) := by decide +kernel
theorem dL_law_37 : decode cL_law 37 = .ok (.bipush 31, 2) := by decide +kernel
theorem dL_law_39 : decode cL_law 39 = .ok (.iand, 1) := by decide +kernel
theorem dL_law_40 : decode cL_law 40 = .ok (.tableswitch 1343 0 22 #[108, 212, 268, 281, 294, 350, 418, 486, 554, 657, 725, 781, 837, 893, 906, 919, 987, 1055, 1151, 1164, 1220, 1288, 1329], 108) := by decide +kernel
theorem dL_law_148 : decode cL_law 148 = .ok (.aload_n 1, 1) := by decide +kernel
theorem dL_law_149 : decode cL_law 149 = .ok (.aload_n 0, 1) := by decide +kernel
theorem dL_law_150 : decode cL_law 150 = .ok (.iload 4, 2) := by decide +kernel
theorem dL_law_152 : decode cL_law 152 = .ok (.iconst 1, 1) := by decide +kernel
theorem dL_law_153 : decode cL_law 153 = .ok (.iadd, 1) := by decide +kernel
theorem dL_law_154 : decode cL_law 154 = .ok (.iaload, 1) := by decide +kernel
theorem dL_law_155 : decode cL_law 155 = .ok (.aload_n 0, 1) := by decide +kernel
theorem dL_law_156 : decode cL_law 156 = .ok (.iload 4, 2) := by decide +kernel
theorem dL_law_158 : decode cL_law 158 = .ok (.iconst 2, 1) := by decide +kernel
theorem dL_law_159 : decode cL_law 159 = .ok (.iadd, 1) := by decide +kernel
theorem dL_law_160 : decode cL_law 160 = .ok (.iaload, 1) := by decide +kernel
theorem dL_law_161 : decode cL_law 161 = .ok (.aload_n 0, 1) := by decide +kernel
theorem dL_law_162 : decode cL_law 162 = .ok (.iload 4, 2) := by decide +kernel
theorem dL_law_164 : decode cL_law 164 = .ok (.iconst 3, 1) := by decide +kernel
theorem dL_law_165 : decode cL_law 165 = .ok (.iadd, 1) := by decide +kernel
theorem dL_law_166 : decode cL_law 166 = .ok (.iaload, 1) := by decide +kernel
theorem dL_law_167 : decode cL_law 167 = .ok (.aload_n 0, 1) := by decide +kernel
theorem dL_law_168 : decode cL_law 168 = .ok (.iload 4, 2) := by decide +kernel
theorem dL_law_170 : decode cL_law 170 = .ok (.iconst 4, 1) := by decide +kernel
theorem dL_law_171 : decode cL_law 171 = .ok (.iadd, 1) := by decide +kernel
theorem dL_law_172 : decode cL_law 172 = .ok (.iaload, 1) := by decide +kernel
theorem dL_law_173 : decode cL_law 173 = .ok (.aload_n 0, 1) := by decide +kernel
theorem dL_law_174 : decode cL_law 174 = .ok (.iload 4, 2) := by decide +kernel
theorem dL_law_176 : decode cL_law 176 = .ok (.iconst 5, 1) := by decide +kernel
theorem dL_law_177 : decode cL_law 177 = .ok (.iadd, 1) := by decide +kernel
theorem dL_law_178 : decode cL_law 178 = .ok (.iaload, 1) := by decide +kernel
theorem dL_law_179 : decode cL_law 179 = .ok (.aload_n 3, 1) := by decide +kernel
theorem dL_law_180 : decode cL_law 180 = .ok (.invokestatic 72, 3) := by decide +kernel
theorem dL_law_183 : decode cL_law 183 = .ok (.istore 5, 2) := by decide +kernel
theorem dL_law_185 : decode cL_law 185 = .ok (.aload_n 2, 1) := by decide +kernel
theorem dL_law_186 : decode cL_law 186 = .ok (.aload_n 0, 1) := by decide +kernel
theorem dL_law_187 : decode cL_law 187 = .ok (.iload 4, 2) := by decide +kernel
theorem dL_law_189 : decode cL_law 189 = .ok (.iconst 1, 1) := by decide +kernel
theorem dL_law_190 : decode cL_law 190 = .ok (.iadd, 1) := by decide +kernel
theorem dL_law_191 : decode cL_law 191 = .ok (.iaload, 1) := by decide +kernel
theorem dL_law_192 : decode cL_law 192 = .ok (.aload_n 0, 1) := by decide +kernel
theorem dL_law_193 : decode cL_law 193 = .ok (.iload 4, 2) := by decide +kernel
theorem dL_law_195 : decode cL_law 195 = .ok (.iconst 2, 1) := by decide +kernel
theorem dL_law_196 : decode cL_law 196 = .ok (.iadd, 1) := by decide +kernel
theorem dL_law_197 : decode cL_law 197 = .ok (.iaload, 1) := by decide +kernel
theorem dL_law_198 : decode cL_law 198 = .ok (.aload_n 0, 1) := by decide +kernel
theorem dL_law_199 : decode cL_law 199 = .ok (.iload 4, 2) := by decide +kernel
theorem dL_law_201 : decode cL_law 201 = .ok (.iconst 3, 1) := by decide +kernel
theorem dL_law_202 : decode cL_law 202 = .ok (.iadd, 1) := by decide +kernel
theorem dL_law_203 : decode cL_law 203 = .ok (.iaload, 1) := by decide +kernel
theorem dL_law_204 : decode cL_law 204 = .ok (.aload_n 0, 1) := by decide +kernel
theorem dL_law_205 : decode cL_law 205 = .ok (.iload 4, 2) := by decide +kernel
theorem dL_law_207 : decode cL_law 207 = .ok (.iconst 4, 1) := by decide +kernel
theorem dL_law_208 : decode cL_law 208 = .ok (.iadd, 1) := by decide +kernel
theorem dL_law_209 : decode cL_law 209 = .ok (.iaload, 1) := by decide +kernel
theorem dL_law_210 : decode cL_law 210 = .ok (.aload_n 0, 1) := by decide +kernel
theorem dL_law_211 : decode cL_law 211 = .ok (.iload 4, 2) := by decide +kernel
theorem dL_law_213 : decode cL_law 213 = .ok (.iconst 5, 1) := by decide +kernel
theorem dL_law_214 : decode cL_law 214 = .ok (.iadd, 1) := by decide +kernel
theorem dL_law_215 : decode cL_law 215 = .ok (.iaload, 1) := by decide +kernel
theorem dL_law_216 : decode cL_law 216 = .ok (.invokevirtual 77, 3) := by decide +kernel
theorem dL_law_219 : decode cL_law 219 = .ok (.istore 6, 2) := by decide +kernel
theorem dL_law_221 : decode cL_law 221 = .ok (.aload_n 2, 1) := by decide +kernel
theorem dL_law_222 : decode cL_law 222 = .ok (.invokevirtual 78, 3) := by decide +kernel
theorem dL_law_225 : decode cL_law 225 = .ok (.iload 5, 2) := by decide +kernel
theorem dL_law_227 : decode cL_law 227 = .ok (.if_icmp .eq 5, 3) := by decide +kernel
theorem dL_law_230 : decode cL_law 230 = .ok (.iconst 0, 1) := by decide +kernel
theorem dL_law_231 : decode cL_law 231 = .ok (.ireturn, 1) := by decide +kernel
theorem dL_law_232 : decode cL_law 232 = .ok (.iload 5, 2) := by decide +kernel
theorem dL_law_234 : decode cL_law 234 = .ok (.ifCond .ne 15, 3) := by decide +kernel
theorem dL_law_237 : decode cL_law 237 = .ok (.aload_n 3, 1) := by decide +kernel
theorem dL_law_238 : decode cL_law 238 = .ok (.iconst 0, 1) := by decide +kernel
theorem dL_law_239 : decode cL_law 239 = .ok (.laload, 1) := by decide +kernel
theorem dL_law_240 : decode cL_law 240 = .ok (.iload 6, 2) := by decide +kernel
theorem dL_law_242 : decode cL_law 242 = .ok (.i2l, 1) := by decide +kernel
theorem dL_law_243 : decode cL_law 243 = .ok (.lcmp, 1) := by decide +kernel
theorem dL_law_244 : decode cL_law 244 = .ok (.ifCond .eq 5, 3) := by decide +kernel
theorem dL_law_247 : decode cL_law 247 = .ok (.iconst 0, 1) := by decide +kernel
theorem dL_law_248 : decode cL_law 248 = .ok (.ireturn, 1) := by decide +kernel
theorem dL_law_249 : decode cL_law 249 = .ok (.goto 1134, 3) := by decide +kernel
theorem dL_law_252 : decode cL_law 252 = .ok (.aload_n 1, 1) := by decide +kernel
theorem dL_law_253 : decode cL_law 253 = .ok (.aload_n 0, 1) := by decide +kernel
theorem dL_law_254 : decode cL_law 254 = .ok (.iload 4, 2) := by decide +kernel
theorem dL_law_256 : decode cL_law 256 = .ok (.iconst 1, 1) := by decide +kernel
theorem dL_law_257 : decode cL_law 257 = .ok (.iadd, 1) := by decide +kernel
theorem dL_law_258 : decode cL_law 258 = .ok (.iaload, 1) := by decide +kernel
theorem dL_law_259 : decode cL_law 259 = .ok (.aload_n 3, 1) := by decide +kernel
theorem dL_law_260 : decode cL_law 260 = .ok (.invokestatic 82, 3) := by decide +kernel
theorem dL_law_263 : decode cL_law 263 = .ok (.istore 5, 2) := by decide +kernel
theorem dL_law_265 : decode cL_law 265 = .ok (.aload_n 2, 1) := by decide +kernel
theorem dL_law_266 : decode cL_law 266 = .ok (.aload_n 0, 1) := by decide +kernel
theorem dL_law_267 : decode cL_law 267 = .ok (.iload 4, 2) := by decide +kernel
theorem dL_law_269 : decode cL_law 269 = .ok (.iconst 1, 1) := by decide +kernel
theorem dL_law_270 : decode cL_law 270 = .ok (.iadd, 1) := by decide +kernel
theorem dL_law_271 : decode cL_law 271 = .ok (.iaload, 1) := by decide +kernel
theorem dL_law_272 : decode cL_law 272 = .ok (.invokevirtual 85, 3) := by decide +kernel
theorem dL_law_275 : decode cL_law 275 = .ok (.istore 6, 2) := by decide +kernel
theorem dL_law_277 : decode cL_law 277 = .ok (.aload_n 2, 1) := by decide +kernel
theorem dL_law_278 : decode cL_law 278 = .ok (.invokevirtual 78, 3) := by decide +kernel
theorem dL_law_281 : decode cL_law 281 = .ok (.iload 5, 2) := by decide +kernel
theorem dL_law_283 : decode cL_law 283 = .ok (.if_icmp .eq 5, 3) := by decide +kernel
theorem dL_law_286 : decode cL_law 286 = .ok (.iconst 0, 1) := by decide +kernel
theorem dL_law_287 : decode cL_law 287 = .ok (.ireturn, 1) := by decide +kernel
theorem dL_law_288 : decode cL_law 288 = .ok (.iload 5, 2) := by decide +kernel
theorem dL_law_290 : decode cL_law 290 = .ok (.ifCond .ne 15, 3) := by decide +kernel
theorem dL_law_293 : decode cL_law 293 = .ok (.aload_n 3, 1) := by decide +kernel
theorem dL_law_294 : decode cL_law 294 = .ok (.iconst 0, 1) := by decide +kernel
theorem dL_law_295 : decode cL_law 295 = .ok (.laload, 1) := by decide +kernel
theorem dL_law_296 : decode cL_law 296 = .ok (.iload 6, 2) := by decide +kernel
theorem dL_law_298 : decode cL_law 298 = .ok (.i2l, 1) := by decide +kernel
theorem dL_law_299 : decode cL_law 299 = .ok (.lcmp, 1) := by decide +kernel
theorem dL_law_300 : decode cL_law 300 = .ok (.ifCond .eq 5, 3) := by decide +kernel
theorem dL_law_303 : decode cL_law 303 = .ok (.iconst 0, 1) := by decide +kernel
theorem dL_law_304 : decode cL_law 304 = .ok (.ireturn, 1) := by decide +kernel
theorem dL_law_305 : decode cL_law 305 = .ok (.goto 1078, 3) := by decide +kernel
theorem dL_law_308 : decode cL_law 308 = .ok (.aload_n 1, 1) := by decide +kernel
theorem dL_law_309 : decode cL_law 309 = .ok (.invokevirtual 86, 3) := by decide +kernel
theorem dL_law_312 : decode cL_law 312 = .ok (.aload_n 2, 1) := by decide +kernel
theorem dL_law_313 : decode cL_law 313 = .ok (.invokevirtual 89, 3) := by decide +kernel
theorem dL_law_316 : decode cL_law 316 = .ok (.if_icmp .eq 1067, 3) := by decide +kernel
theorem dL_law_319 : decode cL_law 319 = .ok (.iconst 0, 1) := by decide +kernel
theorem dL_law_320 : decode cL_law 320 = .ok (.ireturn, 1) := by decide +kernel
theorem dL_law_321 : decode cL_law 321 = .ok (.aload_n 1, 1) := by decide +kernel
theorem dL_law_322 : decode cL_law 322 = .ok (.invokevirtual 90, 3) := by decide +kernel
theorem dL_law_325 : decode cL_law 325 = .ok (.aload_n 2, 1) := by decide +kernel
theorem dL_law_326 : decode cL_law 326 = .ok (.invokevirtual 93, 3) := by decide +kernel
theorem dL_law_329 : decode cL_law 329 = .ok (.if_icmp .eq 1054, 3) := by decide +kernel
theorem dL_law_332 : decode cL_law 332 = .ok (.iconst 0, 1) := by decide +kernel
theorem dL_law_333 : decode cL_law 333 = .ok (.ireturn, 1) := by decide +kernel
theorem dL_law_334 : decode cL_law 334 = .ok (.aload_n 1, 1) := by decide +kernel
theorem dL_law_335 : decode cL_law 335 = .ok (.aload_n 0, 1) := by decide +kernel
theorem dL_law_336 : decode cL_law 336 = .ok (.iload 4, 2) := by decide +kernel
theorem dL_law_338 : decode cL_law 338 = .ok (.iconst 1, 1) := by decide +kernel
theorem dL_law_339 : decode cL_law 339 = .ok (.iadd, 1) := by decide +kernel
theorem dL_law_340 : decode cL_law 340 = .ok (.iaload, 1) := by decide +kernel
theorem dL_law_341 : decode cL_law 341 = .ok (.aload_n 3, 1) := by decide +kernel
theorem dL_law_342 : decode cL_law 342 = .ok (.invokestatic 94, 3) := by decide +kernel
theorem dL_law_345 : decode cL_law 345 = .ok (.istore 5, 2) := by decide +kernel
theorem dL_law_347 : decode cL_law 347 = .ok (.aload_n 2, 1) := by decide +kernel
theorem dL_law_348 : decode cL_law 348 = .ok (.aload_n 0, 1) := by decide +kernel
theorem dL_law_349 : decode cL_law 349 = .ok (.iload 4, 2) := by decide +kernel
theorem dL_law_351 : decode cL_law 351 = .ok (.iconst 1, 1) := by decide +kernel
theorem dL_law_352 : decode cL_law 352 = .ok (.iadd, 1) := by decide +kernel
theorem dL_law_353 : decode cL_law 353 = .ok (.iaload, 1) := by decide +kernel
theorem dL_law_354 : decode cL_law 354 = .ok (.invokevirtual 96, 3) := by decide +kernel
theorem dL_law_357 : decode cL_law 357 = .ok (.istore 6, 2) := by decide +kernel
theorem dL_law_359 : decode cL_law 359 = .ok (.aload_n 2, 1) := by decide +kernel
theorem dL_law_360 : decode cL_law 360 = .ok (.invokevirtual 78, 3) := by decide +kernel
theorem dL_law_363 : decode cL_law 363 = .ok (.iload 5, 2) := by decide +kernel
theorem dL_law_365 : decode cL_law 365 = .ok (.if_icmp .eq 5, 3) := by decide +kernel
theorem dL_law_368 : decode cL_law 368 = .ok (.iconst 0, 1) := by decide +kernel
theorem dL_law_369 : decode cL_law 369 = .ok (.ireturn, 1) := by decide +kernel
theorem dL_law_370 : decode cL_law 370 = .ok (.iload 5, 2) := by decide +kernel
theorem dL_law_372 : decode cL_law 372 = .ok (.ifCond .ne 15, 3) := by decide +kernel
theorem dL_law_375 : decode cL_law 375 = .ok (.aload_n 3, 1) := by decide +kernel
theorem dL_law_376 : decode cL_law 376 = .ok (.iconst 0, 1) := by decide +kernel
theorem dL_law_377 : decode cL_law 377 = .ok (.laload, 1) := by decide +kernel
theorem dL_law_378 : decode cL_law 378 = .ok (.iload 6, 2) := by decide +kernel
theorem dL_law_380 : decode cL_law 380 = .ok (.i2l, 1) := by decide +kernel
theorem dL_law_381 : decode cL_law 381 = .ok (.lcmp, 1) := by decide +kernel
theorem dL_law_382 : decode cL_law 382 = .ok (.ifCond .eq 5, 3) := by decide +kernel
theorem dL_law_385 : decode cL_law 385 = .ok (.iconst 0, 1) := by decide +kernel
theorem dL_law_386 : decode cL_law 386 = .ok (.ireturn, 1) := by decide +kernel
theorem dL_law_387 : decode cL_law 387 = .ok (.goto 996, 3) := by decide +kernel
theorem dL_law_390 : decode cL_law 390 = .ok (.aload_n 1, 1) := by decide +kernel
theorem dL_law_391 : decode cL_law 391 = .ok (.aload_n 0, 1) := by decide +kernel
theorem dL_law_392 : decode cL_law 392 = .ok (.iload 4, 2) := by decide +kernel
theorem dL_law_394 : decode cL_law 394 = .ok (.iconst 1, 1) := by decide +kernel
theorem dL_law_395 : decode cL_law 395 = .ok (.iadd, 1) := by decide +kernel
theorem dL_law_396 : decode cL_law 396 = .ok (.iaload, 1) := by decide +kernel
theorem dL_law_397 : decode cL_law 397 = .ok (.aload_n 0, 1) := by decide +kernel
theorem dL_law_398 : decode cL_law 398 = .ok (.iload 4, 2) := by decide +kernel
theorem dL_law_400 : decode cL_law 400 = .ok (.iconst 2, 1) := by decide +kernel
theorem dL_law_401 : decode cL_law 401 = .ok (.iadd, 1) := by decide +kernel
theorem dL_law_402 : decode cL_law 402 = .ok (.iaload, 1) := by decide +kernel
theorem dL_law_403 : decode cL_law 403 = .ok (.aload_n 3, 1) := by decide +kernel
theorem dL_law_404 : decode cL_law 404 = .ok (.invokestatic 97, 3) := by decide +kernel
theorem dL_law_407 : decode cL_law 407 = .ok (.istore 5, 2) := by decide +kernel
theorem dL_law_409 : decode cL_law 409 = .ok (.aload_n 2, 1) := by decide +kernel
theorem dL_law_410 : decode cL_law 410 = .ok (.aload_n 0, 1) := by decide +kernel
theorem dL_law_411 : decode cL_law 411 = .ok (.iload 4, 2) := by decide +kernel
theorem dL_law_413 : decode cL_law 413 = .ok (.iconst 1, 1) := by decide +kernel
theorem dL_law_414 : decode cL_law 414 = .ok (.iadd, 1) := by decide +kernel
theorem dL_law_415 : decode cL_law 415 = .ok (.iaload, 1) := by decide +kernel
theorem dL_law_416 : decode cL_law 416 = .ok (.aload_n 0, 1) := by decide +kernel
theorem dL_law_417 : decode cL_law 417 = .ok (.iload 4, 2) := by decide +kernel
theorem dL_law_419 : decode cL_law 419 = .ok (.iconst 2, 1) := by decide +kernel
theorem dL_law_420 : decode cL_law 420 = .ok (.iadd, 1) := by decide +kernel
theorem dL_law_421 : decode cL_law 421 = .ok (.iaload, 1) := by decide +kernel
theorem dL_law_422 : decode cL_law 422 = .ok (.invokevirtual 100, 3) := by decide +kernel
theorem dL_law_425 : decode cL_law 425 = .ok (.istore 6, 2) := by decide +kernel
theorem dL_law_427 : decode cL_law 427 = .ok (.aload_n 2, 1) := by decide +kernel
theorem dL_law_428 : decode cL_law 428 = .ok (.invokevirtual 78, 3) := by decide +kernel
theorem dL_law_431 : decode cL_law 431 = .ok (.iload 5, 2) := by decide +kernel
theorem dL_law_433 : decode cL_law 433 = .ok (.if_icmp .eq 5, 3) := by decide +kernel
theorem dL_law_436 : decode cL_law 436 = .ok (.iconst 0, 1) := by decide +kernel
theorem dL_law_437 : decode cL_law 437 = .ok (.ireturn, 1) := by decide +kernel
theorem dL_law_438 : decode cL_law 438 = .ok (.iload 5, 2) := by decide +kernel
theorem dL_law_440 : decode cL_law 440 = .ok (.ifCond .ne 15, 3) := by decide +kernel
theorem dL_law_443 : decode cL_law 443 = .ok (.aload_n 3, 1) := by decide +kernel
theorem dL_law_444 : decode cL_law 444 = .ok (.iconst 0, 1) := by decide +kernel
theorem dL_law_445 : decode cL_law 445 = .ok (.laload, 1) := by decide +kernel
theorem dL_law_446 : decode cL_law 446 = .ok (.iload 6, 2) := by decide +kernel
theorem dL_law_448 : decode cL_law 448 = .ok (.i2l, 1) := by decide +kernel
theorem dL_law_449 : decode cL_law 449 = .ok (.lcmp, 1) := by decide +kernel
theorem dL_law_450 : decode cL_law 450 = .ok (.ifCond .eq 5, 3) := by decide +kernel
theorem dL_law_453 : decode cL_law 453 = .ok (.iconst 0, 1) := by decide +kernel
theorem dL_law_454 : decode cL_law 454 = .ok (.ireturn, 1) := by decide +kernel
theorem dL_law_455 : decode cL_law 455 = .ok (.goto 928, 3) := by decide +kernel
theorem dL_law_458 : decode cL_law 458 = .ok (.aload_n 1, 1) := by decide +kernel
theorem dL_law_459 : decode cL_law 459 = .ok (.aload_n 0, 1) := by decide +kernel
theorem dL_law_460 : decode cL_law 460 = .ok (.iload 4, 2) := by decide +kernel
theorem dL_law_462 : decode cL_law 462 = .ok (.iconst 1, 1) := by decide +kernel
theorem dL_law_463 : decode cL_law 463 = .ok (.iadd, 1) := by decide +kernel
theorem dL_law_464 : decode cL_law 464 = .ok (.iaload, 1) := by decide +kernel
theorem dL_law_465 : decode cL_law 465 = .ok (.aload_n 0, 1) := by decide +kernel
theorem dL_law_466 : decode cL_law 466 = .ok (.iload 4, 2) := by decide +kernel
theorem dL_law_468 : decode cL_law 468 = .ok (.iconst 2, 1) := by decide +kernel
theorem dL_law_469 : decode cL_law 469 = .ok (.iadd, 1) := by decide +kernel
theorem dL_law_470 : decode cL_law 470 = .ok (.iaload, 1) := by decide +kernel
theorem dL_law_471 : decode cL_law 471 = .ok (.aload_n 3, 1) := by decide +kernel
theorem dL_law_472 : decode cL_law 472 = .ok (.invokestatic 101, 3) := by decide +kernel
theorem dL_law_475 : decode cL_law 475 = .ok (.istore 5, 2) := by decide +kernel
theorem dL_law_477 : decode cL_law 477 = .ok (.aload_n 2, 1) := by decide +kernel
theorem dL_law_478 : decode cL_law 478 = .ok (.aload_n 0, 1) := by decide +kernel
theorem dL_law_479 : decode cL_law 479 = .ok (.iload 4, 2) := by decide +kernel
theorem dL_law_481 : decode cL_law 481 = .ok (.iconst 1, 1) := by decide +kernel
theorem dL_law_482 : decode cL_law 482 = .ok (.iadd, 1) := by decide +kernel
theorem dL_law_483 : decode cL_law 483 = .ok (.iaload, 1) := by decide +kernel
theorem dL_law_484 : decode cL_law 484 = .ok (.aload_n 0, 1) := by decide +kernel
theorem dL_law_485 : decode cL_law 485 = .ok (.iload 4, 2) := by decide +kernel
theorem dL_law_487 : decode cL_law 487 = .ok (.iconst 2, 1) := by decide +kernel
theorem dL_law_488 : decode cL_law 488 = .ok (.iadd, 1) := by decide +kernel
theorem dL_law_489 : decode cL_law 489 = .ok (.iaload, 1) := by decide +kernel
theorem dL_law_490 : decode cL_law 490 = .ok (.invokevirtual 103, 3) := by decide +kernel
theorem dL_law_493 : decode cL_law 493 = .ok (.istore 6, 2) := by decide +kernel
theorem dL_law_495 : decode cL_law 495 = .ok (.aload_n 2, 1) := by decide +kernel
theorem dL_law_496 : decode cL_law 496 = .ok (.invokevirtual 78, 3) := by decide +kernel
theorem dL_law_499 : decode cL_law 499 = .ok (.iload 5, 2) := by decide +kernel
theorem dL_law_501 : decode cL_law 501 = .ok (.if_icmp .eq 5, 3) := by decide +kernel
theorem dL_law_504 : decode cL_law 504 = .ok (.iconst 0, 1) := by decide +kernel
theorem dL_law_505 : decode cL_law 505 = .ok (.ireturn, 1) := by decide +kernel
theorem dL_law_506 : decode cL_law 506 = .ok (.iload 5, 2) := by decide +kernel
theorem dL_law_508 : decode cL_law 508 = .ok (.ifCond .ne 15, 3) := by decide +kernel
theorem dL_law_511 : decode cL_law 511 = .ok (.aload_n 3, 1) := by decide +kernel
theorem dL_law_512 : decode cL_law 512 = .ok (.iconst 0, 1) := by decide +kernel
theorem dL_law_513 : decode cL_law 513 = .ok (.laload, 1) := by decide +kernel
theorem dL_law_514 : decode cL_law 514 = .ok (.iload 6, 2) := by decide +kernel
theorem dL_law_516 : decode cL_law 516 = .ok (.i2l, 1) := by decide +kernel
theorem dL_law_517 : decode cL_law 517 = .ok (.lcmp, 1) := by decide +kernel
theorem dL_law_518 : decode cL_law 518 = .ok (.ifCond .eq 5, 3) := by decide +kernel
theorem dL_law_521 : decode cL_law 521 = .ok (.iconst 0, 1) := by decide +kernel
theorem dL_law_522 : decode cL_law 522 = .ok (.ireturn, 1) := by decide +kernel
theorem dL_law_523 : decode cL_law 523 = .ok (.goto 860, 3) := by decide +kernel
theorem dL_law_526 : decode cL_law 526 = .ok (.aload_n 1, 1) := by decide +kernel
theorem dL_law_527 : decode cL_law 527 = .ok (.aload_n 0, 1) := by decide +kernel
theorem dL_law_528 : decode cL_law 528 = .ok (.iload 4, 2) := by decide +kernel
theorem dL_law_530 : decode cL_law 530 = .ok (.iconst 1, 1) := by decide +kernel
theorem dL_law_531 : decode cL_law 531 = .ok (.iadd, 1) := by decide +kernel
theorem dL_law_532 : decode cL_law 532 = .ok (.iaload, 1) := by decide +kernel
theorem dL_law_533 : decode cL_law 533 = .ok (.aload_n 0, 1) := by decide +kernel
theorem dL_law_534 : decode cL_law 534 = .ok (.iload 4, 2) := by decide +kernel
theorem dL_law_536 : decode cL_law 536 = .ok (.iconst 2, 1) := by decide +kernel
theorem dL_law_537 : decode cL_law 537 = .ok (.iadd, 1) := by decide +kernel
theorem dL_law_538 : decode cL_law 538 = .ok (.iaload, 1) := by decide +kernel
theorem dL_law_539 : decode cL_law 539 = .ok (.aload_n 3, 1) := by decide +kernel
theorem dL_law_540 : decode cL_law 540 = .ok (.invokestatic 104, 3) := by decide +kernel
theorem dL_law_543 : decode cL_law 543 = .ok (.istore 5, 2) := by decide +kernel
theorem dL_law_545 : decode cL_law 545 = .ok (.aload_n 2, 1) := by decide +kernel
theorem dL_law_546 : decode cL_law 546 = .ok (.aload_n 0, 1) := by decide +kernel
theorem dL_law_547 : decode cL_law 547 = .ok (.iload 4, 2) := by decide +kernel
theorem dL_law_549 : decode cL_law 549 = .ok (.iconst 1, 1) := by decide +kernel
theorem dL_law_550 : decode cL_law 550 = .ok (.iadd, 1) := by decide +kernel
theorem dL_law_551 : decode cL_law 551 = .ok (.iaload, 1) := by decide +kernel
theorem dL_law_552 : decode cL_law 552 = .ok (.aload_n 0, 1) := by decide +kernel
theorem dL_law_553 : decode cL_law 553 = .ok (.iload 4, 2) := by decide +kernel
theorem dL_law_555 : decode cL_law 555 = .ok (.iconst 2, 1) := by decide +kernel
theorem dL_law_556 : decode cL_law 556 = .ok (.iadd, 1) := by decide +kernel
theorem dL_law_557 : decode cL_law 557 = .ok (.iaload, 1) := by decide +kernel
theorem dL_law_558 : decode cL_law 558 = .ok (.invokevirtual 106, 3) := by decide +kernel
theorem dL_law_561 : decode cL_law 561 = .ok (.istore 6, 2) := by decide +kernel
theorem dL_law_563 : decode cL_law 563 = .ok (.aload_n 2, 1) := by decide +kernel
theorem dL_law_564 : decode cL_law 564 = .ok (.invokevirtual 78, 3) := by decide +kernel
theorem dL_law_567 : decode cL_law 567 = .ok (.iload 5, 2) := by decide +kernel
theorem dL_law_569 : decode cL_law 569 = .ok (.if_icmp .eq 5, 3) := by decide +kernel
theorem dL_law_572 : decode cL_law 572 = .ok (.iconst 0, 1) := by decide +kernel
theorem dL_law_573 : decode cL_law 573 = .ok (.ireturn, 1) := by decide +kernel
theorem dL_law_574 : decode cL_law 574 = .ok (.iload 5, 2) := by decide +kernel
theorem dL_law_576 : decode cL_law 576 = .ok (.ifCond .ne 15, 3) := by decide +kernel
theorem dL_law_579 : decode cL_law 579 = .ok (.aload_n 3, 1) := by decide +kernel
theorem dL_law_580 : decode cL_law 580 = .ok (.iconst 0, 1) := by decide +kernel
theorem dL_law_581 : decode cL_law 581 = .ok (.laload, 1) := by decide +kernel
theorem dL_law_582 : decode cL_law 582 = .ok (.iload 6, 2) := by decide +kernel
theorem dL_law_584 : decode cL_law 584 = .ok (.i2l, 1) := by decide +kernel
theorem dL_law_585 : decode cL_law 585 = .ok (.lcmp, 1) := by decide +kernel
theorem dL_law_586 : decode cL_law 586 = .ok (.ifCond .eq 5, 3) := by decide +kernel
theorem dL_law_589 : decode cL_law 589 = .ok (.iconst 0, 1) := by decide +kernel
theorem dL_law_590 : decode cL_law 590 = .ok (.ireturn, 1) := by decide +kernel
theorem dL_law_591 : decode cL_law 591 = .ok (.goto 792, 3) := by decide +kernel
theorem dL_law_594 : decode cL_law 594 = .ok (.aload_n 1, 1) := by decide +kernel
theorem dL_law_595 : decode cL_law 595 = .ok (.aload_n 0, 1) := by decide +kernel
theorem dL_law_596 : decode cL_law 596 = .ok (.iload 4, 2) := by decide +kernel
theorem dL_law_598 : decode cL_law 598 = .ok (.iconst 1, 1) := by decide +kernel
theorem dL_law_599 : decode cL_law 599 = .ok (.iadd, 1) := by decide +kernel
theorem dL_law_600 : decode cL_law 600 = .ok (.iaload, 1) := by decide +kernel
theorem dL_law_601 : decode cL_law 601 = .ok (.aload_n 0, 1) := by decide +kernel
theorem dL_law_602 : decode cL_law 602 = .ok (.iload 4, 2) := by decide +kernel
theorem dL_law_604 : decode cL_law 604 = .ok (.iconst 2, 1) := by decide +kernel
theorem dL_law_605 : decode cL_law 605 = .ok (.iadd, 1) := by decide +kernel
theorem dL_law_606 : decode cL_law 606 = .ok (.iaload, 1) := by decide +kernel
theorem dL_law_607 : decode cL_law 607 = .ok (.aload_n 0, 1) := by decide +kernel
theorem dL_law_608 : decode cL_law 608 = .ok (.iload 4, 2) := by decide +kernel
theorem dL_law_610 : decode cL_law 610 = .ok (.iconst 3, 1) := by decide +kernel
theorem dL_law_611 : decode cL_law 611 = .ok (.iadd, 1) := by decide +kernel
theorem dL_law_612 : decode cL_law 612 = .ok (.iaload, 1) := by decide +kernel
theorem dL_law_613 : decode cL_law 613 = .ok (.ifCond .eq 7, 3) := by decide +kernel
theorem dL_law_616 : decode cL_law 616 = .ok (.iconst 1, 1) := by decide +kernel
theorem dL_law_617 : decode cL_law 617 = .ok (.goto 4, 3) := by decide +kernel
theorem dL_law_620 : decode cL_law 620 = .ok (.iconst 0, 1) := by decide +kernel
theorem dL_law_621 : decode cL_law 621 = .ok (.aload_n 3, 1) := by decide +kernel
theorem dL_law_622 : decode cL_law 622 = .ok (.invokestatic 107, 3) := by decide +kernel
theorem dL_law_625 : decode cL_law 625 = .ok (.istore 5, 2) := by decide +kernel
theorem dL_law_627 : decode cL_law 627 = .ok (.aload_n 2, 1) := by decide +kernel
theorem dL_law_628 : decode cL_law 628 = .ok (.aload_n 0, 1) := by decide +kernel
theorem dL_law_629 : decode cL_law 629 = .ok (.iload 4, 2) := by decide +kernel
theorem dL_law_631 : decode cL_law 631 = .ok (.iconst 1, 1) := by decide +kernel
theorem dL_law_632 : decode cL_law 632 = .ok (.iadd, 1) := by decide +kernel
theorem dL_law_633 : decode cL_law 633 = .ok (.iaload, 1) := by decide +kernel
theorem dL_law_634 : decode cL_law 634 = .ok (.aload_n 0, 1) := by decide +kernel
theorem dL_law_635 : decode cL_law 635 = .ok (.iload 4, 2) := by decide +kernel
theorem dL_law_637 : decode cL_law 637 = .ok (.iconst 2, 1) := by decide +kernel
theorem dL_law_638 : decode cL_law 638 = .ok (.iadd, 1) := by decide +kernel
theorem dL_law_639 : decode cL_law 639 = .ok (.iaload, 1) := by decide +kernel
theorem dL_law_640 : decode cL_law 640 = .ok (.aload_n 0, 1) := by decide +kernel
theorem dL_law_641 : decode cL_law 641 = .ok (.iload 4, 2) := by decide +kernel
theorem dL_law_643 : decode cL_law 643 = .ok (.iconst 3, 1) := by decide +kernel
theorem dL_law_644 : decode cL_law 644 = .ok (.iadd, 1) := by decide +kernel
theorem dL_law_645 : decode cL_law 645 = .ok (.iaload, 1) := by decide +kernel
theorem dL_law_646 : decode cL_law 646 = .ok (.ifCond .eq 7, 3) := by decide +kernel
theorem dL_law_649 : decode cL_law 649 = .ok (.iconst 1, 1) := by decide +kernel
theorem dL_law_650 : decode cL_law 650 = .ok (.goto 4, 3) := by decide +kernel
theorem dL_law_653 : decode cL_law 653 = .ok (.iconst 0, 1) := by decide +kernel
theorem dL_law_654 : decode cL_law 654 = .ok (.invokevirtual 110, 3) := by decide +kernel
theorem dL_law_657 : decode cL_law 657 = .ok (.istore 6, 2) := by decide +kernel
theorem dL_law_659 : decode cL_law 659 = .ok (.aload_n 2, 1) := by decide +kernel
theorem dL_law_660 : decode cL_law 660 = .ok (.invokevirtual 78, 3) := by decide +kernel
theorem dL_law_663 : decode cL_law 663 = .ok (.iload 5, 2) := by decide +kernel
theorem dL_law_665 : decode cL_law 665 = .ok (.if_icmp .eq 5, 3) := by decide +kernel
theorem dL_law_668 : decode cL_law 668 = .ok (.iconst 0, 1) := by decide +kernel
theorem dL_law_669 : decode cL_law 669 = .ok (.ireturn, 1) := by decide +kernel
theorem dL_law_670 : decode cL_law 670 = .ok (.iload 5, 2) := by decide +kernel
theorem dL_law_672 : decode cL_law 672 = .ok (.ifCond .ne 22, 3) := by decide +kernel
theorem dL_law_675 : decode cL_law 675 = .ok (.aload_n 3, 1) := by decide +kernel
theorem dL_law_676 : decode cL_law 676 = .ok (.iconst 0, 1) := by decide +kernel
theorem dL_law_677 : decode cL_law 677 = .ok (.laload, 1) := by decide +kernel
theorem dL_law_678 : decode cL_law 678 = .ok (.iload 6, 2) := by decide +kernel
theorem dL_law_680 : decode cL_law 680 = .ok (.ifCond .eq 7, 3) := by decide +kernel
theorem dL_law_683 : decode cL_law 683 = .ok (.lconst 1, 1) := by decide +kernel
theorem dL_law_684 : decode cL_law 684 = .ok (.goto 4, 3) := by decide +kernel
theorem dL_law_687 : decode cL_law 687 = .ok (.lconst 0, 1) := by decide +kernel
theorem dL_law_688 : decode cL_law 688 = .ok (.lcmp, 1) := by decide +kernel
theorem dL_law_689 : decode cL_law 689 = .ok (.ifCond .eq 5, 3) := by decide +kernel
theorem dL_law_692 : decode cL_law 692 = .ok (.iconst 0, 1) := by decide +kernel
theorem dL_law_693 : decode cL_law 693 = .ok (.ireturn, 1) := by decide +kernel
theorem dL_law_694 : decode cL_law 694 = .ok (.goto 689, 3) := by decide +kernel
theorem dL_law_697 : decode cL_law 697 = .ok (.aload_n 1, 1) := by decide +kernel
theorem dL_law_698 : decode cL_law 698 = .ok (.aload_n 0, 1) := by decide +kernel
theorem dL_law_699 : decode cL_law 699 = .ok (.iload 4, 2) := by decide +kernel
theorem dL_law_701 : decode cL_law 701 = .ok (.iconst 1, 1) := by decide +kernel
theorem dL_law_702 : decode cL_law 702 = .ok (.iadd, 1) := by decide +kernel
theorem dL_law_703 : decode cL_law 703 = .ok (.iaload, 1) := by decide +kernel
theorem dL_law_704 : decode cL_law 704 = .ok (.aload_n 0, 1) := by decide +kernel
theorem dL_law_705 : decode cL_law 705 = .ok (.iload 4, 2) := by decide +kernel
theorem dL_law_707 : decode cL_law 707 = .ok (.iconst 2, 1) := by decide +kernel
theorem dL_law_708 : decode cL_law 708 = .ok (.iadd, 1) := by decide +kernel
theorem dL_law_709 : decode cL_law 709 = .ok (.iaload, 1) := by decide +kernel
theorem dL_law_710 : decode cL_law 710 = .ok (.aload_n 3, 1) := by decide +kernel
theorem dL_law_711 : decode cL_law 711 = .ok (.invokestatic 111, 3) := by decide +kernel
theorem dL_law_714 : decode cL_law 714 = .ok (.istore 5, 2) := by decide +kernel
theorem dL_law_716 : decode cL_law 716 = .ok (.aload_n 2, 1) := by decide +kernel
theorem dL_law_717 : decode cL_law 717 = .ok (.aload_n 0, 1) := by decide +kernel
theorem dL_law_718 : decode cL_law 718 = .ok (.iload 4, 2) := by decide +kernel
theorem dL_law_720 : decode cL_law 720 = .ok (.iconst 1, 1) := by decide +kernel
theorem dL_law_721 : decode cL_law 721 = .ok (.iadd, 1) := by decide +kernel
theorem dL_law_722 : decode cL_law 722 = .ok (.iaload, 1) := by decide +kernel
theorem dL_law_723 : decode cL_law 723 = .ok (.aload_n 0, 1) := by decide +kernel
theorem dL_law_724 : decode cL_law 724 = .ok (.iload 4, 2) := by decide +kernel
theorem dL_law_726 : decode cL_law 726 = .ok (.iconst 2, 1) := by decide +kernel
theorem dL_law_727 : decode cL_law 727 = .ok (.iadd, 1) := by decide +kernel
theorem dL_law_728 : decode cL_law 728 = .ok (.iaload, 1) := by decide +kernel
theorem dL_law_729 : decode cL_law 729 = .ok (.invokevirtual 113, 3) := by decide +kernel
theorem dL_law_732 : decode cL_law 732 = .ok (.istore 6, 2) := by decide +kernel
theorem dL_law_734 : decode cL_law 734 = .ok (.aload_n 2, 1) := by decide +kernel
theorem dL_law_735 : decode cL_law 735 = .ok (.invokevirtual 78, 3) := by decide +kernel
theorem dL_law_738 : decode cL_law 738 = .ok (.iload 5, 2) := by decide +kernel
theorem dL_law_740 : decode cL_law 740 = .ok (.if_icmp .eq 5, 3) := by decide +kernel
theorem dL_law_743 : decode cL_law 743 = .ok (.iconst 0, 1) := by decide +kernel
theorem dL_law_744 : decode cL_law 744 = .ok (.ireturn, 1) := by decide +kernel
theorem dL_law_745 : decode cL_law 745 = .ok (.iload 5, 2) := by decide +kernel
theorem dL_law_747 : decode cL_law 747 = .ok (.ifCond .ne 15, 3) := by decide +kernel
theorem dL_law_750 : decode cL_law 750 = .ok (.aload_n 3, 1) := by decide +kernel
theorem dL_law_751 : decode cL_law 751 = .ok (.iconst 0, 1) := by decide +kernel
theorem dL_law_752 : decode cL_law 752 = .ok (.laload, 1) := by decide +kernel
theorem dL_law_753 : decode cL_law 753 = .ok (.iload 6, 2) := by decide +kernel
theorem dL_law_755 : decode cL_law 755 = .ok (.i2l, 1) := by decide +kernel
theorem dL_law_756 : decode cL_law 756 = .ok (.lcmp, 1) := by decide +kernel
theorem dL_law_757 : decode cL_law 757 = .ok (.ifCond .eq 5, 3) := by decide +kernel
theorem dL_law_760 : decode cL_law 760 = .ok (.iconst 0, 1) := by decide +kernel
theorem dL_law_761 : decode cL_law 761 = .ok (.ireturn, 1) := by decide +kernel
theorem dL_law_762 : decode cL_law 762 = .ok (.goto 621, 3) := by decide +kernel
theorem dL_law_765 : decode cL_law 765 = .ok (.aload_n 1, 1) := by decide +kernel
theorem dL_law_766 : decode cL_law 766 = .ok (.aload_n 0, 1) := by decide +kernel
theorem dL_law_767 : decode cL_law 767 = .ok (.iload 4, 2) := by decide +kernel
theorem dL_law_769 : decode cL_law 769 = .ok (.iconst 1, 1) := by decide +kernel
theorem dL_law_770 : decode cL_law 770 = .ok (.iadd, 1) := by decide +kernel
theorem dL_law_771 : decode cL_law 771 = .ok (.iaload, 1) := by decide +kernel
theorem dL_law_772 : decode cL_law 772 = .ok (.aload_n 3, 1) := by decide +kernel
theorem dL_law_773 : decode cL_law 773 = .ok (.invokestatic 114, 3) := by decide +kernel
theorem dL_law_776 : decode cL_law 776 = .ok (.istore 5, 2) := by decide +kernel
theorem dL_law_778 : decode cL_law 778 = .ok (.aload_n 2, 1) := by decide +kernel
theorem dL_law_779 : decode cL_law 779 = .ok (.aload_n 0, 1) := by decide +kernel
theorem dL_law_780 : decode cL_law 780 = .ok (.iload 4, 2) := by decide +kernel
theorem dL_law_782 : decode cL_law 782 = .ok (.iconst 1, 1) := by decide +kernel
theorem dL_law_783 : decode cL_law 783 = .ok (.iadd, 1) := by decide +kernel
theorem dL_law_784 : decode cL_law 784 = .ok (.iaload, 1) := by decide +kernel
theorem dL_law_785 : decode cL_law 785 = .ok (.invokevirtual 116, 3) := by decide +kernel
theorem dL_law_788 : decode cL_law 788 = .ok (.istore 6, 2) := by decide +kernel
theorem dL_law_790 : decode cL_law 790 = .ok (.aload_n 2, 1) := by decide +kernel
theorem dL_law_791 : decode cL_law 791 = .ok (.invokevirtual 78, 3) := by decide +kernel
theorem dL_law_794 : decode cL_law 794 = .ok (.iload 5, 2) := by decide +kernel
theorem dL_law_796 : decode cL_law 796 = .ok (.if_icmp .eq 5, 3) := by decide +kernel
theorem dL_law_799 : decode cL_law 799 = .ok (.iconst 0, 1) := by decide +kernel
theorem dL_law_800 : decode cL_law 800 = .ok (.ireturn, 1) := by decide +kernel
theorem dL_law_801 : decode cL_law 801 = .ok (.iload 5, 2) := by decide +kernel
theorem dL_law_803 : decode cL_law 803 = .ok (.ifCond .ne 15, 3) := by decide +kernel
theorem dL_law_806 : decode cL_law 806 = .ok (.aload_n 3, 1) := by decide +kernel
theorem dL_law_807 : decode cL_law 807 = .ok (.iconst 0, 1) := by decide +kernel
theorem dL_law_808 : decode cL_law 808 = .ok (.laload, 1) := by decide +kernel
theorem dL_law_809 : decode cL_law 809 = .ok (.iload 6, 2) := by decide +kernel
theorem dL_law_811 : decode cL_law 811 = .ok (.i2l, 1) := by decide +kernel
theorem dL_law_812 : decode cL_law 812 = .ok (.lcmp, 1) := by decide +kernel
theorem dL_law_813 : decode cL_law 813 = .ok (.ifCond .eq 5, 3) := by decide +kernel
theorem dL_law_816 : decode cL_law 816 = .ok (.iconst 0, 1) := by decide +kernel
theorem dL_law_817 : decode cL_law 817 = .ok (.ireturn, 1) := by decide +kernel
theorem dL_law_818 : decode cL_law 818 = .ok (.goto 565, 3) := by decide +kernel
theorem dL_law_821 : decode cL_law 821 = .ok (.aload_n 1, 1) := by decide +kernel
theorem dL_law_822 : decode cL_law 822 = .ok (.aload_n 0, 1) := by decide +kernel
theorem dL_law_823 : decode cL_law 823 = .ok (.iload 4, 2) := by decide +kernel
theorem dL_law_825 : decode cL_law 825 = .ok (.iconst 1, 1) := by decide +kernel
theorem dL_law_826 : decode cL_law 826 = .ok (.iadd, 1) := by decide +kernel
theorem dL_law_827 : decode cL_law 827 = .ok (.iaload, 1) := by decide +kernel
theorem dL_law_828 : decode cL_law 828 = .ok (.aload_n 3, 1) := by decide +kernel
theorem dL_law_829 : decode cL_law 829 = .ok (.invokestatic 117, 3) := by decide +kernel
theorem dL_law_832 : decode cL_law 832 = .ok (.istore 5, 2) := by decide +kernel
theorem dL_law_834 : decode cL_law 834 = .ok (.aload_n 2, 1) := by decide +kernel
theorem dL_law_835 : decode cL_law 835 = .ok (.aload_n 0, 1) := by decide +kernel
theorem dL_law_836 : decode cL_law 836 = .ok (.iload 4, 2) := by decide +kernel
theorem dL_law_838 : decode cL_law 838 = .ok (.iconst 1, 1) := by decide +kernel
theorem dL_law_839 : decode cL_law 839 = .ok (.iadd, 1) := by decide +kernel
theorem dL_law_840 : decode cL_law 840 = .ok (.iaload, 1) := by decide +kernel
theorem dL_law_841 : decode cL_law 841 = .ok (.invokevirtual 119, 3) := by decide +kernel
theorem dL_law_844 : decode cL_law 844 = .ok (.istore 6, 2) := by decide +kernel
theorem dL_law_846 : decode cL_law 846 = .ok (.aload_n 2, 1) := by decide +kernel
theorem dL_law_847 : decode cL_law 847 = .ok (.invokevirtual 78, 3) := by decide +kernel
theorem dL_law_850 : decode cL_law 850 = .ok (.iload 5, 2) := by decide +kernel
theorem dL_law_852 : decode cL_law 852 = .ok (.if_icmp .eq 5, 3) := by decide +kernel
theorem dL_law_855 : decode cL_law 855 = .ok (.iconst 0, 1) := by decide +kernel
theorem dL_law_856 : decode cL_law 856 = .ok (.ireturn, 1) := by decide +kernel
theorem dL_law_857 : decode cL_law 857 = .ok (.iload 5, 2) := by decide +kernel
theorem dL_law_859 : decode cL_law 859 = .ok (.ifCond .ne 15, 3) := by decide +kernel
theorem dL_law_862 : decode cL_law 862 = .ok (.aload_n 3, 1) := by decide +kernel
theorem dL_law_863 : decode cL_law 863 = .ok (.iconst 0, 1) := by decide +kernel
theorem dL_law_864 : decode cL_law 864 = .ok (.laload, 1) := by decide +kernel
theorem dL_law_865 : decode cL_law 865 = .ok (.iload 6, 2) := by decide +kernel
theorem dL_law_867 : decode cL_law 867 = .ok (.i2l, 1) := by decide +kernel
theorem dL_law_868 : decode cL_law 868 = .ok (.lcmp, 1) := by decide +kernel
theorem dL_law_869 : decode cL_law 869 = .ok (.ifCond .eq 5, 3) := by decide +kernel
theorem dL_law_872 : decode cL_law 872 = .ok (.iconst 0, 1) := by decide +kernel
theorem dL_law_873 : decode cL_law 873 = .ok (.ireturn, 1) := by decide +kernel
theorem dL_law_874 : decode cL_law 874 = .ok (.goto 509, 3) := by decide +kernel
theorem dL_law_877 : decode cL_law 877 = .ok (.aload_n 1, 1) := by decide +kernel
theorem dL_law_878 : decode cL_law 878 = .ok (.aload_n 0, 1) := by decide +kernel
theorem dL_law_879 : decode cL_law 879 = .ok (.iload 4, 2) := by decide +kernel
theorem dL_law_881 : decode cL_law 881 = .ok (.iconst 1, 1) := by decide +kernel
theorem dL_law_882 : decode cL_law 882 = .ok (.iadd, 1) := by decide +kernel
theorem dL_law_883 : decode cL_law 883 = .ok (.iaload, 1) := by decide +kernel
theorem dL_law_884 : decode cL_law 884 = .ok (.aload_n 3, 1) := by decide +kernel
theorem dL_law_885 : decode cL_law 885 = .ok (.invokestatic 120, 3) := by decide +kernel
theorem dL_law_888 : decode cL_law 888 = .ok (.istore 5, 2) := by decide +kernel
theorem dL_law_890 : decode cL_law 890 = .ok (.aload_n 2, 1) := by decide +kernel
theorem dL_law_891 : decode cL_law 891 = .ok (.aload_n 0, 1) := by decide +kernel
theorem dL_law_892 : decode cL_law 892 = .ok (.iload 4, 2) := by decide +kernel
theorem dL_law_894 : decode cL_law 894 = .ok (.iconst 1, 1) := by decide +kernel
theorem dL_law_895 : decode cL_law 895 = .ok (.iadd, 1) := by decide +kernel
theorem dL_law_896 : decode cL_law 896 = .ok (.iaload, 1) := by decide +kernel
theorem dL_law_897 : decode cL_law 897 = .ok (.invokevirtual 122, 3) := by decide +kernel
theorem dL_law_900 : decode cL_law 900 = .ok (.istore 6, 2) := by decide +kernel
theorem dL_law_902 : decode cL_law 902 = .ok (.aload_n 2, 1) := by decide +kernel
theorem dL_law_903 : decode cL_law 903 = .ok (.invokevirtual 78, 3) := by decide +kernel
theorem dL_law_906 : decode cL_law 906 = .ok (.iload 5, 2) := by decide +kernel
theorem dL_law_908 : decode cL_law 908 = .ok (.if_icmp .eq 5, 3) := by decide +kernel
theorem dL_law_911 : decode cL_law 911 = .ok (.iconst 0, 1) := by decide +kernel
theorem dL_law_912 : decode cL_law 912 = .ok (.ireturn, 1) := by decide +kernel
theorem dL_law_913 : decode cL_law 913 = .ok (.iload 5, 2) := by decide +kernel
theorem dL_law_915 : decode cL_law 915 = .ok (.ifCond .ne 15, 3) := by decide +kernel
theorem dL_law_918 : decode cL_law 918 = .ok (.aload_n 3, 1) := by decide +kernel
theorem dL_law_919 : decode cL_law 919 = .ok (.iconst 0, 1) := by decide +kernel
theorem dL_law_920 : decode cL_law 920 = .ok (.laload, 1) := by decide +kernel
theorem dL_law_921 : decode cL_law 921 = .ok (.iload 6, 2) := by decide +kernel
theorem dL_law_923 : decode cL_law 923 = .ok (.i2l, 1) := by decide +kernel
theorem dL_law_924 : decode cL_law 924 = .ok (.lcmp, 1) := by decide +kernel
theorem dL_law_925 : decode cL_law 925 = .ok (.ifCond .eq 5, 3) := by decide +kernel
theorem dL_law_928 : decode cL_law 928 = .ok (.iconst 0, 1) := by decide +kernel
theorem dL_law_929 : decode cL_law 929 = .ok (.ireturn, 1) := by decide +kernel
theorem dL_law_930 : decode cL_law 930 = .ok (.goto 453, 3) := by decide +kernel
theorem dL_law_933 : decode cL_law 933 = .ok (.aload_n 1, 1) := by decide +kernel
theorem dL_law_934 : decode cL_law 934 = .ok (.invokevirtual 123, 3) := by decide +kernel
theorem dL_law_937 : decode cL_law 937 = .ok (.aload_n 2, 1) := by decide +kernel
theorem dL_law_938 : decode cL_law 938 = .ok (.invokevirtual 126, 3) := by decide +kernel
theorem dL_law_941 : decode cL_law 941 = .ok (.if_icmp .eq 442, 3) := by decide +kernel
theorem dL_law_944 : decode cL_law 944 = .ok (.iconst 0, 1) := by decide +kernel
theorem dL_law_945 : decode cL_law 945 = .ok (.ireturn, 1) := by decide +kernel
theorem dL_law_946 : decode cL_law 946 = .ok (.aload_n 1, 1) := by decide +kernel
theorem dL_law_947 : decode cL_law 947 = .ok (.invokevirtual 127, 3) := by decide +kernel
theorem dL_law_950 : decode cL_law 950 = .ok (.aload_n 2, 1) := by decide +kernel
theorem dL_law_951 : decode cL_law 951 = .ok (.invokevirtual 130, 3) := by decide +kernel
theorem dL_law_954 : decode cL_law 954 = .ok (.if_icmp .eq 429, 3) := by decide +kernel
theorem dL_law_957 : decode cL_law 957 = .ok (.iconst 0, 1) := by decide +kernel
theorem dL_law_958 : decode cL_law 958 = .ok (.ireturn, 1) := by decide +kernel
theorem dL_law_959 : decode cL_law 959 = .ok (.aload_n 1, 1) := by decide +kernel
theorem dL_law_960 : decode cL_law 960 = .ok (.aload_n 0, 1) := by decide +kernel
theorem dL_law_961 : decode cL_law 961 = .ok (.iload 4, 2) := by decide +kernel
theorem dL_law_963 : decode cL_law 963 = .ok (.iconst 1, 1) := by decide +kernel
theorem dL_law_964 : decode cL_law 964 = .ok (.iadd, 1) := by decide +kernel
theorem dL_law_965 : decode cL_law 965 = .ok (.iaload, 1) := by decide +kernel
theorem dL_law_966 : decode cL_law 966 = .ok (.aload_n 0, 1) := by decide +kernel
theorem dL_law_967 : decode cL_law 967 = .ok (.iload 4, 2) := by decide +kernel
theorem dL_law_969 : decode cL_law 969 = .ok (.iconst 2, 1) := by decide +kernel
theorem dL_law_970 : decode cL_law 970 = .ok (.iadd, 1) := by decide +kernel
theorem dL_law_971 : decode cL_law 971 = .ok (.iaload, 1) := by decide +kernel
theorem dL_law_972 : decode cL_law 972 = .ok (.aload_n 3, 1) := by decide +kernel
theorem dL_law_973 : decode cL_law 973 = .ok (.invokestatic 131, 3) := by decide +kernel
theorem dL_law_976 : decode cL_law 976 = .ok (.istore 5, 2) := by decide +kernel
theorem dL_law_978 : decode cL_law 978 = .ok (.aload_n 2, 1) := by decide +kernel
theorem dL_law_979 : decode cL_law 979 = .ok (.aload_n 0, 1) := by decide +kernel
theorem dL_law_980 : decode cL_law 980 = .ok (.iload 4, 2) := by decide +kernel
theorem dL_law_982 : decode cL_law 982 = .ok (.iconst 1, 1) := by decide +kernel
theorem dL_law_983 : decode cL_law 983 = .ok (.iadd, 1) := by decide +kernel
theorem dL_law_984 : decode cL_law 984 = .ok (.iaload, 1) := by decide +kernel
theorem dL_law_985 : decode cL_law 985 = .ok (.aload_n 0, 1) := by decide +kernel
theorem dL_law_986 : decode cL_law 986 = .ok (.iload 4, 2) := by decide +kernel
theorem dL_law_988 : decode cL_law 988 = .ok (.iconst 2, 1) := by decide +kernel
theorem dL_law_989 : decode cL_law 989 = .ok (.iadd, 1) := by decide +kernel
theorem dL_law_990 : decode cL_law 990 = .ok (.iaload, 1) := by decide +kernel
theorem dL_law_991 : decode cL_law 991 = .ok (.invokevirtual 133, 3) := by decide +kernel
theorem dL_law_994 : decode cL_law 994 = .ok (.istore 6, 2) := by decide +kernel
theorem dL_law_996 : decode cL_law 996 = .ok (.aload_n 2, 1) := by decide +kernel
theorem dL_law_997 : decode cL_law 997 = .ok (.invokevirtual 78, 3) := by decide +kernel
theorem dL_law_1000 : decode cL_law 1000 = .ok (.iload 5, 2) := by decide +kernel
theorem dL_law_1002 : decode cL_law 1002 = .ok (.if_icmp .eq 5, 3) := by decide +kernel
theorem dL_law_1005 : decode cL_law 1005 = .ok (.iconst 0, 1) := by decide +kernel
theorem dL_law_1006 : decode cL_law 1006 = .ok (.ireturn, 1) := by decide +kernel
theorem dL_law_1007 : decode cL_law 1007 = .ok (.iload 5, 2) := by decide +kernel
theorem dL_law_1009 : decode cL_law 1009 = .ok (.ifCond .ne 15, 3) := by decide +kernel
theorem dL_law_1012 : decode cL_law 1012 = .ok (.aload_n 3, 1) := by decide +kernel
theorem dL_law_1013 : decode cL_law 1013 = .ok (.iconst 0, 1) := by decide +kernel
theorem dL_law_1014 : decode cL_law 1014 = .ok (.laload, 1) := by decide +kernel
theorem dL_law_1015 : decode cL_law 1015 = .ok (.iload 6, 2) := by decide +kernel
theorem dL_law_1017 : decode cL_law 1017 = .ok (.i2l, 1) := by decide +kernel
theorem dL_law_1018 : decode cL_law 1018 = .ok (.lcmp, 1) := by decide +kernel
theorem dL_law_1019 : decode cL_law 1019 = .ok (.ifCond .eq 5, 3) := by decide +kernel
theorem dL_law_1022 : decode cL_law 1022 = .ok (.iconst 0, 1) := by decide +kernel
theorem dL_law_1023 : decode cL_law 1023 = .ok (.ireturn, 1) := by decide +kernel
theorem dL_law_1024 : decode cL_law 1024 = .ok (.goto 359, 3) := by decide +kernel
theorem dL_law_1027 : decode cL_law 1027 = .ok (.aload_n 1, 1) := by decide +kernel
theorem dL_law_1028 : decode cL_law 1028 = .ok (.aload_n 0, 1) := by decide +kernel
theorem dL_law_1029 : decode cL_law 1029 = .ok (.iload 4, 2) := by decide +kernel
theorem dL_law_1031 : decode cL_law 1031 = .ok (.iconst 1, 1) := by decide +kernel
theorem dL_law_1032 : decode cL_law 1032 = .ok (.iadd, 1) := by decide +kernel
theorem dL_law_1033 : decode cL_law 1033 = .ok (.iaload, 1) := by decide +kernel
theorem dL_law_1034 : decode cL_law 1034 = .ok (.aload_n 0, 1) := by decide +kernel
theorem dL_law_1035 : decode cL_law 1035 = .ok (.iload 4, 2) := by decide +kernel
theorem dL_law_1037 : decode cL_law 1037 = .ok (.iconst 2, 1) := by decide +kernel
theorem dL_law_1038 : decode cL_law 1038 = .ok (.iadd, 1) := by decide +kernel
theorem dL_law_1039 : decode cL_law 1039 = .ok (.iaload, 1) := by decide +kernel
theorem dL_law_1040 : decode cL_law 1040 = .ok (.aload_n 3, 1) := by decide +kernel
theorem dL_law_1041 : decode cL_law 1041 = .ok (.invokestatic 134, 3) := by decide +kernel
theorem dL_law_1044 : decode cL_law 1044 = .ok (.istore 5, 2) := by decide +kernel
theorem dL_law_1046 : decode cL_law 1046 = .ok (.aload_n 2, 1) := by decide +kernel
theorem dL_law_1047 : decode cL_law 1047 = .ok (.aload_n 0, 1) := by decide +kernel
theorem dL_law_1048 : decode cL_law 1048 = .ok (.iload 4, 2) := by decide +kernel
theorem dL_law_1050 : decode cL_law 1050 = .ok (.iconst 1, 1) := by decide +kernel
theorem dL_law_1051 : decode cL_law 1051 = .ok (.iadd, 1) := by decide +kernel
theorem dL_law_1052 : decode cL_law 1052 = .ok (.iaload, 1) := by decide +kernel
theorem dL_law_1053 : decode cL_law 1053 = .ok (.aload_n 0, 1) := by decide +kernel
theorem dL_law_1054 : decode cL_law 1054 = .ok (.iload 4, 2) := by decide +kernel
theorem dL_law_1056 : decode cL_law 1056 = .ok (.iconst 2, 1) := by decide +kernel
theorem dL_law_1057 : decode cL_law 1057 = .ok (.iadd, 1) := by decide +kernel
theorem dL_law_1058 : decode cL_law 1058 = .ok (.iaload, 1) := by decide +kernel
theorem dL_law_1059 : decode cL_law 1059 = .ok (.invokevirtual 136, 3) := by decide +kernel
theorem dL_law_1062 : decode cL_law 1062 = .ok (.istore 6, 2) := by decide +kernel
theorem dL_law_1064 : decode cL_law 1064 = .ok (.aload_n 2, 1) := by decide +kernel
theorem dL_law_1065 : decode cL_law 1065 = .ok (.invokevirtual 78, 3) := by decide +kernel
theorem dL_law_1068 : decode cL_law 1068 = .ok (.iload 5, 2) := by decide +kernel
theorem dL_law_1070 : decode cL_law 1070 = .ok (.if_icmp .eq 5, 3) := by decide +kernel
theorem dL_law_1073 : decode cL_law 1073 = .ok (.iconst 0, 1) := by decide +kernel
theorem dL_law_1074 : decode cL_law 1074 = .ok (.ireturn, 1) := by decide +kernel
theorem dL_law_1075 : decode cL_law 1075 = .ok (.iload 5, 2) := by decide +kernel
theorem dL_law_1077 : decode cL_law 1077 = .ok (.ifCond .ne 15, 3) := by decide +kernel
theorem dL_law_1080 : decode cL_law 1080 = .ok (.aload_n 3, 1) := by decide +kernel
theorem dL_law_1081 : decode cL_law 1081 = .ok (.iconst 0, 1) := by decide +kernel
theorem dL_law_1082 : decode cL_law 1082 = .ok (.laload, 1) := by decide +kernel
theorem dL_law_1083 : decode cL_law 1083 = .ok (.iload 6, 2) := by decide +kernel
theorem dL_law_1085 : decode cL_law 1085 = .ok (.i2l, 1) := by decide +kernel
theorem dL_law_1086 : decode cL_law 1086 = .ok (.lcmp, 1) := by decide +kernel
theorem dL_law_1087 : decode cL_law 1087 = .ok (.ifCond .eq 5, 3) := by decide +kernel
theorem dL_law_1090 : decode cL_law 1090 = .ok (.iconst 0, 1) := by decide +kernel
theorem dL_law_1091 : decode cL_law 1091 = .ok (.ireturn, 1) := by decide +kernel
theorem dL_law_1092 : decode cL_law 1092 = .ok (.goto 291, 3) := by decide +kernel
theorem dL_law_1095 : decode cL_law 1095 = .ok (.aload_n 1, 1) := by decide +kernel
theorem dL_law_1096 : decode cL_law 1096 = .ok (.aload_n 0, 1) := by decide +kernel
theorem dL_law_1097 : decode cL_law 1097 = .ok (.iload 4, 2) := by decide +kernel
theorem dL_law_1099 : decode cL_law 1099 = .ok (.iconst 1, 1) := by decide +kernel
theorem dL_law_1100 : decode cL_law 1100 = .ok (.iadd, 1) := by decide +kernel
theorem dL_law_1101 : decode cL_law 1101 = .ok (.iaload, 1) := by decide +kernel
theorem dL_law_1102 : decode cL_law 1102 = .ok (.aload_n 0, 1) := by decide +kernel
theorem dL_law_1103 : decode cL_law 1103 = .ok (.iload 4, 2) := by decide +kernel
theorem dL_law_1105 : decode cL_law 1105 = .ok (.iconst 2, 1) := by decide +kernel
theorem dL_law_1106 : decode cL_law 1106 = .ok (.iadd, 1) := by decide +kernel
theorem dL_law_1107 : decode cL_law 1107 = .ok (.iaload, 1) := by decide +kernel
theorem dL_law_1108 : decode cL_law 1108 = .ok (.aload_n 0, 1) := by decide +kernel
theorem dL_law_1109 : decode cL_law 1109 = .ok (.iload 4, 2) := by decide +kernel
theorem dL_law_1111 : decode cL_law 1111 = .ok (.iconst 3, 1) := by decide +kernel
theorem dL_law_1112 : decode cL_law 1112 = .ok (.iadd, 1) := by decide +kernel
theorem dL_law_1113 : decode cL_law 1113 = .ok (.iaload, 1) := by decide +kernel
theorem dL_law_1114 : decode cL_law 1114 = .ok (.ifCond .eq 7, 3) := by decide +kernel
theorem dL_law_1117 : decode cL_law 1117 = .ok (.iconst 1, 1) := by decide +kernel
theorem dL_law_1118 : decode cL_law 1118 = .ok (.goto 4, 3) := by decide +kernel
theorem dL_law_1121 : decode cL_law 1121 = .ok (.iconst 0, 1) := by decide +kernel
theorem dL_law_1122 : decode cL_law 1122 = .ok (.aload_n 3, 1) := by decide +kernel
theorem dL_law_1123 : decode cL_law 1123 = .ok (.invokestatic 137, 3) := by decide +kernel
theorem dL_law_1126 : decode cL_law 1126 = .ok (.istore 5, 2) := by decide +kernel
theorem dL_law_1128 : decode cL_law 1128 = .ok (.aload_n 2, 1) := by decide +kernel
theorem dL_law_1129 : decode cL_law 1129 = .ok (.aload_n 0, 1) := by decide +kernel
theorem dL_law_1130 : decode cL_law 1130 = .ok (.iload 4, 2) := by decide +kernel
theorem dL_law_1132 : decode cL_law 1132 = .ok (.iconst 1, 1) := by decide +kernel
theorem dL_law_1133 : decode cL_law 1133 = .ok (.iadd, 1) := by decide +kernel
theorem dL_law_1134 : decode cL_law 1134 = .ok (.iaload, 1) := by decide +kernel
theorem dL_law_1135 : decode cL_law 1135 = .ok (.aload_n 0, 1) := by decide +kernel
theorem dL_law_1136 : decode cL_law 1136 = .ok (.iload 4, 2) := by decide +kernel
theorem dL_law_1138 : decode cL_law 1138 = .ok (.iconst 2, 1) := by decide +kernel
theorem dL_law_1139 : decode cL_law 1139 = .ok (.iadd, 1) := by decide +kernel
theorem dL_law_1140 : decode cL_law 1140 = .ok (.iaload, 1) := by decide +kernel
theorem dL_law_1141 : decode cL_law 1141 = .ok (.aload_n 0, 1) := by decide +kernel
theorem dL_law_1142 : decode cL_law 1142 = .ok (.iload 4, 2) := by decide +kernel
theorem dL_law_1144 : decode cL_law 1144 = .ok (.iconst 3, 1) := by decide +kernel
theorem dL_law_1145 : decode cL_law 1145 = .ok (.iadd, 1) := by decide +kernel
theorem dL_law_1146 : decode cL_law 1146 = .ok (.iaload, 1) := by decide +kernel
theorem dL_law_1147 : decode cL_law 1147 = .ok (.ifCond .eq 7, 3) := by decide +kernel
theorem dL_law_1150 : decode cL_law 1150 = .ok (.iconst 1, 1) := by decide +kernel
theorem dL_law_1151 : decode cL_law 1151 = .ok (.goto 4, 3) := by decide +kernel
theorem dL_law_1154 : decode cL_law 1154 = .ok (.iconst 0, 1) := by decide +kernel
theorem dL_law_1155 : decode cL_law 1155 = .ok (.invokevirtual 139, 3) := by decide +kernel
theorem dL_law_1158 : decode cL_law 1158 = .ok (.istore 6, 2) := by decide +kernel
theorem dL_law_1160 : decode cL_law 1160 = .ok (.aload_n 2, 1) := by decide +kernel
theorem dL_law_1161 : decode cL_law 1161 = .ok (.invokevirtual 78, 3) := by decide +kernel
theorem dL_law_1164 : decode cL_law 1164 = .ok (.iload 5, 2) := by decide +kernel
theorem dL_law_1166 : decode cL_law 1166 = .ok (.if_icmp .eq 5, 3) := by decide +kernel
theorem dL_law_1169 : decode cL_law 1169 = .ok (.iconst 0, 1) := by decide +kernel
theorem dL_law_1170 : decode cL_law 1170 = .ok (.ireturn, 1) := by decide +kernel
theorem dL_law_1171 : decode cL_law 1171 = .ok (.iload 5, 2) := by decide +kernel
theorem dL_law_1173 : decode cL_law 1173 = .ok (.ifCond .ne 15, 3) := by decide +kernel
theorem dL_law_1176 : decode cL_law 1176 = .ok (.aload_n 3, 1) := by decide +kernel
theorem dL_law_1177 : decode cL_law 1177 = .ok (.iconst 0, 1) := by decide +kernel
theorem dL_law_1178 : decode cL_law 1178 = .ok (.laload, 1) := by decide +kernel
theorem dL_law_1179 : decode cL_law 1179 = .ok (.iload 6, 2) := by decide +kernel
theorem dL_law_1181 : decode cL_law 1181 = .ok (.i2l, 1) := by decide +kernel
theorem dL_law_1182 : decode cL_law 1182 = .ok (.lcmp, 1) := by decide +kernel
theorem dL_law_1183 : decode cL_law 1183 = .ok (.ifCond .eq 5, 3) := by decide +kernel
theorem dL_law_1186 : decode cL_law 1186 = .ok (.iconst 0, 1) := by decide +kernel
theorem dL_law_1187 : decode cL_law 1187 = .ok (.ireturn, 1) := by decide +kernel
theorem dL_law_1188 : decode cL_law 1188 = .ok (.goto 195, 3) := by decide +kernel
theorem dL_law_1191 : decode cL_law 1191 = .ok (.aload_n 1, 1) := by decide +kernel
theorem dL_law_1192 : decode cL_law 1192 = .ok (.invokevirtual 140, 3) := by decide +kernel
theorem dL_law_1195 : decode cL_law 1195 = .ok (.aload_n 2, 1) := by decide +kernel
theorem dL_law_1196 : decode cL_law 1196 = .ok (.invokevirtual 143, 3) := by decide +kernel
theorem dL_law_1199 : decode cL_law 1199 = .ok (.if_icmp .eq 184, 3) := by decide +kernel
theorem dL_law_1202 : decode cL_law 1202 = .ok (.iconst 0, 1) := by decide +kernel
theorem dL_law_1203 : decode cL_law 1203 = .ok (.ireturn, 1) := by decide +kernel
theorem dL_law_1204 : decode cL_law 1204 = .ok (.aload_n 1, 1) := by decide +kernel
theorem dL_law_1205 : decode cL_law 1205 = .ok (.aload_n 0, 1) := by decide +kernel
theorem dL_law_1206 : decode cL_law 1206 = .ok (.iload 4, 2) := by decide +kernel
theorem dL_law_1208 : decode cL_law 1208 = .ok (.iconst 1, 1) := by decide +kernel
theorem dL_law_1209 : decode cL_law 1209 = .ok (.iadd, 1) := by decide +kernel
theorem dL_law_1210 : decode cL_law 1210 = .ok (.iaload, 1) := by decide +kernel
theorem dL_law_1211 : decode cL_law 1211 = .ok (.aload_n 3, 1) := by decide +kernel
theorem dL_law_1212 : decode cL_law 1212 = .ok (.invokestatic 144, 3) := by decide +kernel
theorem dL_law_1215 : decode cL_law 1215 = .ok (.istore 5, 2) := by decide +kernel
theorem dL_law_1217 : decode cL_law 1217 = .ok (.aload_n 2, 1) := by decide +kernel
theorem dL_law_1218 : decode cL_law 1218 = .ok (.aload_n 0, 1) := by decide +kernel
theorem dL_law_1219 : decode cL_law 1219 = .ok (.iload 4, 2) := by decide +kernel
theorem dL_law_1221 : decode cL_law 1221 = .ok (.iconst 1, 1) := by decide +kernel
theorem dL_law_1222 : decode cL_law 1222 = .ok (.iadd, 1) := by decide +kernel
theorem dL_law_1223 : decode cL_law 1223 = .ok (.iaload, 1) := by decide +kernel
theorem dL_law_1224 : decode cL_law 1224 = .ok (.invokevirtual 146, 3) := by decide +kernel
theorem dL_law_1227 : decode cL_law 1227 = .ok (.istore 6, 2) := by decide +kernel
theorem dL_law_1229 : decode cL_law 1229 = .ok (.aload_n 2, 1) := by decide +kernel
theorem dL_law_1230 : decode cL_law 1230 = .ok (.invokevirtual 78, 3) := by decide +kernel
theorem dL_law_1233 : decode cL_law 1233 = .ok (.iload 5, 2) := by decide +kernel
theorem dL_law_1235 : decode cL_law 1235 = .ok (.if_icmp .eq 5, 3) := by decide +kernel
theorem dL_law_1238 : decode cL_law 1238 = .ok (.iconst 0, 1) := by decide +kernel
theorem dL_law_1239 : decode cL_law 1239 = .ok (.ireturn, 1) := by decide +kernel
theorem dL_law_1240 : decode cL_law 1240 = .ok (.iload 5, 2) := by decide +kernel
theorem dL_law_1242 : decode cL_law 1242 = .ok (.ifCond .ne 15, 3) := by decide +kernel
theorem dL_law_1245 : decode cL_law 1245 = .ok (.aload_n 3, 1) := by decide +kernel
theorem dL_law_1246 : decode cL_law 1246 = .ok (.iconst 0, 1) := by decide +kernel
theorem dL_law_1247 : decode cL_law 1247 = .ok (.laload, 1) := by decide +kernel
theorem dL_law_1248 : decode cL_law 1248 = .ok (.iload 6, 2) := by decide +kernel
theorem dL_law_1250 : decode cL_law 1250 = .ok (.i2l, 1) := by decide +kernel
theorem dL_law_1251 : decode cL_law 1251 = .ok (.lcmp, 1) := by decide +kernel
theorem dL_law_1252 : decode cL_law 1252 = .ok (.ifCond .eq 5, 3) := by decide +kernel
theorem dL_law_1255 : decode cL_law 1255 = .ok (.iconst 0, 1) := by decide +kernel
theorem dL_law_1256 : decode cL_law 1256 = .ok (.ireturn, 1) := by decide +kernel
theorem dL_law_1257 : decode cL_law 1257 = .ok (.goto 126, 3) := by decide +kernel
theorem dL_law_1260 : decode cL_law 1260 = .ok (.aload_n 1, 1) := by decide +kernel
theorem dL_law_1261 : decode cL_law 1261 = .ok (.aload_n 0, 1) := by decide +kernel
theorem dL_law_1262 : decode cL_law 1262 = .ok (.iload 4, 2) := by decide +kernel
theorem dL_law_1264 : decode cL_law 1264 = .ok (.iconst 1, 1) := by decide +kernel
theorem dL_law_1265 : decode cL_law 1265 = .ok (.iadd, 1) := by decide +kernel
theorem dL_law_1266 : decode cL_law 1266 = .ok (.iaload, 1) := by decide +kernel
theorem dL_law_1267 : decode cL_law 1267 = .ok (.aload_n 0, 1) := by decide +kernel
theorem dL_law_1268 : decode cL_law 1268 = .ok (.iload 4, 2) := by decide +kernel
theorem dL_law_1270 : decode cL_law 1270 = .ok (.iconst 2, 1) := by decide +kernel
theorem dL_law_1271 : decode cL_law 1271 = .ok (.iadd, 1) := by decide +kernel
theorem dL_law_1272 : decode cL_law 1272 = .ok (.iaload, 1) := by decide +kernel
theorem dL_law_1273 : decode cL_law 1273 = .ok (.aload_n 3, 1) := by decide +kernel
theorem dL_law_1274 : decode cL_law 1274 = .ok (.invokestatic 147, 3) := by decide +kernel
theorem dL_law_1277 : decode cL_law 1277 = .ok (.istore 5, 2) := by decide +kernel
theorem dL_law_1279 : decode cL_law 1279 = .ok (.aload_n 2, 1) := by decide +kernel
theorem dL_law_1280 : decode cL_law 1280 = .ok (.aload_n 0, 1) := by decide +kernel
theorem dL_law_1281 : decode cL_law 1281 = .ok (.iload 4, 2) := by decide +kernel
theorem dL_law_1283 : decode cL_law 1283 = .ok (.iconst 1, 1) := by decide +kernel
theorem dL_law_1284 : decode cL_law 1284 = .ok (.iadd, 1) := by decide +kernel
theorem dL_law_1285 : decode cL_law 1285 = .ok (.iaload, 1) := by decide +kernel
theorem dL_law_1286 : decode cL_law 1286 = .ok (.aload_n 0, 1) := by decide +kernel
theorem dL_law_1287 : decode cL_law 1287 = .ok (.iload 4, 2) := by decide +kernel
theorem dL_law_1289 : decode cL_law 1289 = .ok (.iconst 2, 1) := by decide +kernel
theorem dL_law_1290 : decode cL_law 1290 = .ok (.iadd, 1) := by decide +kernel
theorem dL_law_1291 : decode cL_law 1291 = .ok (.iaload, 1) := by decide +kernel
theorem dL_law_1292 : decode cL_law 1292 = .ok (.invokevirtual 149, 3) := by decide +kernel
theorem dL_law_1295 : decode cL_law 1295 = .ok (.istore 6, 2) := by decide +kernel
theorem dL_law_1297 : decode cL_law 1297 = .ok (.aload_n 2, 1) := by decide +kernel
theorem dL_law_1298 : decode cL_law 1298 = .ok (.invokevirtual 78, 3) := by decide +kernel
theorem dL_law_1301 : decode cL_law 1301 = .ok (.iload 5, 2) := by decide +kernel
theorem dL_law_1303 : decode cL_law 1303 = .ok (.if_icmp .eq 5, 3) := by decide +kernel
theorem dL_law_1306 : decode cL_law 1306 = .ok (.iconst 0, 1) := by decide +kernel
theorem dL_law_1307 : decode cL_law 1307 = .ok (.ireturn, 1) := by decide +kernel
theorem dL_law_1308 : decode cL_law 1308 = .ok (.iload 5, 2) := by decide +kernel
theorem dL_law_1310 : decode cL_law 1310 = .ok (.ifCond .ne 15, 3) := by decide +kernel
theorem dL_law_1313 : decode cL_law 1313 = .ok (.aload_n 3, 1) := by decide +kernel
theorem dL_law_1314 : decode cL_law 1314 = .ok (.iconst 0, 1) := by decide +kernel
theorem dL_law_1315 : decode cL_law 1315 = .ok (.laload, 1) := by decide +kernel
theorem dL_law_1316 : decode cL_law 1316 = .ok (.iload 6, 2) := by decide +kernel
theorem dL_law_1318 : decode cL_law 1318 = .ok (.i2l, 1) := by decide +kernel
theorem dL_law_1319 : decode cL_law 1319 = .ok (.lcmp, 1) := by decide +kernel
theorem dL_law_1320 : decode cL_law 1320 = .ok (.ifCond .eq 5, 3) := by decide +kernel
theorem dL_law_1323 : decode cL_law 1323 = .ok (.iconst 0, 1) := by decide +kernel
theorem dL_law_1324 : decode cL_law 1324 = .ok (.ireturn, 1) := by decide +kernel
theorem dL_law_1325 : decode cL_law 1325 = .ok (.goto 58, 3) := by decide +kernel
theorem dL_law_1328 : decode cL_law 1328 = .ok (.aload_n 1, 1) := by decide +kernel
theorem dL_law_1329 : decode cL_law 1329 = .ok (.invokevirtual 150, 3) := by decide +kernel
theorem dL_law_1332 : decode cL_law 1332 = .ok (.dstore 5, 2) := by decide +kernel
theorem dL_law_1334 : decode cL_law 1334 = .ok (.aload_n 2, 1) := by decide +kernel
theorem dL_law_1335 : decode cL_law 1335 = .ok (.invokevirtual 154, 3) := by decide +kernel
theorem dL_law_1338 : decode cL_law 1338 = .ok (.dstore 7, 2) := by decide +kernel
theorem dL_law_1340 : decode cL_law 1340 = .ok (.dload 5, 2) := by decide +kernel
theorem dL_law_1342 : decode cL_law 1342 = .ok (.dload 7, 2) := by decide +kernel
theorem dL_law_1344 : decode cL_law 1344 = .ok (.dcmp .l, 1) := by decide +kernel
theorem dL_law_1345 : decode cL_law 1345 = .ok (.ifCond .eq 21, 3) := by decide +kernel
theorem dL_law_1348 : decode cL_law 1348 = .ok (.dload 5, 2) := by decide +kernel
theorem dL_law_1350 : decode cL_law 1350 = .ok (.dload 5, 2) := by decide +kernel
theorem dL_law_1352 : decode cL_law 1352 = .ok (.dcmp .l, 1) := by decide +kernel
theorem dL_law_1353 : decode cL_law 1353 = .ok (.ifCond .eq 11, 3) := by decide +kernel
theorem dL_law_1356 : decode cL_law 1356 = .ok (.dload 7, 2) := by decide +kernel
theorem dL_law_1358 : decode cL_law 1358 = .ok (.dload 7, 2) := by decide +kernel
theorem dL_law_1360 : decode cL_law 1360 = .ok (.dcmp .l, 1) := by decide +kernel
theorem dL_law_1361 : decode cL_law 1361 = .ok (.ifCond .ne 5, 3) := by decide +kernel
theorem dL_law_1364 : decode cL_law 1364 = .ok (.iconst 0, 1) := by decide +kernel
theorem dL_law_1365 : decode cL_law 1365 = .ok (.ireturn, 1) := by decide +kernel
theorem dL_law_1366 : decode cL_law 1366 = .ok (.goto 17, 3) := by decide +kernel
theorem dL_law_1369 : decode cL_law 1369 = .ok (.aload_n 1, 1) := by decide +kernel
theorem dL_law_1370 : decode cL_law 1370 = .ok (.invokevirtual 155, 3) := by decide +kernel
theorem dL_law_1373 : decode cL_law 1373 = .ok (.aload_n 2, 1) := by decide +kernel
theorem dL_law_1374 : decode cL_law 1374 = .ok (.invokevirtual 159, 3) := by decide +kernel
theorem dL_law_1377 : decode cL_law 1377 = .ok (.lcmp, 1) := by decide +kernel
theorem dL_law_1378 : decode cL_law 1378 = .ok (.ifCond .eq 5, 3) := by decide +kernel
theorem dL_law_1381 : decode cL_law 1381 = .ok (.iconst 0, 1) := by decide +kernel
theorem dL_law_1382 : decode cL_law 1382 = .ok (.ireturn, 1) := by decide +kernel
theorem dL_law_1383 : decode cL_law 1383 = .ok (.iinc 4 6, 3) := by decide +kernel
theorem dL_law_1386 : decode cL_law 1386 = .ok (.goto (-1363), 3) := by decide +kernel
theorem dL_law_1389 : decode cL_law 1389 = .ok (.iconst 1, 1) := by decide +kernel
theorem dL_law_1390 : decode cL_law 1390 = .ok (.ireturn, 1) := by decide +kernel
