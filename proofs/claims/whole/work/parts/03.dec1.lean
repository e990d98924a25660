theorem dX6_readValue_361 : decode cX6_readValue 361 = .ok (.iload_n 1, 1) := by decide +kernel
theorem dX6_readValue_362 : decode cX6_readValue 362 = .ok (.iconst 1, 1) := by decide +kernel
theorem dX6_readValue_363 : decode cX6_readValue 363 = .ok (.iadd, 1) := by decide +kernel
theorem dX6_readValue_364 : decode cX6_readValue 364 = .ok (.invokevirtual 186, 3) := by decide +kernel
theorem dX6_readValue_367 : decode cX6_readValue 367 = .ok (.ifCond .eq 20, 3) := by decide +kernel
theorem dX6_readValue_370 : decode cX6_readValue 370 = .ok (.aload_n 0, 1) := by decide +kernel
theorem dX6_readValue_371 : decode cX6_readValue 371 = .ok (.getfield 21, 3) := by decide +kernel
theorem dX6_readValue_374 : decode cX6_readValue 374 = .ok (.getstatic 298, 3) := by decide +kernel
theorem dX6_readValue_377 : decode cX6_readValue 377 = .ok (.invokevirtual 77, 3) := by decide +kernel
theorem dX6_readValue_380 : decode cX6_readValue 380 = .ok (.ifCond .eq 7, 3) := by decide +kernel
theorem dX6_readValue_383 : decode cX6_readValue 383 = .ok (.iconst 1, 1) := by decide +kernel
theorem dX6_readValue_384 : decode cX6_readValue 384 = .ok (.goto 4, 3) := by decide +kernel
theorem dX6_readValue_387 : decode cX6_readValue 387 = .ok (.iconst 0, 1) := by decide +kernel
theorem dX6_readValue_388 : decode cX6_readValue 388 = .ok (.ireturn, 1) := by decide +kernel
theorem dX7_init_0 : decode cX7_init 0 = .ok (.aload_n 0, 1) := by decide +kernel
theorem dX7_init_1 : decode cX7_init 1 = .ok (.invokespecial 3, 3) := by decide +kernel
theorem dX7_init_4 : decode cX7_init 4 = .ok (.aload_n 0, 1) := by decide +kernel
theorem dX7_init_5 : decode cX7_init 5 = .ok (.sipush 401, 3) := by decide +kernel
theorem dX7_init_8 : decode cX7_init 8 = .ok (.anewarray 9, 3) := by decide +kernel
theorem dX7_init_11 : decode cX7_init 11 = .ok (.putfield 11, 3) := by decide +kernel
theorem dX7_init_14 : decode cX7_init 14 = .ok (.aload_n 0, 1) := by decide +kernel
theorem dX7_init_15 : decode cX7_init 15 = .ok (.sipush 401, 3) := by decide +kernel
theorem dX7_init_18 : decode cX7_init 18 = .ok (.newarray .int, 2) := by decide +kernel
theorem dX7_init_20 : decode cX7_init 20 = .ok (.putfield 15, 3) := by decide +kernel
theorem dX7_init_23 : decode cX7_init 23 = .ok (.aload_n 0, 1) := by decide +kernel
theorem dX7_init_24 : decode cX7_init 24 = .ok (.sipush 401, 3) := by decide +kernel
theorem dX7_init_27 : decode cX7_init 27 = .ok (.newarray .int, 2) := by decide +kernel
theorem dX7_init_29 : decode cX7_init 29 = .ok (.putfield 19, 3) := by decide +kernel
theorem dX7_init_32 : decode cX7_init 32 = .ok (.aload_n 0, 1) := by decide +kernel
theorem dX7_init_33 : decode cX7_init 33 = .ok (.sipush 401, 3) := by decide +kernel
theorem dX7_init_36 : decode cX7_init 36 = .ok (.newarray .long, 2) := by decide +kernel
theorem dX7_init_38 : decode cX7_init 38 = .ok (.putfield 22, 3) := by decide +kernel
theorem dX7_init_41 : decode cX7_init 41 = .ok (.aload_n 0, 1) := by decide +kernel
theorem dX7_init_42 : decode cX7_init 42 = .ok (.sipush 401, 3) := by decide +kernel
theorem dX7_init_45 : decode cX7_init 45 = .ok (.newarray .int, 2) := by decide +kernel
theorem dX7_init_47 : decode cX7_init 47 = .ok (.putfield 26, 3) := by decide +kernel
theorem dX7_init_50 : decode cX7_init 50 = .ok (.aload_n 0, 1) := by decide +kernel
theorem dX7_init_51 : decode cX7_init 51 = .ok (.aload_n 1, 1) := by decide +kernel
theorem dX7_init_52 : decode cX7_init 52 = .ok (.putfield 29, 3) := by decide +kernel
theorem dX7_init_55 : decode cX7_init 55 = .ok (.return_, 1) := by decide +kernel
theorem dX7_scan_0 : decode cX7_scan 0 = .ok (.aload_n 0, 1) := by decide +kernel
theorem dX7_scan_1 : decode cX7_scan 1 = .ok (.iconst 0, 1) := by decide +kernel
theorem dX7_scan_2 : decode cX7_scan 2 = .ok (.putfield 33, 3) := by decide +kernel
theorem dX7_scan_5 : decode cX7_scan 5 = .ok (.aload_n 0, 1) := by decide +kernel
theorem dX7_scan_6 : decode cX7_scan 6 = .ok (.iconst 0, 1) := by decide +kernel
theorem dX7_scan_7 : decode cX7_scan 7 = .ok (.putfield 37, 3) := by decide +kernel
theorem dX7_scan_10 : decode cX7_scan 10 = .ok (.iconst 1, 1) := by decide +kernel
theorem dX7_scan_11 : decode cX7_scan 11 = .ok (.istore_n 1, 1) := by decide +kernel
theorem dX7_scan_12 : decode cX7_scan 12 = .ok (.aload_n 0, 1) := by decide +kernel
theorem dX7_scan_13 : decode cX7_scan 13 = .ok (.iconst 0, 1) := by decide +kernel
theorem dX7_scan_14 : decode cX7_scan 14 = .ok (.putfield 40, 3) := by decide +kernel
theorem dX7_scan_17 : decode cX7_scan 17 = .ok (.aload_n 0, 1) := by decide +kernel
theorem dX7_scan_18 : decode cX7_scan 18 = .ok (.getfield 40, 3) := by decide +kernel
theorem dX7_scan_21 : decode cX7_scan 21 = .ok (.sipush 401, 3) := by decide +kernel
theorem dX7_scan_24 : decode cX7_scan 24 = .ok (.if_icmp .ge 136, 3) := by decide +kernel
theorem dX7_scan_27 : decode cX7_scan 27 = .ok (.iload_n 1, 1) := by decide +kernel
theorem dX7_scan_28 : decode cX7_scan 28 = .ok (.ifCond .eq 132, 3) := by decide +kernel
theorem dX7_scan_31 : decode cX7_scan 31 = .ok (.aload_n 0, 1) := by decide +kernel
theorem dX7_scan_32 : decode cX7_scan 32 = .ok (.invokevirtual 43, 3) := by decide +kernel
theorem dX7_scan_35 : decode cX7_scan 35 = .ok (.aload_n 0, 1) := by decide +kernel
theorem dX7_scan_36 : decode cX7_scan 36 = .ok (.getfield 37, 3) := by decide +kernel
theorem dX7_scan_39 : decode cX7_scan 39 = .ok (.istore_n 2, 1) := by decide +kernel
theorem dX7_scan_40 : decode cX7_scan 40 = .ok (.aload_n 0, 1) := by decide +kernel
theorem dX7_scan_41 : decode cX7_scan 41 = .ok (.invokevirtual 46, 3) := by decide +kernel
theorem dX7_scan_44 : decode cX7_scan 44 = .ok (.astore_n 3, 1) := by decide +kernel
theorem dX7_scan_45 : decode cX7_scan 45 = .ok (.aload_n 0, 1) := by decide +kernel
theorem dX7_scan_46 : decode cX7_scan 46 = .ok (.getfield 40, 3) := by decide +kernel
theorem dX7_scan_49 : decode cX7_scan 49 = .ok (.sipush 400, 3) := by decide +kernel
theorem dX7_scan_52 : decode cX7_scan 52 = .ok (.if_icmp .ne 14, 3) := by decide +kernel
theorem dX7_scan_55 : decode cX7_scan 55 = .ok (.aload_n 3, 1) := by decide +kernel
theorem dX7_scan_56 : decode cX7_scan 56 = .ok (.getstatic 50, 3) := by decide +kernel
theorem dX7_scan_59 : decode cX7_scan 59 = .ok (.if_acmp .eq 7, 3) := by decide +kernel
theorem dX7_scan_62 : decode cX7_scan 62 = .ok (.getstatic 54, 3) := by decide +kernel
theorem dX7_scan_65 : decode cX7_scan 65 = .ok (.astore_n 3, 1) := by decide +kernel
theorem dX7_scan_66 : decode cX7_scan 66 = .ok (.aload_n 0, 1) := by decide +kernel
theorem dX7_scan_67 : decode cX7_scan 67 = .ok (.getfield 11, 3) := by decide +kernel
theorem dX7_scan_70 : decode cX7_scan 70 = .ok (.aload_n 0, 1) := by decide +kernel
theorem dX7_scan_71 : decode cX7_scan 71 = .ok (.getfield 40, 3) := by decide +kernel
theorem dX7_scan_74 : decode cX7_scan 74 = .ok (.aload_n 3, 1) := by decide +kernel
theorem dX7_scan_75 : decode cX7_scan 75 = .ok (.aastore, 1) := by decide +kernel
theorem dX7_scan_76 : decode cX7_scan 76 = .ok (.aload_n 0, 1) := by decide +kernel
theorem dX7_scan_77 : decode cX7_scan 77 = .ok (.getfield 15, 3) := by decide +kernel
theorem dX7_scan_80 : decode cX7_scan 80 = .ok (.aload_n 0, 1) := by decide +kernel
theorem dX7_scan_81 : decode cX7_scan 81 = .ok (.getfield 40, 3) := by decide +kernel
theorem dX7_scan_84 : decode cX7_scan 84 = .ok (.iload_n 2, 1) := by decide +kernel
theorem dX7_scan_85 : decode cX7_scan 85 = .ok (.iastore, 1) := by decide +kernel
theorem dX7_scan_86 : decode cX7_scan 86 = .ok (.aload_n 0, 1) := by decide +kernel
theorem dX7_scan_87 : decode cX7_scan 87 = .ok (.getfield 19, 3) := by decide +kernel
theorem dX7_scan_90 : decode cX7_scan 90 = .ok (.aload_n 0, 1) := by decide +kernel
theorem dX7_scan_91 : decode cX7_scan 91 = .ok (.getfield 40, 3) := by decide +kernel
theorem dX7_scan_94 : decode cX7_scan 94 = .ok (.aload_n 0, 1) := by decide +kernel
theorem dX7_scan_95 : decode cX7_scan 95 = .ok (.getfield 37, 3) := by decide +kernel
theorem dX7_scan_98 : decode cX7_scan 98 = .ok (.iload_n 2, 1) := by decide +kernel
theorem dX7_scan_99 : decode cX7_scan 99 = .ok (.isub, 1) := by decide +kernel
theorem dX7_scan_100 : decode cX7_scan 100 = .ok (.iastore, 1) := by decide +kernel
theorem dX7_scan_101 : decode cX7_scan 101 = .ok (.aload_n 0, 1) := by decide +kernel
theorem dX7_scan_102 : decode cX7_scan 102 = .ok (.getfield 22, 3) := by decide +kernel
theorem dX7_scan_105 : decode cX7_scan 105 = .ok (.aload_n 0, 1) := by decide +kernel
theorem dX7_scan_106 : decode cX7_scan 106 = .ok (.getfield 40, 3) := by decide +kernel
theorem dX7_scan_109 : decode cX7_scan 109 = .ok (.aload_n 0, 1) := by decide +kernel
theorem dX7_scan_110 : decode cX7_scan 110 = .ok (.getfield 57, 3) := by decide +kernel
theorem dX7_scan_113 : decode cX7_scan 113 = .ok (.lastore, 1) := by decide +kernel
theorem dX7_scan_114 : decode cX7_scan 114 = .ok (.aload_n 0, 1) := by decide +kernel
theorem dX7_scan_115 : decode cX7_scan 115 = .ok (.getfield 26, 3) := by decide +kernel
theorem dX7_scan_118 : decode cX7_scan 118 = .ok (.aload_n 0, 1) := by decide +kernel
theorem dX7_scan_119 : decode cX7_scan 119 = .ok (.getfield 40, 3) := by decide +kernel
theorem dX7_scan_122 : decode cX7_scan 122 = .ok (.aload_n 0, 1) := by decide +kernel
theorem dX7_scan_123 : decode cX7_scan 123 = .ok (.getfield 61, 3) := by decide +kernel
theorem dX7_scan_126 : decode cX7_scan 126 = .ok (.iastore, 1) := by decide +kernel
theorem dX7_scan_127 : decode cX7_scan 127 = .ok (.aload_n 3, 1) := by decide +kernel
theorem dX7_scan_128 : decode cX7_scan 128 = .ok (.getstatic 50, 3) := by decide +kernel
theorem dX7_scan_131 : decode cX7_scan 131 = .ok (.if_acmp .eq 14, 3) := by decide +kernel
theorem dX7_scan_134 : decode cX7_scan 134 = .ok (.aload_n 3, 1) := by decide +kernel
theorem dX7_scan_135 : decode cX7_scan 135 = .ok (.getstatic 54, 3) := by decide +kernel
theorem dX7_scan_138 : decode cX7_scan 138 = .ok (.if_acmp .eq 7, 3) := by decide +kernel
theorem dX7_scan_141 : decode cX7_scan 141 = .ok (.iconst 1, 1) := by decide +kernel
theorem dX7_scan_142 : decode cX7_scan 142 = .ok (.goto 4, 3) := by decide +kernel
theorem dX7_scan_145 : decode cX7_scan 145 = .ok (.iconst 0, 1) := by decide +kernel
theorem dX7_scan_146 : decode cX7_scan 146 = .ok (.istore_n 1, 1) := by decide +kernel
theorem dX7_scan_147 : decode cX7_scan 147 = .ok (.aload_n 0, 1) := by decide +kernel
theorem dX7_scan_148 : decode cX7_scan 148 = .ok (.dup, 1) := by decide +kernel
theorem dX7_scan_149 : decode cX7_scan 149 = .ok (.getfield 40, 3) := by decide +kernel
theorem dX7_scan_152 : decode cX7_scan 152 = .ok (.iconst 1, 1) := by decide +kernel
theorem dX7_scan_153 : decode cX7_scan 153 = .ok (.iadd, 1) := by decide +kernel
theorem dX7_scan_154 : decode cX7_scan 154 = .ok (.putfield 40, 3) := by decide +kernel
theorem dX7_scan_157 : decode cX7_scan 157 = .ok (.goto (-140), 3) := by decide +kernel
theorem dX7_scan_160 : decode cX7_scan 160 = .ok (.return_, 1) := by decide +kernel
theorem dX7_isAt_0 : decode cX7_isAt 0 = .ok (.aload_n 0, 1) := by decide +kernel
theorem dX7_isAt_1 : decode cX7_isAt 1 = .ok (.getfield 33, 3) := by decide +kernel
theorem dX7_isAt_4 : decode cX7_isAt 4 = .ok (.aload_n 0, 1) := by decide +kernel
theorem dX7_isAt_5 : decode cX7_isAt 5 = .ok (.getfield 40, 3) := by decide +kernel
theorem dX7_isAt_8 : decode cX7_isAt 8 = .ok (.if_icmp .ge 20, 3) := by decide +kernel
theorem dX7_isAt_11 : decode cX7_isAt 11 = .ok (.aload_n 0, 1) := by decide +kernel
theorem dX7_isAt_12 : decode cX7_isAt 12 = .ok (.getfield 11, 3) := by decide +kernel
theorem dX7_isAt_15 : decode cX7_isAt 15 = .ok (.aload_n 0, 1) := by decide +kernel
theorem dX7_isAt_16 : decode cX7_isAt 16 = .ok (.getfield 33, 3) := by decide +kernel
theorem dX7_isAt_19 : decode cX7_isAt 19 = .ok (.aaload, 1) := by decide +kernel
theorem dX7_isAt_20 : decode cX7_isAt 20 = .ok (.aload_n 1, 1) := by decide +kernel
theorem dX7_isAt_21 : decode cX7_isAt 21 = .ok (.if_acmp .ne 7, 3) := by decide +kernel
theorem dX7_isAt_24 : decode cX7_isAt 24 = .ok (.iconst 1, 1) := by decide +kernel
theorem dX7_isAt_25 : decode cX7_isAt 25 = .ok (.goto 4, 3) := by decide +kernel
theorem dX7_isAt_28 : decode cX7_isAt 28 = .ok (.iconst 0, 1) := by decide +kernel
theorem dX7_isAt_29 : decode cX7_isAt 29 = .ok (.ireturn, 1) := by decide +kernel
theorem dX7_kind_0 : decode cX7_kind 0 = .ok (.aload_n 0, 1) := by decide +kernel
theorem dX7_kind_1 : decode cX7_kind 1 = .ok (.getfield 33, 3) := by decide +kernel
theorem dX7_kind_4 : decode cX7_kind 4 = .ok (.aload_n 0, 1) := by decide +kernel
theorem dX7_kind_5 : decode cX7_kind 5 = .ok (.getfield 40, 3) := by decide +kernel
theorem dX7_kind_8 : decode cX7_kind 8 = .ok (.if_icmp .ge 15, 3) := by decide +kernel
theorem dX7_kind_11 : decode cX7_kind 11 = .ok (.aload_n 0, 1) := by decide +kernel
theorem dX7_kind_12 : decode cX7_kind 12 = .ok (.getfield 11, 3) := by decide +kernel
theorem dX7_kind_15 : decode cX7_kind 15 = .ok (.aload_n 0, 1) := by decide +kernel
theorem dX7_kind_16 : decode cX7_kind 16 = .ok (.getfield 33, 3) := by decide +kernel
theorem dX7_kind_19 : decode cX7_kind 19 = .ok (.aaload, 1) := by decide +kernel
theorem dX7_kind_20 : decode cX7_kind 20 = .ok (.goto 6, 3) := by decide +kernel
theorem dX7_kind_23 : decode cX7_kind 23 = .ok (.getstatic 54, 3) := by decide +kernel
theorem dX7_kind_26 : decode cX7_kind 26 = .ok (.areturn, 1) := by decide +kernel
theorem dX7_take_0 : decode cX7_take 0 = .ok (.aload_n 0, 1) := by decide +kernel
theorem dX7_take_1 : decode cX7_take 1 = .ok (.getfield 33, 3) := by decide +kernel
theorem dX7_take_4 : decode cX7_take 4 = .ok (.aload_n 0, 1) := by decide +kernel
theorem dX7_take_5 : decode cX7_take 5 = .ok (.getfield 40, 3) := by decide +kernel
theorem dX7_take_8 : decode cX7_take 8 = .ok (.if_icmp .ge 16, 3) := by decide +kernel
theorem dX7_take_11 : decode cX7_take 11 = .ok (.aload_n 0, 1) := by decide +kernel
theorem dX7_take_12 : decode cX7_take 12 = .ok (.getfield 11, 3) := by decide +kernel
theorem dX7_take_15 : decode cX7_take 15 = .ok (.aload_n 0, 1) := by decide +kernel
theorem dX7_take_16 : decode cX7_take 16 = .ok (.getfield 33, 3) := by decide +kernel
theorem dX7_take_19 : decode cX7_take 19 = .ok (.aaload, 1) := by decide +kernel
theorem dX7_take_20 : decode cX7_take 20 = .ok (.aload_n 1, 1) := by decide +kernel
theorem dX7_take_21 : decode cX7_take 21 = .ok (.if_acmp .eq 5, 3) := by decide +kernel
theorem dX7_take_24 : decode cX7_take 24 = .ok (.iconst 0, 1) := by decide +kernel
theorem dX7_take_25 : decode cX7_take 25 = .ok (.ireturn, 1) := by decide +kernel
theorem dX7_take_26 : decode cX7_take 26 = .ok (.aload_n 0, 1) := by decide +kernel
theorem dX7_take_27 : decode cX7_take 27 = .ok (.dup, 1) := by decide +kernel
theorem dX7_take_28 : decode cX7_take 28 = .ok (.getfield 33, 3) := by decide +kernel
theorem dX7_take_31 : decode cX7_take 31 = .ok (.iconst 1, 1) := by decide +kernel
theorem dX7_take_32 : decode cX7_take 32 = .ok (.iadd, 1) := by decide +kernel
theorem dX7_take_33 : decode cX7_take 33 = .ok (.putfield 33, 3) := by decide +kernel
theorem dX7_take_36 : decode cX7_take 36 = .ok (.iconst 1, 1) := by decide +kernel
theorem dX7_take_37 : decode cX7_take 37 = .ok (.ireturn, 1) := by decide +kernel
theorem dX7_takeAny_0 : decode cX7_takeAny 0 = .ok (.aload_n 0, 1) := by decide +kernel
theorem dX7_takeAny_1 : decode cX7_takeAny 1 = .ok (.getfield 33, 3) := by decide +kernel
theorem dX7_takeAny_4 : decode cX7_takeAny 4 = .ok (.aload_n 0, 1) := by decide +kernel
theorem dX7_takeAny_5 : decode cX7_takeAny 5 = .ok (.getfield 40, 3) := by decide +kernel
theorem dX7_takeAny_8 : decode cX7_takeAny 8 = .ok (.if_icmp .lt 5, 3) := by decide +kernel
theorem dX7_takeAny_11 : decode cX7_takeAny 11 = .ok (.iconst 0, 1) := by decide +kernel
theorem dX7_takeAny_12 : decode cX7_takeAny 12 = .ok (.ireturn, 1) := by decide +kernel
theorem dX7_takeAny_13 : decode cX7_takeAny 13 = .ok (.aload_n 0, 1) := by decide +kernel
theorem dX7_takeAny_14 : decode cX7_takeAny 14 = .ok (.dup, 1) := by decide +kernel
theorem dX7_takeAny_15 : decode cX7_takeAny 15 = .ok (.getfield 33, 3) := by decide +kernel
theorem dX7_takeAny_18 : decode cX7_takeAny 18 = .ok (.iconst 1, 1) := by decide +kernel
theorem dX7_takeAny_19 : decode cX7_takeAny 19 = .ok (.iadd, 1) := by decide +kernel
theorem dX7_takeAny_20 : decode cX7_takeAny 20 = .ok (.putfield 33, 3) := by decide +kernel
theorem dX7_takeAny_23 : decode cX7_takeAny 23 = .ok (.iconst 1, 1) := by decide +kernel
theorem dX7_takeAny_24 : decode cX7_takeAny 24 = .ok (.ireturn, 1) := by decide +kernel
theorem dX7_start_0 : decode cX7_start 0 = .ok (.aload_n 0, 1) := by decide +kernel
theorem dX7_start_1 : decode cX7_start 1 = .ok (.getfield 33, 3) := by decide +kernel
theorem dX7_start_4 : decode cX7_start 4 = .ok (.aload_n 0, 1) := by decide +kernel
theorem dX7_start_5 : decode cX7_start 5 = .ok (.getfield 40, 3) := by decide +kernel
theorem dX7_start_8 : decode cX7_start 8 = .ok (.if_icmp .ge 15, 3) := by decide +kernel
theorem dX7_start_11 : decode cX7_start 11 = .ok (.aload_n 0, 1) := by decide +kernel
theorem dX7_start_12 : decode cX7_start 12 = .ok (.getfield 15, 3) := by decide +kernel
theorem dX7_start_15 : decode cX7_start 15 = .ok (.aload_n 0, 1) := by decide +kernel
theorem dX7_start_16 : decode cX7_start 16 = .ok (.getfield 33, 3) := by decide +kernel
theorem dX7_start_19 : decode cX7_start 19 = .ok (.iaload, 1) := by decide +kernel
theorem dX7_start_20 : decode cX7_start 20 = .ok (.goto 4, 3) := by decide +kernel
theorem dX7_start_23 : decode cX7_start 23 = .ok (.iconst 0, 1) := by decide +kernel
theorem dX7_start_24 : decode cX7_start 24 = .ok (.ireturn, 1) := by decide +kernel
theorem dX7_length_0 : decode cX7_length 0 = .ok (.aload_n 0, 1) := by decide +kernel
theorem dX7_length_1 : decode cX7_length 1 = .ok (.getfield 33, 3) := by decide +kernel
theorem dX7_length_4 : decode cX7_length 4 = .ok (.aload_n 0, 1) := by decide +kernel
theorem dX7_length_5 : decode cX7_length 5 = .ok (.getfield 40, 3) := by decide +kernel
theorem dX7_length_8 : decode cX7_length 8 = .ok (.if_icmp .ge 15, 3) := by decide +kernel
theorem dX7_length_11 : decode cX7_length 11 = .ok (.aload_n 0, 1) := by decide +kernel
theorem dX7_length_12 : decode cX7_length 12 = .ok (.getfield 19, 3) := by decide +kernel
theorem dX7_length_15 : decode cX7_length 15 = .ok (.aload_n 0, 1) := by decide +kernel
theorem dX7_length_16 : decode cX7_length 16 = .ok (.getfield 33, 3) := by decide +kernel
theorem dX7_length_19 : decode cX7_length 19 = .ok (.iaload, 1) := by decide +kernel
theorem dX7_length_20 : decode cX7_length 20 = .ok (.goto 4, 3) := by decide +kernel
theorem dX7_length_23 : decode cX7_length 23 = .ok (.iconst 0, 1) := by decide +kernel
theorem dX7_length_24 : decode cX7_length 24 = .ok (.ireturn, 1) := by decide +kernel
theorem dX7_signAt_0 : decode cX7_signAt 0 = .ok (.aload_n 0, 1) := by decide +kernel
theorem dX7_signAt_1 : decode cX7_signAt 1 = .ok (.getfield 33, 3) := by decide +kernel
theorem dX7_signAt_4 : decode cX7_signAt 4 = .ok (.aload_n 0, 1) := by decide +kernel
theorem dX7_signAt_5 : decode cX7_signAt 5 = .ok (.getfield 40, 3) := by decide +kernel
theorem dX7_signAt_8 : decode cX7_signAt 8 = .ok (.if_icmp .ge 24, 3) := by decide +kernel
theorem dX7_signAt_11 : decode cX7_signAt 11 = .ok (.aload_n 0, 1) := by decide +kernel
theorem dX7_signAt_12 : decode cX7_signAt 12 = .ok (.getfield 29, 3) := by decide +kernel
theorem dX7_signAt_15 : decode cX7_signAt 15 = .ok (.aload_n 0, 1) := by decide +kernel
theorem dX7_signAt_16 : decode cX7_signAt 16 = .ok (.getfield 15, 3) := by decide +kernel
theorem dX7_signAt_19 : decode cX7_signAt 19 = .ok (.aload_n 0, 1) := by decide +kernel
theorem dX7_signAt_20 : decode cX7_signAt 20 = .ok (.getfield 33, 3) := by decide +kernel
theorem dX7_signAt_23 : decode cX7_signAt 23 = .ok (.iaload, 1) := by decide +kernel
theorem dX7_signAt_24 : decode cX7_signAt 24 = .ok (.iload_n 1, 1) := by decide +kernel
theorem dX7_signAt_25 : decode cX7_signAt 25 = .ok (.iadd, 1) := by decide +kernel
theorem dX7_signAt_26 : decode cX7_signAt 26 = .ok (.invokevirtual 64, 3) := by decide +kernel
theorem dX7_signAt_29 : decode cX7_signAt 29 = .ok (.goto 4, 3) := by decide +kernel
theorem dX7_signAt_32 : decode cX7_signAt 32 = .ok (.iconst 0, 1) := by decide +kernel
theorem dX7_signAt_33 : decode cX7_signAt 33 = .ok (.ireturn, 1) := by decide +kernel
theorem dX7_word_0 : decode cX7_word 0 = .ok (.aload_n 0, 1) := by decide +kernel
theorem dX7_word_1 : decode cX7_word 1 = .ok (.getfield 33, 3) := by decide +kernel
theorem dX7_word_4 : decode cX7_word 4 = .ok (.aload_n 0, 1) := by decide +kernel
theorem dX7_word_5 : decode cX7_word 5 = .ok (.getfield 40, 3) := by decide +kernel
theorem dX7_word_8 : decode cX7_word 8 = .ok (.if_icmp .ge 15, 3) := by decide +kernel
theorem dX7_word_11 : decode cX7_word 11 = .ok (.aload_n 0, 1) := by decide +kernel
theorem dX7_word_12 : decode cX7_word 12 = .ok (.getfield 22, 3) := by decide +kernel
theorem dX7_word_15 : decode cX7_word 15 = .ok (.aload_n 0, 1) := by decide +kernel
theorem dX7_word_16 : decode cX7_word 16 = .ok (.getfield 33, 3) := by decide +kernel
theorem dX7_word_19 : decode cX7_word 19 = .ok (.laload, 1) := by decide +kernel
theorem dX7_word_20 : decode cX7_word 20 = .ok (.goto 4, 3) := by decide +kernel
theorem dX7_word_23 : decode cX7_word 23 = .ok (.lconst 0, 1) := by decide +kernel
theorem dX7_word_24 : decode cX7_word 24 = .ok (.lreturn, 1) := by decide +kernel
theorem dX7_number_0 : decode cX7_number 0 = .ok (.aload_n 0, 1) := by decide +kernel
theorem dX7_number_1 : decode cX7_number 1 = .ok (.getfield 33, 3) := by decide +kernel
theorem dX7_number_4 : decode cX7_number 4 = .ok (.aload_n 0, 1) := by decide +kernel
theorem dX7_number_5 : decode cX7_number 5 = .ok (.getfield 40, 3) := by decide +kernel
theorem dX7_number_8 : decode cX7_number 8 = .ok (.if_icmp .ge 15, 3) := by decide +kernel
theorem dX7_number_11 : decode cX7_number 11 = .ok (.aload_n 0, 1) := by decide +kernel
theorem dX7_number_12 : decode cX7_number 12 = .ok (.getfield 26, 3) := by decide +kernel
theorem dX7_number_15 : decode cX7_number 15 = .ok (.aload_n 0, 1) := by decide +kernel
theorem dX7_number_16 : decode cX7_number 16 = .ok (.getfield 33, 3) := by decide +kernel
theorem dX7_number_19 : decode cX7_number 19 = .ok (.iaload, 1) := by decide +kernel
theorem dX7_number_20 : decode cX7_number 20 = .ok (.goto 4, 3) := by decide +kernel
theorem dX7_number_23 : decode cX7_number 23 = .ok (.iconst 0, 1) := by decide +kernel
theorem dX7_number_24 : decode cX7_number 24 = .ok (.ireturn, 1) := by decide +kernel
theorem dX7_skipBlanks_0 : decode cX7_skipBlanks 0 = .ok (.aload_n 0, 1) := by decide +kernel
theorem dX7_skipBlanks_1 : decode cX7_skipBlanks 1 = .ok (.getfield 37, 3) := by decide +kernel
theorem dX7_skipBlanks_4 : decode cX7_skipBlanks 4 = .ok (.aload_n 0, 1) := by decide +kernel
theorem dX7_skipBlanks_5 : decode cX7_skipBlanks 5 = .ok (.getfield 29, 3) := by decide +kernel
theorem dX7_skipBlanks_8 : decode cX7_skipBlanks 8 = .ok (.invokevirtual 70, 3) := by decide +kernel
theorem dX7_skipBlanks_11 : decode cX7_skipBlanks 11 = .ok (.if_icmp .ge 48, 3) := by decide +kernel
theorem dX7_skipBlanks_14 : decode cX7_skipBlanks 14 = .ok (.aload_n 0, 1) := by decide +kernel
theorem dX7_skipBlanks_15 : decode cX7_skipBlanks 15 = .ok (.getfield 29, 3) := by decide +kernel
theorem dX7_skipBlanks_18 : decode cX7_skipBlanks 18 = .ok (.aload_n 0, 1) := by decide +kernel
theorem dX7_skipBlanks_19 : decode cX7_skipBlanks 19 = .ok (.getfield 37, 3) := by decide +kernel
theorem dX7_skipBlanks_22 : decode cX7_skipBlanks 22 = .ok (.invokevirtual 64, 3) := by decide +kernel
theorem dX7_skipBlanks_25 : decode cX7_skipBlanks 25 = .ok (.bipush 32, 2) := by decide +kernel
theorem dX7_skipBlanks_27 : decode cX7_skipBlanks 27 = .ok (.if_icmp .eq 19, 3) := by decide +kernel
theorem dX7_skipBlanks_30 : decode cX7_skipBlanks 30 = .ok (.aload_n 0, 1) := by decide +kernel
theorem dX7_skipBlanks_31 : decode cX7_skipBlanks 31 = .ok (.getfield 29, 3) := by decide +kernel
theorem dX7_skipBlanks_34 : decode cX7_skipBlanks 34 = .ok (.aload_n 0, 1) := by decide +kernel
theorem dX7_skipBlanks_35 : decode cX7_skipBlanks 35 = .ok (.getfield 37, 3) := by decide +kernel
theorem dX7_skipBlanks_38 : decode cX7_skipBlanks 38 = .ok (.invokevirtual 64, 3) := by decide +kernel
theorem dX7_skipBlanks_41 : decode cX7_skipBlanks 41 = .ok (.bipush 10, 2) := by decide +kernel
theorem dX7_skipBlanks_43 : decode cX7_skipBlanks 43 = .ok (.if_icmp .ne 16, 3) := by decide +kernel
theorem dX7_skipBlanks_46 : decode cX7_skipBlanks 46 = .ok (.aload_n 0, 1) := by decide +kernel
theorem dX7_skipBlanks_47 : decode cX7_skipBlanks 47 = .ok (.dup, 1) := by decide +kernel
theorem dX7_skipBlanks_48 : decode cX7_skipBlanks 48 = .ok (.getfield 37, 3) := by decide +kernel
theorem dX7_skipBlanks_51 : decode cX7_skipBlanks 51 = .ok (.iconst 1, 1) := by decide +kernel
theorem dX7_skipBlanks_52 : decode cX7_skipBlanks 52 = .ok (.iadd, 1) := by decide +kernel
theorem dX7_skipBlanks_53 : decode cX7_skipBlanks 53 = .ok (.putfield 37, 3) := by decide +kernel
theorem dX7_skipBlanks_56 : decode cX7_skipBlanks 56 = .ok (.goto (-56), 3) := by decide +kernel
theorem dX7_skipBlanks_59 : decode cX7_skipBlanks 59 = .ok (.return_, 1) := by decide +kernel
theorem dX7_readToken_0 : decode cX7_readToken 0 = .ok (.aload_n 0, 1) := by decide +kernel
theorem dX7_readToken_1 : decode cX7_readToken 1 = .ok (.lconst 0, 1) := by decide +kernel
theorem dX7_readToken_2 : decode cX7_readToken 2 = .ok (.putfield 57, 3) := by decide +kernel
theorem dX7_readToken_5 : decode cX7_readToken 5 = .ok (.aload_n 0, 1) := by decide +kernel
theorem dX7_readToken_6 : decode cX7_readToken 6 = .ok (.iconst 0, 1) := by decide +kernel
theorem dX7_readToken_7 : decode cX7_readToken 7 = .ok (.putfield 61, 3) := by decide +kernel
theorem dX7_readToken_10 : decode cX7_readToken 10 = .ok (.aload_n 0, 1) := by decide +kernel
theorem dX7_readToken_11 : decode cX7_readToken 11 = .ok (.getfield 37, 3) := by decide +kernel
theorem dX7_readToken_14 : decode cX7_readToken 14 = .ok (.aload_n 0, 1) := by decide +kernel
theorem dX7_readToken_15 : decode cX7_readToken 15 = .ok (.getfield 29, 3) := by decide +kernel
theorem dX7_readToken_18 : decode cX7_readToken 18 = .ok (.invokevirtual 70, 3) := by decide +kernel
theorem dX7_readToken_21 : decode cX7_readToken 21 = .ok (.if_icmp .lt 7, 3) := by decide +kernel
theorem dX7_readToken_24 : decode cX7_readToken 24 = .ok (.getstatic 50, 3) := by decide +kernel
theorem dX7_readToken_27 : decode cX7_readToken 27 = .ok (.areturn, 1) := by decide +kernel
theorem dX7_readToken_28 : decode cX7_readToken 28 = .ok (.aload_n 0, 1) := by decide +kernel
theorem dX7_readToken_29 : decode cX7_readToken 29 = .ok (.getfield 29, 3) := by decide +kernel
theorem dX7_readToken_32 : decode cX7_readToken 32 = .ok (.aload_n 0, 1) := by decide +kernel
theorem dX7_readToken_33 : decode cX7_readToken 33 = .ok (.getfield 37, 3) := by decide +kernel
theorem dX7_readToken_36 : decode cX7_readToken 36 = .ok (.invokevirtual 64, 3) := by decide +kernel
theorem dX7_readToken_39 : decode cX7_readToken 39 = .ok (.istore_n 1, 1) := by decide +kernel
theorem dX7_readToken_40 : decode cX7_readToken 40 = .ok (.iload_n 1, 1) := by decide +kernel
theorem dX7_readToken_41 : decode cX7_readToken 41 = .ok (.invokestatic 74, 3) := by decide +kernel
theorem dX7_readToken_44 : decode cX7_readToken 44 = .ok (.ifCond .eq 8, 3) := by decide +kernel
theorem dX7_readToken_47 : decode cX7_readToken 47 = .ok (.aload_n 0, 1) := by decide +kernel
theorem dX7_readToken_48 : decode cX7_readToken 48 = .ok (.invokevirtual 78, 3) := by decide +kernel
theorem dX7_readToken_51 : decode cX7_readToken 51 = .ok (.areturn, 1) := by decide +kernel
theorem dX7_readToken_52 : decode cX7_readToken 52 = .ok (.iload_n 1, 1) := by decide +kernel
theorem dX7_readToken_53 : decode cX7_readToken 53 = .ok (.invokestatic 81, 3) := by decide +kernel
theorem dX7_readToken_56 : decode cX7_readToken 56 = .ok (.ifCond .eq 8, 3) := by decide +kernel
theorem dX7_readToken_59 : decode cX7_readToken 59 = .ok (.aload_n 0, 1) := by decide +kernel
theorem dX7_readToken_60 : decode cX7_readToken 60 = .ok (.invokevirtual 84, 3) := by decide +kernel
theorem dX7_readToken_63 : decode cX7_readToken 63 = .ok (.areturn, 1) := by decide +kernel
theorem dX7_readToken_64 : decode cX7_readToken 64 = .ok (.aload_n 0, 1) := by decide +kernel
theorem dX7_readToken_65 : decode cX7_readToken 65 = .ok (.getfield 29, 3) := by decide +kernel
theorem dX7_readToken_68 : decode cX7_readToken 68 = .ok (.aload_n 0, 1) := by decide +kernel
theorem dX7_readToken_69 : decode cX7_readToken 69 = .ok (.getfield 37, 3) := by decide +kernel
theorem dX7_readToken_72 : decode cX7_readToken 72 = .ok (.invokestatic 87, 3) := by decide +kernel
theorem dX7_readToken_75 : decode cX7_readToken 75 = .ok (.astore_n 2, 1) := by decide +kernel
theorem dX7_readToken_76 : decode cX7_readToken 76 = .ok (.aload_n 0, 1) := by decide +kernel
theorem dX7_readToken_77 : decode cX7_readToken 77 = .ok (.dup, 1) := by decide +kernel
theorem dX7_readToken_78 : decode cX7_readToken 78 = .ok (.getfield 37, 3) := by decide +kernel
theorem dX7_readToken_81 : decode cX7_readToken 81 = .ok (.aload_n 2, 1) := by decide +kernel
theorem dX7_readToken_82 : decode cX7_readToken 82 = .ok (.invokevirtual 91, 3) := by decide +kernel
theorem dX7_readToken_85 : decode cX7_readToken 85 = .ok (.iadd, 1) := by decide +kernel
theorem dX7_readToken_86 : decode cX7_readToken 86 = .ok (.putfield 37, 3) := by decide +kernel
theorem dX7_readToken_89 : decode cX7_readToken 89 = .ok (.aload_n 2, 1) := by decide +kernel
theorem dX7_readToken_90 : decode cX7_readToken 90 = .ok (.areturn, 1) := by decide +kernel
theorem dX7_readWord_0 : decode cX7_readWord 0 = .ok (.aload_n 0, 1) := by decide +kernel
theorem dX7_readWord_1 : decode cX7_readWord 1 = .ok (.getfield 37, 3) := by decide +kernel
theorem dX7_readWord_4 : decode cX7_readWord 4 = .ok (.istore_n 1, 1) := by decide +kernel
theorem dX7_readWord_5 : decode cX7_readWord 5 = .ok (.aload_n 0, 1) := by decide +kernel
theorem dX7_readWord_6 : decode cX7_readWord 6 = .ok (.getfield 37, 3) := by decide +kernel
theorem dX7_readWord_9 : decode cX7_readWord 9 = .ok (.aload_n 0, 1) := by decide +kernel
theorem dX7_readWord_10 : decode cX7_readWord 10 = .ok (.getfield 29, 3) := by decide +kernel
theorem dX7_readWord_13 : decode cX7_readWord 13 = .ok (.invokevirtual 70, 3) := by decide +kernel
theorem dX7_readWord_16 : decode cX7_readWord 16 = .ok (.if_icmp .ge 78, 3) := by decide +kernel
theorem dX7_readWord_19 : decode cX7_readWord 19 = .ok (.aload_n 0, 1) := by decide +kernel
theorem dX7_readWord_20 : decode cX7_readWord 20 = .ok (.getfield 29, 3) := by decide +kernel
theorem dX7_readWord_23 : decode cX7_readWord 23 = .ok (.aload_n 0, 1) := by decide +kernel
theorem dX7_readWord_24 : decode cX7_readWord 24 = .ok (.getfield 37, 3) := by decide +kernel
theorem dX7_readWord_27 : decode cX7_readWord 27 = .ok (.invokevirtual 64, 3) := by decide +kernel
theorem dX7_readWord_30 : decode cX7_readWord 30 = .ok (.invokestatic 74, 3) := by decide +kernel
theorem dX7_readWord_33 : decode cX7_readWord 33 = .ok (.ifCond .ne 20, 3) := by decide +kernel
theorem dX7_readWord_36 : decode cX7_readWord 36 = .ok (.aload_n 0, 1) := by decide +kernel
theorem dX7_readWord_37 : decode cX7_readWord 37 = .ok (.getfield 29, 3) := by decide +kernel
theorem dX7_readWord_40 : decode cX7_readWord 40 = .ok (.aload_n 0, 1) := by decide +kernel
theorem dX7_readWord_41 : decode cX7_readWord 41 = .ok (.getfield 37, 3) := by decide +kernel
theorem dX7_readWord_44 : decode cX7_readWord 44 = .ok (.invokevirtual 64, 3) := by decide +kernel
theorem dX7_readWord_47 : decode cX7_readWord 47 = .ok (.invokestatic 81, 3) := by decide +kernel
theorem dX7_readWord_50 : decode cX7_readWord 50 = .ok (.ifCond .eq 44, 3) := by decide +kernel
theorem dX7_readWord_53 : decode cX7_readWord 53 = .ok (.aload_n 0, 1) := by decide +kernel
theorem dX7_readWord_54 : decode cX7_readWord 54 = .ok (.aload_n 0, 1) := by decide +kernel
theorem dX7_readWord_55 : decode cX7_readWord 55 = .ok (.getfield 57, 3) := by decide +kernel
theorem dX7_readWord_58 : decode cX7_readWord 58 = .ok (.ldc2_w 94, 3) := by decide +kernel
theorem dX7_readWord_61 : decode cX7_readWord 61 = .ok (.lmul, 1) := by decide +kernel
theorem dX7_readWord_62 : decode cX7_readWord 62 = .ok (.aload_n 0, 1) := by decide +kernel
theorem dX7_readWord_63 : decode cX7_readWord 63 = .ok (.getfield 29, 3) := by decide +kernel
theorem dX7_readWord_66 : decode cX7_readWord 66 = .ok (.aload_n 0, 1) := by decide +kernel
theorem dX7_readWord_67 : decode cX7_readWord 67 = .ok (.getfield 37, 3) := by decide +kernel
theorem dX7_readWord_70 : decode cX7_readWord 70 = .ok (.invokevirtual 64, 3) := by decide +kernel
theorem dX7_readWord_73 : decode cX7_readWord 73 = .ok (.invokestatic 96, 3) := by decide +kernel
theorem dX7_readWord_76 : decode cX7_readWord 76 = .ok (.i2l, 1) := by decide +kernel
theorem dX7_readWord_77 : decode cX7_readWord 77 = .ok (.ladd, 1) := by decide +kernel
theorem dX7_readWord_78 : decode cX7_readWord 78 = .ok (.putfield 57, 3) := by decide +kernel
theorem dX7_readWord_81 : decode cX7_readWord 81 = .ok (.aload_n 0, 1) := by decide +kernel
theorem dX7_readWord_82 : decode cX7_readWord 82 = .ok (.dup, 1) := by decide +kernel
theorem dX7_readWord_83 : decode cX7_readWord 83 = .ok (.getfield 37, 3) := by decide +kernel
theorem dX7_readWord_86 : decode cX7_readWord 86 = .ok (.iconst 1, 1) := by decide +kernel
theorem dX7_readWord_87 : decode cX7_readWord 87 = .ok (.iadd, 1) := by decide +kernel
theorem dX7_readWord_88 : decode cX7_readWord 88 = .ok (.putfield 37, 3) := by decide +kernel
theorem dX7_readWord_91 : decode cX7_readWord 91 = .ok (.goto (-86), 3) := by decide +kernel
theorem dX7_readWord_94 : decode cX7_readWord 94 = .ok (.aload_n 0, 1) := by decide +kernel
theorem dX7_readWord_95 : decode cX7_readWord 95 = .ok (.getfield 37, 3) := by decide +kernel
theorem dX7_readWord_98 : decode cX7_readWord 98 = .ok (.iload_n 1, 1) := by decide +kernel
theorem dX7_readWord_99 : decode cX7_readWord 99 = .ok (.isub, 1) := by decide +kernel
theorem dX7_readWord_100 : decode cX7_readWord 100 = .ok (.bipush 12, 2) := by decide +kernel
theorem dX7_readWord_102 : decode cX7_readWord 102 = .ok (.if_icmp .le 9, 3) := by decide +kernel
theorem dX7_readWord_105 : decode cX7_readWord 105 = .ok (.getstatic 54, 3) := by decide +kernel
theorem dX7_readWord_108 : decode cX7_readWord 108 = .ok (.goto 17, 3) := by decide +kernel
theorem dX7_readWord_111 : decode cX7_readWord 111 = .ok (.aload_n 0, 1) := by decide +kernel
theorem dX7_readWord_112 : decode cX7_readWord 112 = .ok (.getfield 29, 3) := by decide +kernel
theorem dX7_readWord_115 : decode cX7_readWord 115 = .ok (.iload_n 1, 1) := by decide +kernel
theorem dX7_readWord_116 : decode cX7_readWord 116 = .ok (.aload_n 0, 1) := by decide +kernel
theorem dX7_readWord_117 : decode cX7_readWord 117 = .ok (.getfield 37, 3) := by decide +kernel
theorem dX7_readWord_120 : decode cX7_readWord 120 = .ok (.iload_n 1, 1) := by decide +kernel
theorem dX7_readWord_121 : decode cX7_readWord 121 = .ok (.isub, 1) := by decide +kernel
theorem dX7_readWord_122 : decode cX7_readWord 122 = .ok (.invokestatic 99, 3) := by decide +kernel
theorem dX7_readWord_125 : decode cX7_readWord 125 = .ok (.areturn, 1) := by decide +kernel
theorem dX7_readNumber_0 : decode cX7_readNumber 0 = .ok (.aload_n 0, 1) := by decide +kernel
theorem dX7_readNumber_1 : decode cX7_readNumber 1 = .ok (.getfield 37, 3) := by decide +kernel
theorem dX7_readNumber_4 : decode cX7_readNumber 4 = .ok (.istore_n 1, 1) := by decide +kernel
theorem dX7_readNumber_5 : decode cX7_readNumber 5 = .ok (.aload_n 0, 1) := by decide +kernel
theorem dX7_readNumber_6 : decode cX7_readNumber 6 = .ok (.getfield 37, 3) := by decide +kernel
theorem dX7_readNumber_9 : decode cX7_readNumber 9 = .ok (.aload_n 0, 1) := by decide +kernel
theorem dX7_readNumber_10 : decode cX7_readNumber 10 = .ok (.getfield 29, 3) := by decide +kernel
theorem dX7_readNumber_13 : decode cX7_readNumber 13 = .ok (.invokevirtual 70, 3) := by decide +kernel
theorem dX7_readNumber_16 : decode cX7_readNumber 16 = .ok (.if_icmp .ge 59, 3) := by decide +kernel
theorem dX7_readNumber_19 : decode cX7_readNumber 19 = .ok (.aload_n 0, 1) := by decide +kernel
theorem dX7_readNumber_20 : decode cX7_readNumber 20 = .ok (.getfield 29, 3) := by decide +kernel
theorem dX7_readNumber_23 : decode cX7_readNumber 23 = .ok (.aload_n 0, 1) := by decide +kernel
theorem dX7_readNumber_24 : decode cX7_readNumber 24 = .ok (.getfield 37, 3) := by decide +kernel
theorem dX7_readNumber_27 : decode cX7_readNumber 27 = .ok (.invokevirtual 64, 3) := by decide +kernel
theorem dX7_readNumber_30 : decode cX7_readNumber 30 = .ok (.invokestatic 81, 3) := by decide +kernel
theorem dX7_readNumber_33 : decode cX7_readNumber 33 = .ok (.ifCond .eq 42, 3) := by decide +kernel
theorem dX7_readNumber_36 : decode cX7_readNumber 36 = .ok (.aload_n 0, 1) := by decide +kernel
theorem dX7_readNumber_37 : decode cX7_readNumber 37 = .ok (.aload_n 0, 1) := by decide +kernel
theorem dX7_readNumber_38 : decode cX7_readNumber 38 = .ok (.getfield 61, 3) := by decide +kernel
theorem dX7_readNumber_41 : decode cX7_readNumber 41 = .ok (.bipush 10, 2) := by decide +kernel
theorem dX7_readNumber_43 : decode cX7_readNumber 43 = .ok (.imul, 1) := by decide +kernel
theorem dX7_readNumber_44 : decode cX7_readNumber 44 = .ok (.aload_n 0, 1) := by decide +kernel
theorem dX7_readNumber_45 : decode cX7_readNumber 45 = .ok (.getfield 29, 3) := by decide +kernel
theorem dX7_readNumber_48 : decode cX7_readNumber 48 = .ok (.aload_n 0, 1) := by decide +kernel
theorem dX7_readNumber_49 : decode cX7_readNumber 49 = .ok (.getfield 37, 3) := by decide +kernel
theorem dX7_readNumber_52 : decode cX7_readNumber 52 = .ok (.invokevirtual 64, 3) := by decide +kernel
theorem dX7_readNumber_55 : decode cX7_readNumber 55 = .ok (.iadd, 1) := by decide +kernel
theorem dX7_readNumber_56 : decode cX7_readNumber 56 = .ok (.bipush 48, 2) := by decide +kernel
theorem dX7_readNumber_58 : decode cX7_readNumber 58 = .ok (.isub, 1) := by decide +kernel
theorem dX7_readNumber_59 : decode cX7_readNumber 59 = .ok (.putfield 61, 3) := by decide +kernel
theorem dX7_readNumber_62 : decode cX7_readNumber 62 = .ok (.aload_n 0, 1) := by decide +kernel
theorem dX7_readNumber_63 : decode cX7_readNumber 63 = .ok (.dup, 1) := by decide +kernel
theorem dX7_readNumber_64 : decode cX7_readNumber 64 = .ok (.getfield 37, 3) := by decide +kernel
theorem dX7_readNumber_67 : decode cX7_readNumber 67 = .ok (.iconst 1, 1) := by decide +kernel
theorem dX7_readNumber_68 : decode cX7_readNumber 68 = .ok (.iadd, 1) := by decide +kernel
theorem dX7_readNumber_69 : decode cX7_readNumber 69 = .ok (.putfield 37, 3) := by decide +kernel
theorem dX7_readNumber_72 : decode cX7_readNumber 72 = .ok (.goto (-67), 3) := by decide +kernel
theorem dX7_readNumber_75 : decode cX7_readNumber 75 = .ok (.aload_n 0, 1) := by decide +kernel
theorem dX7_readNumber_76 : decode cX7_readNumber 76 = .ok (.getfield 37, 3) := by decide +kernel
theorem dX7_readNumber_79 : decode cX7_readNumber 79 = .ok (.iload_n 1, 1) := by decide +kernel
theorem dX7_readNumber_80 : decode cX7_readNumber 80 = .ok (.isub, 1) := by decide +kernel
theorem dX7_readNumber_81 : decode cX7_readNumber 81 = .ok (.bipush 6, 2) := by decide +kernel
theorem dX7_readNumber_83 : decode cX7_readNumber 83 = .ok (.if_icmp .le 9, 3) := by decide +kernel
theorem dX7_readNumber_86 : decode cX7_readNumber 86 = .ok (.getstatic 54, 3) := by decide +kernel
theorem dX7_readNumber_89 : decode cX7_readNumber 89 = .ok (.goto 6, 3) := by decide +kernel
theorem dX7_readNumber_92 : decode cX7_readNumber 92 = .ok (.getstatic 103, 3) := by decide +kernel
theorem dX7_readNumber_95 : decode cX7_readNumber 95 = .ok (.areturn, 1) := by decide +kernel
theorem dX7_codeOf_0 : decode cX7_codeOf 0 = .ok (.iload_n 0, 1) := by decide +kernel
theorem dX7_codeOf_1 : decode cX7_codeOf 1 = .ok (.invokestatic 74, 3) := by decide +kernel
theorem dX7_codeOf_4 : decode cX7_codeOf 4 = .ok (.ifCond .eq 12, 3) := by decide +kernel
theorem dX7_codeOf_7 : decode cX7_codeOf 7 = .ok (.iload_n 0, 1) := by decide +kernel
theorem dX7_codeOf_8 : decode cX7_codeOf 8 = .ok (.bipush 97, 2) := by decide +kernel
theorem dX7_codeOf_10 : decode cX7_codeOf 10 = .ok (.isub, 1) := by decide +kernel
theorem dX7_codeOf_11 : decode cX7_codeOf 11 = .ok (.iconst 1, 1) := by decide +kernel
theorem dX7_codeOf_12 : decode cX7_codeOf 12 = .ok (.iadd, 1) := by decide +kernel
theorem dX7_codeOf_13 : decode cX7_codeOf 13 = .ok (.goto 10, 3) := by decide +kernel
theorem dX7_codeOf_16 : decode cX7_codeOf 16 = .ok (.iload_n 0, 1) := by decide +kernel
theorem dX7_codeOf_17 : decode cX7_codeOf 17 = .ok (.bipush 48, 2) := by decide +kernel
theorem dX7_codeOf_19 : decode cX7_codeOf 19 = .ok (.isub, 1) := by decide +kernel
theorem dX7_codeOf_20 : decode cX7_codeOf 20 = .ok (.bipush 27, 2) := by decide +kernel
theorem dX7_codeOf_22 : decode cX7_codeOf 22 = .ok (.iadd, 1) := by decide +kernel
theorem dX7_codeOf_23 : decode cX7_codeOf 23 = .ok (.ireturn, 1) := by decide +kernel
theorem dX7_isLetter_0 : decode cX7_isLetter 0 = .ok (.iload_n 0, 1) := by decide +kernel
theorem dX7_isLetter_1 : decode cX7_isLetter 1 = .ok (.bipush 97, 2) := by decide +kernel
theorem dX7_isLetter_3 : decode cX7_isLetter 3 = .ok (.if_icmp .lt 13, 3) := by decide +kernel
theorem dX7_isLetter_6 : decode cX7_isLetter 6 = .ok (.iload_n 0, 1) := by decide +kernel
theorem dX7_isLetter_7 : decode cX7_isLetter 7 = .ok (.bipush 122, 2) := by decide +kernel
theorem dX7_isLetter_9 : decode cX7_isLetter 9 = .ok (.if_icmp .gt 7, 3) := by decide +kernel
theorem dX7_isLetter_12 : decode cX7_isLetter 12 = .ok (.iconst 1, 1) := by decide +kernel
theorem dX7_isLetter_13 : decode cX7_isLetter 13 = .ok (.goto 4, 3) := by decide +kernel
theorem dX7_isLetter_16 : decode cX7_isLetter 16 = .ok (.iconst 0, 1) := by decide +kernel
theorem dX7_isLetter_17 : decode cX7_isLetter 17 = .ok (.ireturn, 1) := by decide +kernel
theorem dX7_isDigit_0 : decode cX7_isDigit 0 = .ok (.iload_n 0, 1) := by decide +kernel
theorem dX7_isDigit_1 : decode cX7_isDigit 1 = .ok (.bipush 48, 2) := by decide +kernel
theorem dX7_isDigit_3 : decode cX7_isDigit 3 = .ok (.if_icmp .lt 13, 3) := by decide +kernel
theorem dX7_isDigit_6 : decode cX7_isDigit 6 = .ok (.iload_n 0, 1) := by decide +kernel
theorem dX7_isDigit_7 : decode cX7_isDigit 7 = .ok (.bipush 57, 2) := by decide +kernel
theorem dX7_isDigit_9 : decode cX7_isDigit 9 = .ok (.if_icmp .gt 7, 3) := by decide +kernel
theorem dX7_isDigit_12 : decode cX7_isDigit 12 = .ok (.iconst 1, 1) := by decide +kernel
theorem dX7_isDigit_13 : decode cX7_isDigit 13 = .ok (.goto 4, 3) := by decide +kernel
theorem dX7_isDigit_16 : decode cX7_isDigit 16 = .ok (.iconst 0, 1) := by decide +kernel
theorem dX7_isDigit_17 : decode cX7_isDigit 17 = .ok (.ireturn, 1) := by decide +kernel
theorem dX8_init_0 : decode cX8_init 0 = .ok (.aload_n 0, 1) := by decide +kernel
theorem dX8_init_1 : decode cX8_init 1 = .ok (.invokespecial 1, 3) := by decide +kernel
theorem dX8_init_4 : decode cX8_init 4 = .ok (.aload_n 0, 1) := by decide +kernel
theorem dX8_init_5 : decode cX8_init 5 = .ok (.bipush 8, 2) := by decide +kernel
theorem dX8_init_7 : decode cX8_init 7 = .ok (.anewarray 9, 3) := by decide +kernel
theorem dX8_init_10 : decode cX8_init 10 = .ok (.putfield 11, 3) := by decide +kernel
theorem dX8_init_13 : decode cX8_init 13 = .ok (.aload_n 0, 1) := by decide +kernel
theorem dX8_init_14 : decode cX8_init 14 = .ok (.bipush 12, 2) := by decide +kernel
theorem dX8_init_16 : decode cX8_init 16 = .ok (.newarray .int, 2) := by decide +kernel
theorem dX8_init_18 : decode cX8_init 18 = .ok (.putfield 17, 3) := by decide +kernel
theorem dX8_init_21 : decode cX8_init 21 = .ok (.aload_n 0, 1) := by decide +kernel
theorem dX8_init_22 : decode cX8_init 22 = .ok (.new 21, 3) := by decide +kernel
theorem dX8_init_25 : decode cX8_init 25 = .ok (.dup, 1) := by decide +kernel
theorem dX8_init_26 : decode cX8_init 26 = .ok (.invokespecial 23, 3) := by decide +kernel
theorem dX8_init_29 : decode cX8_init 29 = .ok (.putfield 24, 3) := by decide +kernel
theorem dX8_init_32 : decode cX8_init 32 = .ok (.iconst 0, 1) := by decide +kernel
theorem dX8_init_33 : decode cX8_init 33 = .ok (.istore_n 1, 1) := by decide +kernel
theorem dX8_init_34 : decode cX8_init 34 = .ok (.iload_n 1, 1) := by decide +kernel
theorem dX8_init_35 : decode cX8_init 35 = .ok (.bipush 8, 2) := by decide +kernel
theorem dX8_init_37 : decode cX8_init 37 = .ok (.if_icmp .ge 22, 3) := by decide +kernel
theorem dX8_init_40 : decode cX8_init 40 = .ok (.aload_n 0, 1) := by decide +kernel
theorem dX8_init_41 : decode cX8_init 41 = .ok (.getfield 11, 3) := by decide +kernel
theorem dX8_init_44 : decode cX8_init 44 = .ok (.iload_n 1, 1) := by decide +kernel
theorem dX8_init_45 : decode cX8_init 45 = .ok (.new 9, 3) := by decide +kernel
theorem dX8_init_48 : decode cX8_init 48 = .ok (.dup, 1) := by decide +kernel
theorem dX8_init_49 : decode cX8_init 49 = .ok (.invokespecial 28, 3) := by decide +kernel
theorem dX8_init_52 : decode cX8_init 52 = .ok (.aastore, 1) := by decide +kernel
theorem dX8_init_53 : decode cX8_init 53 = .ok (.iinc 1 1, 3) := by decide +kernel
theorem dX8_init_56 : decode cX8_init 56 = .ok (.goto (-22), 3) := by decide +kernel
theorem dX8_init_59 : decode cX8_init 59 = .ok (.return_, 1) := by decide +kernel
theorem dX8_startWith_0 : decode cX8_startWith 0 = .ok (.aload_n 0, 1) := by decide +kernel
theorem dX8_startWith_1 : decode cX8_startWith 1 = .ok (.aload_n 1, 1) := by decide +kernel
theorem dX8_startWith_2 : decode cX8_startWith 2 = .ok (.invokevirtual 29, 3) := by decide +kernel
theorem dX8_startWith_5 : decode cX8_startWith 5 = .ok (.bipush 8, 2) := by decide +kernel
theorem dX8_startWith_7 : decode cX8_startWith 7 = .ok (.invokestatic 32, 3) := by decide +kernel
theorem dX8_startWith_10 : decode cX8_startWith 10 = .ok (.putfield 38, 3) := by decide +kernel
theorem dX8_startWith_13 : decode cX8_startWith 13 = .ok (.iconst 0, 1) := by decide +kernel
theorem dX8_startWith_14 : decode cX8_startWith 14 = .ok (.istore_n 2, 1) := by decide +kernel
theorem dX8_startWith_15 : decode cX8_startWith 15 = .ok (.iload_n 2, 1) := by decide +kernel
theorem dX8_startWith_16 : decode cX8_startWith 16 = .ok (.aload_n 0, 1) := by decide +kernel
theorem dX8_startWith_17 : decode cX8_startWith 17 = .ok (.getfield 38, 3) := by decide +kernel
theorem dX8_startWith_20 : decode cX8_startWith 20 = .ok (.if_icmp .ge 20, 3) := by decide +kernel
theorem dX8_startWith_23 : decode cX8_startWith 23 = .ok (.aload_n 1, 1) := by decide +kernel
theorem dX8_startWith_24 : decode cX8_startWith 24 = .ok (.iload_n 2, 1) := by decide +kernel
theorem dX8_startWith_25 : decode cX8_startWith 25 = .ok (.aload_n 0, 1) := by decide +kernel
theorem dX8_startWith_26 : decode cX8_startWith 26 = .ok (.getfield 11, 3) := by decide +kernel
theorem dX8_startWith_29 : decode cX8_startWith 29 = .ok (.iload_n 2, 1) := by decide +kernel
theorem dX8_startWith_30 : decode cX8_startWith 30 = .ok (.aaload, 1) := by decide +kernel
theorem dX8_startWith_31 : decode cX8_startWith 31 = .ok (.invokevirtual 42, 3) := by decide +kernel
theorem dX8_startWith_34 : decode cX8_startWith 34 = .ok (.iinc 2 1, 3) := by decide +kernel
theorem dX8_startWith_37 : decode cX8_startWith 37 = .ok (.goto (-22), 3) := by decide +kernel
theorem dX8_startWith_40 : decode cX8_startWith 40 = .ok (.iconst 0, 1) := by decide +kernel
theorem dX8_startWith_41 : decode cX8_startWith 41 = .ok (.istore_n 2, 1) := by decide +kernel
theorem dX8_startWith_42 : decode cX8_startWith 42 = .ok (.iload_n 2, 1) := by decide +kernel
theorem dX8_startWith_43 : decode cX8_startWith 43 = .ok (.bipush 12, 2) := by decide +kernel
theorem dX8_startWith_45 : decode cX8_startWith 45 = .ok (.if_icmp .ge 16, 3) := by decide +kernel
theorem dX8_startWith_48 : decode cX8_startWith 48 = .ok (.aload_n 0, 1) := by decide +kernel
theorem dX8_startWith_49 : decode cX8_startWith 49 = .ok (.getfield 17, 3) := by decide +kernel
theorem dX8_startWith_52 : decode cX8_startWith 52 = .ok (.iload_n 2, 1) := by decide +kernel
theorem dX8_startWith_53 : decode cX8_startWith 53 = .ok (.iconst 0, 1) := by decide +kernel
theorem dX8_startWith_54 : decode cX8_startWith 54 = .ok (.iastore, 1) := by decide +kernel
theorem dX8_startWith_55 : decode cX8_startWith 55 = .ok (.iinc 2 1, 3) := by decide +kernel
theorem dX8_startWith_58 : decode cX8_startWith 58 = .ok (.goto (-16), 3) := by decide +kernel
theorem dX8_startWith_61 : decode cX8_startWith 61 = .ok (.return_, 1) := by decide +kernel
theorem dX8_copyFrom_0 : decode cX8_copyFrom 0 = .ok (.aload_n 0, 1) := by decide +kernel
theorem dX8_copyFrom_1 : decode cX8_copyFrom 1 = .ok (.aload_n 1, 1) := by decide +kernel
theorem dX8_copyFrom_2 : decode cX8_copyFrom 2 = .ok (.getfield 46, 3) := by decide +kernel
theorem dX8_copyFrom_5 : decode cX8_copyFrom 5 = .ok (.putfield 46, 3) := by decide +kernel
theorem dX8_copyFrom_8 : decode cX8_copyFrom 8 = .ok (.aload_n 0, 1) := by decide +kernel
theorem dX8_copyFrom_9 : decode cX8_copyFrom 9 = .ok (.aload_n 1, 1) := by decide +kernel
theorem dX8_copyFrom_10 : decode cX8_copyFrom 10 = .ok (.getfield 38, 3) := by decide +kernel
theorem dX8_copyFrom_13 : decode cX8_copyFrom 13 = .ok (.putfield 38, 3) := by decide +kernel
theorem dX8_copyFrom_16 : decode cX8_copyFrom 16 = .ok (.iconst 0, 1) := by decide +kernel
theorem dX8_copyFrom_17 : decode cX8_copyFrom 17 = .ok (.istore_n 2, 1) := by decide +kernel
theorem dX8_copyFrom_18 : decode cX8_copyFrom 18 = .ok (.iload_n 2, 1) := by decide +kernel
theorem dX8_copyFrom_19 : decode cX8_copyFrom 19 = .ok (.aload_n 0, 1) := by decide +kernel
theorem dX8_copyFrom_20 : decode cX8_copyFrom 20 = .ok (.getfield 38, 3) := by decide +kernel
theorem dX8_copyFrom_23 : decode cX8_copyFrom 23 = .ok (.if_icmp .ge 24, 3) := by decide +kernel
theorem dX8_copyFrom_26 : decode cX8_copyFrom 26 = .ok (.aload_n 0, 1) := by decide +kernel
theorem dX8_copyFrom_27 : decode cX8_copyFrom 27 = .ok (.getfield 11, 3) := by decide +kernel
theorem dX8_copyFrom_30 : decode cX8_copyFrom 30 = .ok (.iload_n 2, 1) := by decide +kernel
theorem dX8_copyFrom_31 : decode cX8_copyFrom 31 = .ok (.aaload, 1) := by decide +kernel
theorem dX8_copyFrom_32 : decode cX8_copyFrom 32 = .ok (.aload_n 1, 1) := by decide +kernel
theorem dX8_copyFrom_33 : decode cX8_copyFrom 33 = .ok (.getfield 11, 3) := by decide +kernel
theorem dX8_copyFrom_36 : decode cX8_copyFrom 36 = .ok (.iload_n 2, 1) := by decide +kernel
theorem dX8_copyFrom_37 : decode cX8_copyFrom 37 = .ok (.aaload, 1) := by decide +kernel
theorem dX8_copyFrom_38 : decode cX8_copyFrom 38 = .ok (.invokevirtual 49, 3) := by decide +kernel
theorem dX8_copyFrom_41 : decode cX8_copyFrom 41 = .ok (.iinc 2 1, 3) := by decide +kernel
theorem dX8_copyFrom_44 : decode cX8_copyFrom 44 = .ok (.goto (-26), 3) := by decide +kernel
theorem dX8_copyFrom_47 : decode cX8_copyFrom 47 = .ok (.aload_n 1, 1) := by decide +kernel
theorem dX8_copyFrom_48 : decode cX8_copyFrom 48 = .ok (.getfield 17, 3) := by decide +kernel
theorem dX8_copyFrom_51 : decode cX8_copyFrom 51 = .ok (.iconst 0, 1) := by decide +kernel
theorem dX8_copyFrom_52 : decode cX8_copyFrom 52 = .ok (.aload_n 0, 1) := by decide +kernel
theorem dX8_copyFrom_53 : decode cX8_copyFrom 53 = .ok (.getfield 17, 3) := by decide +kernel
theorem dX8_copyFrom_56 : decode cX8_copyFrom 56 = .ok (.iconst 0, 1) := by decide +kernel
theorem dX8_copyFrom_57 : decode cX8_copyFrom 57 = .ok (.bipush 12, 2) := by decide +kernel
theorem dX8_copyFrom_59 : decode cX8_copyFrom 59 = .ok (.invokestatic 53, 3) := by decide +kernel
theorem dX8_copyFrom_62 : decode cX8_copyFrom 62 = .ok (.aload_n 0, 1) := by decide +kernel
theorem dX8_copyFrom_63 : decode cX8_copyFrom 63 = .ok (.getfield 24, 3) := by decide +kernel
theorem dX8_copyFrom_66 : decode cX8_copyFrom 66 = .ok (.aload_n 1, 1) := by decide +kernel
theorem dX8_copyFrom_67 : decode cX8_copyFrom 67 = .ok (.getfield 24, 3) := by decide +kernel
theorem dX8_copyFrom_70 : decode cX8_copyFrom 70 = .ok (.invokevirtual 59, 3) := by decide +kernel
theorem dX8_copyFrom_73 : decode cX8_copyFrom 73 = .ok (.return_, 1) := by decide +kernel
theorem dX8_day_0 : decode cX8_day 0 = .ok (.aload_n 0, 1) := by decide +kernel
theorem dX8_day_1 : decode cX8_day 1 = .ok (.getfield 46, 3) := by decide +kernel
theorem dX8_day_4 : decode cX8_day 4 = .ok (.ireturn, 1) := by decide +kernel
theorem dX8_paper_0 : decode cX8_paper 0 = .ok (.aload_n 0, 1) := by decide +kernel
theorem dX8_paper_1 : decode cX8_paper 1 = .ok (.getfield 24, 3) := by decide +kernel
theorem dX8_paper_4 : decode cX8_paper 4 = .ok (.areturn, 1) := by decide +kernel
theorem dX8_planets_0 : decode cX8_planets 0 = .ok (.aload_n 0, 1) := by decide +kernel
theorem dX8_planets_1 : decode cX8_planets 1 = .ok (.getfield 38, 3) := by decide +kernel
theorem dX8_planets_4 : decode cX8_planets 4 = .ok (.ireturn, 1) := by decide +kernel
theorem dX8_hasPlanet_0 : decode cX8_hasPlanet 0 = .ok (.iload_n 1, 1) := by decide +kernel
theorem dX8_hasPlanet_1 : decode cX8_hasPlanet 1 = .ok (.ifCond .lt 15, 3) := by decide +kernel
theorem dX8_hasPlanet_4 : decode cX8_hasPlanet 4 = .ok (.iload_n 1, 1) := by decide +kernel
theorem dX8_hasPlanet_5 : decode cX8_hasPlanet 5 = .ok (.aload_n 0, 1) := by decide +kernel
theorem dX8_hasPlanet_6 : decode cX8_hasPlanet 6 = .ok (.getfield 38, 3) := by decide +kernel
theorem dX8_hasPlanet_9 : decode cX8_hasPlanet 9 = .ok (.if_icmp .ge 7, 3) := by decide +kernel
theorem dX8_hasPlanet_12 : decode cX8_hasPlanet 12 = .ok (.iconst 1, 1) := by decide +kernel
theorem dX8_hasPlanet_13 : decode cX8_hasPlanet 13 = .ok (.goto 4, 3) := by decide +kernel
theorem dX8_hasPlanet_16 : decode cX8_hasPlanet 16 = .ok (.iconst 0, 1) := by decide +kernel
theorem dX8_hasPlanet_17 : decode cX8_hasPlanet 17 = .ok (.ireturn, 1) := by decide +kernel
theorem dX8_factOf_0 : decode cX8_factOf 0 = .ok (.aload_n 0, 1) := by decide +kernel
theorem dX8_factOf_1 : decode cX8_factOf 1 = .ok (.iload_n 1, 1) := by decide +kernel
theorem dX8_factOf_2 : decode cX8_factOf 2 = .ok (.invokevirtual 62, 3) := by decide +kernel
theorem dX8_factOf_5 : decode cX8_factOf 5 = .ok (.ifCond .eq 20, 3) := by decide +kernel
theorem dX8_factOf_8 : decode cX8_factOf 8 = .ok (.aload_n 0, 1) := by decide +kernel
theorem dX8_factOf_9 : decode cX8_factOf 9 = .ok (.getfield 11, 3) := by decide +kernel
theorem dX8_factOf_12 : decode cX8_factOf 12 = .ok (.iload_n 1, 1) := by decide +kernel
theorem dX8_factOf_13 : decode cX8_factOf 13 = .ok (.aaload, 1) := by decide +kernel
theorem dX8_factOf_14 : decode cX8_factOf 14 = .ok (.iload_n 2, 1) := by decide +kernel
theorem dX8_factOf_15 : decode cX8_factOf 15 = .ok (.aload_n 0, 1) := by decide +kernel
theorem dX8_factOf_16 : decode cX8_factOf 16 = .ok (.getfield 46, 3) := by decide +kernel
theorem dX8_factOf_19 : decode cX8_factOf 19 = .ok (.invokevirtual 66, 3) := by decide +kernel
theorem dX8_factOf_22 : decode cX8_factOf 22 = .ok (.goto 4, 3) := by decide +kernel
theorem dX8_factOf_25 : decode cX8_factOf 25 = .ok (.iconst 0, 1) := by decide +kernel
theorem dX8_factOf_26 : decode cX8_factOf 26 = .ok (.ireturn, 1) := by decide +kernel
theorem dX8_angleOf_0 : decode cX8_angleOf 0 = .ok (.aload_n 0, 1) := by decide +kernel
theorem dX8_angleOf_1 : decode cX8_angleOf 1 = .ok (.iload_n 1, 1) := by decide +kernel
theorem dX8_angleOf_2 : decode cX8_angleOf 2 = .ok (.invokevirtual 62, 3) := by decide +kernel
theorem dX8_angleOf_5 : decode cX8_angleOf 5 = .ok (.ifCond .eq 15, 3) := by decide +kernel
theorem dX8_angleOf_8 : decode cX8_angleOf 8 = .ok (.aload_n 0, 1) := by decide +kernel
theorem dX8_angleOf_9 : decode cX8_angleOf 9 = .ok (.getfield 11, 3) := by decide +kernel
theorem dX8_angleOf_12 : decode cX8_angleOf 12 = .ok (.iload_n 1, 1) := by decide +kernel
theorem dX8_angleOf_13 : decode cX8_angleOf 13 = .ok (.aaload, 1) := by decide +kernel
theorem dX8_angleOf_14 : decode cX8_angleOf 14 = .ok (.invokevirtual 69, 3) := by decide +kernel
theorem dX8_angleOf_17 : decode cX8_angleOf 17 = .ok (.goto 4, 3) := by decide +kernel
theorem dX8_angleOf_20 : decode cX8_angleOf 20 = .ok (.iconst 0, 1) := by decide +kernel
theorem dX8_angleOf_21 : decode cX8_angleOf 21 = .ok (.ireturn, 1) := by decide +kernel
theorem dX8_lapOf_0 : decode cX8_lapOf 0 = .ok (.aload_n 0, 1) := by decide +kernel
theorem dX8_lapOf_1 : decode cX8_lapOf 1 = .ok (.iload_n 1, 1) := by decide +kernel
theorem dX8_lapOf_2 : decode cX8_lapOf 2 = .ok (.invokevirtual 62, 3) := by decide +kernel
theorem dX8_lapOf_5 : decode cX8_lapOf 5 = .ok (.ifCond .eq 15, 3) := by decide +kernel
theorem dX8_lapOf_8 : decode cX8_lapOf 8 = .ok (.aload_n 0, 1) := by decide +kernel
theorem dX8_lapOf_9 : decode cX8_lapOf 9 = .ok (.getfield 11, 3) := by decide +kernel
theorem dX8_lapOf_12 : decode cX8_lapOf 12 = .ok (.iload_n 1, 1) := by decide +kernel
theorem dX8_lapOf_13 : decode cX8_lapOf 13 = .ok (.aaload, 1) := by decide +kernel
theorem dX8_lapOf_14 : decode cX8_lapOf 14 = .ok (.invokevirtual 72, 3) := by decide +kernel
theorem dX8_lapOf_17 : decode cX8_lapOf 17 = .ok (.goto 4, 3) := by decide +kernel
theorem dX8_lapOf_20 : decode cX8_lapOf 20 = .ok (.iconst 0, 1) := by decide +kernel
theorem dX8_lapOf_21 : decode cX8_lapOf 21 = .ok (.ireturn, 1) := by decide +kernel
theorem dX8_isRetro_0 : decode cX8_isRetro 0 = .ok (.aload_n 0, 1) := by decide +kernel
theorem dX8_isRetro_1 : decode cX8_isRetro 1 = .ok (.iload_n 1, 1) := by decide +kernel
theorem dX8_isRetro_2 : decode cX8_isRetro 2 = .ok (.invokevirtual 62, 3) := by decide +kernel
theorem dX8_isRetro_5 : decode cX8_isRetro 5 = .ok (.ifCond .eq 23, 3) := by decide +kernel
theorem dX8_isRetro_8 : decode cX8_isRetro 8 = .ok (.aload_n 0, 1) := by decide +kernel
theorem dX8_isRetro_9 : decode cX8_isRetro 9 = .ok (.getfield 11, 3) := by decide +kernel
theorem dX8_isRetro_12 : decode cX8_isRetro 12 = .ok (.iload_n 1, 1) := by decide +kernel
theorem dX8_isRetro_13 : decode cX8_isRetro 13 = .ok (.aaload, 1) := by decide +kernel
theorem dX8_isRetro_14 : decode cX8_isRetro 14 = .ok (.aload_n 0, 1) := by decide +kernel
theorem dX8_isRetro_15 : decode cX8_isRetro 15 = .ok (.getfield 46, 3) := by decide +kernel
theorem dX8_isRetro_18 : decode cX8_isRetro 18 = .ok (.invokevirtual 75, 3) := by decide +kernel
theorem dX8_isRetro_21 : decode cX8_isRetro 21 = .ok (.ifCond .eq 7, 3) := by decide +kernel
theorem dX8_isRetro_24 : decode cX8_isRetro 24 = .ok (.iconst 1, 1) := by decide +kernel
theorem dX8_isRetro_25 : decode cX8_isRetro 25 = .ok (.goto 4, 3) := by decide +kernel
theorem dX8_isRetro_28 : decode cX8_isRetro 28 = .ok (.iconst 0, 1) := by decide +kernel
theorem dX8_isRetro_29 : decode cX8_isRetro 29 = .ok (.ireturn, 1) := by decide +kernel
theorem dX8_putAt_0 : decode cX8_putAt 0 = .ok (.aload_n 0, 1) := by decide +kernel
theorem dX8_putAt_1 : decode cX8_putAt 1 = .ok (.iload_n 1, 1) := by decide +kernel
theorem dX8_putAt_2 : decode cX8_putAt 2 = .ok (.invokevirtual 62, 3) := by decide +kernel
theorem dX8_putAt_5 : decode cX8_putAt 5 = .ok (.ifCond .eq 13, 3) := by decide +kernel
theorem dX8_putAt_8 : decode cX8_putAt 8 = .ok (.aload_n 0, 1) := by decide +kernel
theorem dX8_putAt_9 : decode cX8_putAt 9 = .ok (.getfield 11, 3) := by decide +kernel
theorem dX8_putAt_12 : decode cX8_putAt 12 = .ok (.iload_n 1, 1) := by decide +kernel
theorem dX8_putAt_13 : decode cX8_putAt 13 = .ok (.aaload, 1) := by decide +kernel
theorem dX8_putAt_14 : decode cX8_putAt 14 = .ok (.iload_n 2, 1) := by decide +kernel
theorem dX8_putAt_15 : decode cX8_putAt 15 = .ok (.invokevirtual 78, 3) := by decide +kernel
theorem dX8_putAt_18 : decode cX8_putAt 18 = .ok (.return_, 1) := by decide +kernel
theorem dX8_gapOf_0 : decode cX8_gapOf 0 = .ok (.aload_n 0, 1) := by decide +kernel
theorem dX8_gapOf_1 : decode cX8_gapOf 1 = .ok (.iload_n 1, 1) := by decide +kernel
theorem dX8_gapOf_2 : decode cX8_gapOf 2 = .ok (.invokevirtual 62, 3) := by decide +kernel
theorem dX8_gapOf_5 : decode cX8_gapOf 5 = .ok (.ifCond .eq 36, 3) := by decide +kernel
theorem dX8_gapOf_8 : decode cX8_gapOf 8 = .ok (.aload_n 0, 1) := by decide +kernel
theorem dX8_gapOf_9 : decode cX8_gapOf 9 = .ok (.iload_n 2, 1) := by decide +kernel
theorem dX8_gapOf_10 : decode cX8_gapOf 10 = .ok (.invokevirtual 62, 3) := by decide +kernel
theorem dX8_gapOf_13 : decode cX8_gapOf 13 = .ok (.ifCond .eq 28, 3) := by decide +kernel
theorem dX8_gapOf_16 : decode cX8_gapOf 16 = .ok (.aload_n 0, 1) := by decide +kernel
theorem dX8_gapOf_17 : decode cX8_gapOf 17 = .ok (.getfield 11, 3) := by decide +kernel
theorem dX8_gapOf_20 : decode cX8_gapOf 20 = .ok (.iload_n 1, 1) := by decide +kernel
theorem dX8_gapOf_21 : decode cX8_gapOf 21 = .ok (.aaload, 1) := by decide +kernel
theorem dX8_gapOf_22 : decode cX8_gapOf 22 = .ok (.invokevirtual 69, 3) := by decide +kernel
theorem dX8_gapOf_25 : decode cX8_gapOf 25 = .ok (.aload_n 0, 1) := by decide +kernel
theorem dX8_gapOf_26 : decode cX8_gapOf 26 = .ok (.getfield 11, 3) := by decide +kernel
theorem dX8_gapOf_29 : decode cX8_gapOf 29 = .ok (.iload_n 2, 1) := by decide +kernel
theorem dX8_gapOf_30 : decode cX8_gapOf 30 = .ok (.aaload, 1) := by decide +kernel
theorem dX8_gapOf_31 : decode cX8_gapOf 31 = .ok (.invokevirtual 69, 3) := by decide +kernel
theorem dX8_gapOf_34 : decode cX8_gapOf 34 = .ok (.isub, 1) := by decide +kernel
theorem dX8_gapOf_35 : decode cX8_gapOf 35 = .ok (.invokestatic 82, 3) := by decide +kernel
theorem dX8_gapOf_38 : decode cX8_gapOf 38 = .ok (.goto 4, 3) := by decide +kernel
theorem dX8_gapOf_41 : decode cX8_gapOf 41 = .ok (.iconst 0, 1) := by decide +kernel
theorem dX8_gapOf_42 : decode cX8_gapOf 42 = .ok (.ireturn, 1) := by decide +kernel
theorem dX8_areMet_0 : decode cX8_areMet 0 = .ok (.aload_n 0, 1) := by decide +kernel
theorem dX8_areMet_1 : decode cX8_areMet 1 = .ok (.iload_n 1, 1) := by decide +kernel
theorem dX8_areMet_2 : decode cX8_areMet 2 = .ok (.invokevirtual 62, 3) := by decide +kernel
theorem dX8_areMet_5 : decode cX8_areMet 5 = .ok (.ifCond .eq 11, 3) := by decide +kernel
theorem dX8_areMet_8 : decode cX8_areMet 8 = .ok (.aload_n 0, 1) := by decide +kernel
theorem dX8_areMet_9 : decode cX8_areMet 9 = .ok (.iload_n 2, 1) := by decide +kernel
theorem dX8_areMet_10 : decode cX8_areMet 10 = .ok (.invokevirtual 62, 3) := by decide +kernel
theorem dX8_areMet_13 : decode cX8_areMet 13 = .ok (.ifCond .ne 5, 3) := by decide +kernel
theorem dX8_areMet_16 : decode cX8_areMet 16 = .ok (.iconst 0, 1) := by decide +kernel
theorem dX8_areMet_17 : decode cX8_areMet 17 = .ok (.ireturn, 1) := by decide +kernel
theorem dX8_areMet_18 : decode cX8_areMet 18 = .ok (.iload_n 3, 1) := by decide +kernel
theorem dX8_areMet_19 : decode cX8_areMet 19 = .ok (.ifCond .eq 9, 3) := by decide +kernel
theorem dX8_areMet_22 : decode cX8_areMet 22 = .ok (.sipush 180, 3) := by decide +kernel
theorem dX8_areMet_25 : decode cX8_areMet 25 = .ok (.goto 4, 3) := by decide +kernel
theorem dX8_areMet_28 : decode cX8_areMet 28 = .ok (.iconst 0, 1) := by decide +kernel
theorem dX8_areMet_29 : decode cX8_areMet 29 = .ok (.istore 4, 2) := by decide +kernel
theorem dX8_areMet_31 : decode cX8_areMet 31 = .ok (.aload_n 0, 1) := by decide +kernel
theorem dX8_areMet_32 : decode cX8_areMet 32 = .ok (.getfield 11, 3) := by decide +kernel
theorem dX8_areMet_35 : decode cX8_areMet 35 = .ok (.iload_n 1, 1) := by decide +kernel
theorem dX8_areMet_36 : decode cX8_areMet 36 = .ok (.aaload, 1) := by decide +kernel
theorem dX8_areMet_37 : decode cX8_areMet 37 = .ok (.invokevirtual 69, 3) := by decide +kernel
theorem dX8_areMet_40 : decode cX8_areMet 40 = .ok (.aload_n 0, 1) := by decide +kernel
theorem dX8_areMet_41 : decode cX8_areMet 41 = .ok (.getfield 11, 3) := by decide +kernel
theorem dX8_areMet_44 : decode cX8_areMet 44 = .ok (.iload_n 2, 1) := by decide +kernel
theorem dX8_areMet_45 : decode cX8_areMet 45 = .ok (.aaload, 1) := by decide +kernel
theorem dX8_areMet_46 : decode cX8_areMet 46 = .ok (.invokevirtual 69, 3) := by decide +kernel
theorem dX8_areMet_49 : decode cX8_areMet 49 = .ok (.isub, 1) := by decide +kernel
theorem dX8_areMet_50 : decode cX8_areMet 50 = .ok (.iload 4, 2) := by decide +kernel
theorem dX8_areMet_52 : decode cX8_areMet 52 = .ok (.isub, 1) := by decide +kernel
theorem dX8_areMet_53 : decode cX8_areMet 53 = .ok (.invokestatic 82, 3) := by decide +kernel
theorem dX8_areMet_56 : decode cX8_areMet 56 = .ok (.istore 5, 2) := by decide +kernel
theorem dX8_areMet_58 : decode cX8_areMet 58 = .ok (.aload_n 0, 1) := by decide +kernel
theorem dX8_areMet_59 : decode cX8_areMet 59 = .ok (.getfield 11, 3) := by decide +kernel
theorem dX8_areMet_62 : decode cX8_areMet 62 = .ok (.iload_n 1, 1) := by decide +kernel
theorem dX8_areMet_63 : decode cX8_areMet 63 = .ok (.aaload, 1) := by decide +kernel
theorem dX8_areMet_64 : decode cX8_areMet 64 = .ok (.invokevirtual 86, 3) := by decide +kernel
theorem dX8_areMet_67 : decode cX8_areMet 67 = .ok (.aload_n 0, 1) := by decide +kernel
theorem dX8_areMet_68 : decode cX8_areMet 68 = .ok (.getfield 11, 3) := by decide +kernel
theorem dX8_areMet_71 : decode cX8_areMet 71 = .ok (.iload_n 2, 1) := by decide +kernel
theorem dX8_areMet_72 : decode cX8_areMet 72 = .ok (.aaload, 1) := by decide +kernel
theorem dX8_areMet_73 : decode cX8_areMet 73 = .ok (.invokevirtual 86, 3) := by decide +kernel
theorem dX8_areMet_76 : decode cX8_areMet 76 = .ok (.isub, 1) := by decide +kernel
theorem dX8_areMet_77 : decode cX8_areMet 77 = .ok (.iload 4, 2) := by decide +kernel
theorem dX8_areMet_79 : decode cX8_areMet 79 = .ok (.isub, 1) := by decide +kernel
theorem dX8_areMet_80 : decode cX8_areMet 80 = .ok (.invokestatic 82, 3) := by decide +kernel
theorem dX8_areMet_83 : decode cX8_areMet 83 = .ok (.istore 6, 2) := by decide +kernel
theorem dX8_areMet_85 : decode cX8_areMet 85 = .ok (.iload 5, 2) := by decide +kernel
theorem dX8_areMet_87 : decode cX8_areMet 87 = .ok (.ifCond .ne 5, 3) := by decide +kernel
theorem dX8_areMet_90 : decode cX8_areMet 90 = .ok (.iconst 1, 1) := by decide +kernel
theorem dX8_areMet_91 : decode cX8_areMet 91 = .ok (.ireturn, 1) := by decide +kernel
theorem dX8_areMet_92 : decode cX8_areMet 92 = .ok (.iload 6, 2) := by decide +kernel
theorem dX8_areMet_94 : decode cX8_areMet 94 = .ok (.ifCond .ge 8, 3) := by decide +kernel
theorem dX8_areMet_97 : decode cX8_areMet 97 = .ok (.iload 5, 2) := by decide +kernel
theorem dX8_areMet_99 : decode cX8_areMet 99 = .ok (.ifCond .gt 13, 3) := by decide +kernel
theorem dX8_areMet_102 : decode cX8_areMet 102 = .ok (.iload 6, 2) := by decide +kernel
theorem dX8_areMet_104 : decode cX8_areMet 104 = .ok (.ifCond .le 12, 3) := by decide +kernel
theorem dX8_areMet_107 : decode cX8_areMet 107 = .ok (.iload 5, 2) := by decide +kernel
theorem dX8_areMet_109 : decode cX8_areMet 109 = .ok (.ifCond .ge 7, 3) := by decide +kernel
theorem dX8_areMet_112 : decode cX8_areMet 112 = .ok (.iconst 1, 1) := by decide +kernel
theorem dX8_areMet_113 : decode cX8_areMet 113 = .ok (.goto 4, 3) := by decide +kernel
theorem dX8_areMet_116 : decode cX8_areMet 116 = .ok (.iconst 0, 1) := by decide +kernel
theorem dX8_areMet_117 : decode cX8_areMet 117 = .ok (.istore 7, 2) := by decide +kernel
theorem dX8_areMet_119 : decode cX8_areMet 119 = .ok (.iload 7, 2) := by decide +kernel
theorem dX8_areMet_121 : decode cX8_areMet 121 = .ok (.ifCond .eq 24, 3) := by decide +kernel
theorem dX8_areMet_124 : decode cX8_areMet 124 = .ok (.iload 6, 2) := by decide +kernel
theorem dX8_areMet_126 : decode cX8_areMet 126 = .ok (.invokestatic 89, 3) := by decide +kernel
theorem dX8_areMet_129 : decode cX8_areMet 129 = .ok (.iload 5, 2) := by decide +kernel
theorem dX8_areMet_131 : decode cX8_areMet 131 = .ok (.invokestatic 89, 3) := by decide +kernel
theorem dX8_areMet_134 : decode cX8_areMet 134 = .ok (.iadd, 1) := by decide +kernel
theorem dX8_areMet_135 : decode cX8_areMet 135 = .ok (.sipush 180, 3) := by decide +kernel
theorem dX8_areMet_138 : decode cX8_areMet 138 = .ok (.if_icmp .ge 7, 3) := by decide +kernel
theorem dX8_areMet_141 : decode cX8_areMet 141 = .ok (.iconst 1, 1) := by decide +kernel
theorem dX8_areMet_142 : decode cX8_areMet 142 = .ok (.goto 4, 3) := by decide +kernel
theorem dX8_areMet_145 : decode cX8_areMet 145 = .ok (.iconst 0, 1) := by decide +kernel
theorem dX8_areMet_146 : decode cX8_areMet 146 = .ok (.ireturn, 1) := by decide +kernel
theorem dX8_isInside_0 : decode cX8_isInside 0 = .ok (.aload_n 0, 1) := by decide +kernel
theorem dX8_isInside_1 : decode cX8_isInside 1 = .ok (.iload_n 1, 1) := by decide +kernel
theorem dX8_isInside_2 : decode cX8_isInside 2 = .ok (.invokevirtual 62, 3) := by decide +kernel
theorem dX8_isInside_5 : decode cX8_isInside 5 = .ok (.ifCond .eq 36, 3) := by decide +kernel
theorem dX8_isInside_8 : decode cX8_isInside 8 = .ok (.aload_n 0, 1) := by decide +kernel
theorem dX8_isInside_9 : decode cX8_isInside 9 = .ok (.iload_n 2, 1) := by decide +kernel
theorem dX8_isInside_10 : decode cX8_isInside 10 = .ok (.invokevirtual 62, 3) := by decide +kernel
theorem dX8_isInside_13 : decode cX8_isInside 13 = .ok (.ifCond .eq 28, 3) := by decide +kernel
theorem dX8_isInside_16 : decode cX8_isInside 16 = .ok (.aload_n 0, 1) := by decide +kernel
theorem dX8_isInside_17 : decode cX8_isInside 17 = .ok (.getfield 11, 3) := by decide +kernel
theorem dX8_isInside_20 : decode cX8_isInside 20 = .ok (.iload_n 1, 1) := by decide +kernel
theorem dX8_isInside_21 : decode cX8_isInside 21 = .ok (.aaload, 1) := by decide +kernel
theorem dX8_isInside_22 : decode cX8_isInside 22 = .ok (.invokevirtual 92, 3) := by decide +kernel
theorem dX8_isInside_25 : decode cX8_isInside 25 = .ok (.aload_n 0, 1) := by decide +kernel
theorem dX8_isInside_26 : decode cX8_isInside 26 = .ok (.getfield 11, 3) := by decide +kernel
theorem dX8_isInside_29 : decode cX8_isInside 29 = .ok (.iload_n 2, 1) := by decide +kernel
theorem dX8_isInside_30 : decode cX8_isInside 30 = .ok (.aaload, 1) := by decide +kernel
theorem dX8_isInside_31 : decode cX8_isInside 31 = .ok (.invokevirtual 92, 3) := by decide +kernel
theorem dX8_isInside_34 : decode cX8_isInside 34 = .ok (.if_icmp .gt 7, 3) := by decide +kernel
theorem dX8_isInside_37 : decode cX8_isInside 37 = .ok (.iconst 1, 1) := by decide +kernel
theorem dX8_isInside_38 : decode cX8_isInside 38 = .ok (.goto 4, 3) := by decide +kernel
theorem dX8_isInside_41 : decode cX8_isInside 41 = .ok (.iconst 0, 1) := by decide +kernel
theorem dX8_isInside_42 : decode cX8_isInside 42 = .ok (.ireturn, 1) := by decide +kernel
theorem dX8_writtenBy_0 : decode cX8_writtenBy 0 = .ok (.iload_n 1, 1) := by decide +kernel
theorem dX8_writtenBy_1 : decode cX8_writtenBy 1 = .ok (.ifCond .lt 18, 3) := by decide +kernel
theorem dX8_writtenBy_4 : decode cX8_writtenBy 4 = .ok (.iload_n 1, 1) := by decide +kernel
theorem dX8_writtenBy_5 : decode cX8_writtenBy 5 = .ok (.bipush 12, 2) := by decide +kernel
theorem dX8_writtenBy_7 : decode cX8_writtenBy 7 = .ok (.if_icmp .ge 12, 3) := by decide +kernel
theorem dX8_writtenBy_10 : decode cX8_writtenBy 10 = .ok (.aload_n 0, 1) := by decide +kernel
theorem dX8_writtenBy_11 : decode cX8_writtenBy 11 = .ok (.getfield 17, 3) := by decide +kernel
theorem dX8_writtenBy_14 : decode cX8_writtenBy 14 = .ok (.iload_n 1, 1) := by decide +kernel
theorem dX8_writtenBy_15 : decode cX8_writtenBy 15 = .ok (.iaload, 1) := by decide +kernel
theorem dX8_writtenBy_16 : decode cX8_writtenBy 16 = .ok (.goto 4, 3) := by decide +kernel
theorem dX8_writtenBy_19 : decode cX8_writtenBy 19 = .ok (.iconst 0, 1) := by decide +kernel
theorem dX8_writtenBy_20 : decode cX8_writtenBy 20 = .ok (.ireturn, 1) := by decide +kernel
theorem dX8_retros_0 : decode cX8_retros 0 = .ok (.iconst 0, 1) := by decide +kernel
theorem dX8_retros_1 : decode cX8_retros 1 = .ok (.istore_n 1, 1) := by decide +kernel
theorem dX8_retros_2 : decode cX8_retros 2 = .ok (.iconst 0, 1) := by decide +kernel
theorem dX8_retros_3 : decode cX8_retros 3 = .ok (.istore_n 2, 1) := by decide +kernel
theorem dX8_retros_4 : decode cX8_retros 4 = .ok (.iload_n 2, 1) := by decide +kernel
theorem dX8_retros_5 : decode cX8_retros 5 = .ok (.aload_n 0, 1) := by decide +kernel
theorem dX8_retros_6 : decode cX8_retros 6 = .ok (.getfield 38, 3) := by decide +kernel
theorem dX8_retros_9 : decode cX8_retros 9 = .ok (.if_icmp .ge 25, 3) := by decide +kernel
theorem dX8_retros_12 : decode cX8_retros 12 = .ok (.iload_n 1, 1) := by decide +kernel
theorem dX8_retros_13 : decode cX8_retros 13 = .ok (.aload_n 0, 1) := by decide +kernel
theorem dX8_retros_14 : decode cX8_retros 14 = .ok (.iload_n 2, 1) := by decide +kernel
theorem dX8_retros_15 : decode cX8_retros 15 = .ok (.invokevirtual 95, 3) := by decide +kernel
theorem dX8_retros_18 : decode cX8_retros 18 = .ok (.ifCond .eq 7, 3) := by decide +kernel
theorem dX8_retros_21 : decode cX8_retros 21 = .ok (.iconst 1, 1) := by decide +kernel
theorem dX8_retros_22 : decode cX8_retros 22 = .ok (.goto 4, 3) := by decide +kernel
theorem dX8_retros_25 : decode cX8_retros 25 = .ok (.iconst 0, 1) := by decide +kernel
theorem dX8_retros_26 : decode cX8_retros 26 = .ok (.iadd, 1) := by decide +kernel
theorem dX8_retros_27 : decode cX8_retros 27 = .ok (.istore_n 1, 1) := by decide +kernel
theorem dX8_retros_28 : decode cX8_retros 28 = .ok (.iinc 2 1, 3) := by decide +kernel
theorem dX8_retros_31 : decode cX8_retros 31 = .ok (.goto (-27), 3) := by decide +kernel
theorem dX8_retros_34 : decode cX8_retros 34 = .ok (.iload_n 1, 1) := by decide +kernel
theorem dX8_retros_35 : decode cX8_retros 35 = .ok (.ireturn, 1) := by decide +kernel
theorem dX8_transits_0 : decode cX8_transits 0 = .ok (.iconst 0, 1) := by decide +kernel
theorem dX8_transits_1 : decode cX8_transits 1 = .ok (.istore_n 1, 1) := by decide +kernel
theorem dX8_transits_2 : decode cX8_transits 2 = .ok (.iconst 0, 1) := by decide +kernel
theorem dX8_transits_3 : decode cX8_transits 3 = .ok (.istore_n 2, 1) := by decide +kernel
theorem dX8_transits_4 : decode cX8_transits 4 = .ok (.iload_n 2, 1) := by decide +kernel
theorem dX8_transits_5 : decode cX8_transits 5 = .ok (.aload_n 0, 1) := by decide +kernel
theorem dX8_transits_6 : decode cX8_transits 6 = .ok (.getfield 38, 3) := by decide +kernel
theorem dX8_transits_9 : decode cX8_transits 9 = .ok (.if_icmp .ge 45, 3) := by decide +kernel
theorem dX8_transits_12 : decode cX8_transits 12 = .ok (.iload_n 2, 1) := by decide +kernel
theorem dX8_transits_13 : decode cX8_transits 13 = .ok (.iconst 1, 1) := by decide +kernel
theorem dX8_transits_14 : decode cX8_transits 14 = .ok (.iadd, 1) := by decide +kernel
theorem dX8_transits_15 : decode cX8_transits 15 = .ok (.istore_n 3, 1) := by decide +kernel
theorem dX8_transits_16 : decode cX8_transits 16 = .ok (.iload_n 3, 1) := by decide +kernel
theorem dX8_transits_17 : decode cX8_transits 17 = .ok (.aload_n 0, 1) := by decide +kernel
theorem dX8_transits_18 : decode cX8_transits 18 = .ok (.getfield 38, 3) := by decide +kernel
theorem dX8_transits_21 : decode cX8_transits 21 = .ok (.if_icmp .ge 27, 3) := by decide +kernel
theorem dX8_transits_24 : decode cX8_transits 24 = .ok (.iload_n 1, 1) := by decide +kernel
theorem dX8_transits_25 : decode cX8_transits 25 = .ok (.aload_n 0, 1) := by decide +kernel
theorem dX8_transits_26 : decode cX8_transits 26 = .ok (.iload_n 2, 1) := by decide +kernel
theorem dX8_transits_27 : decode cX8_transits 27 = .ok (.iload_n 3, 1) := by decide +kernel
theorem dX8_transits_28 : decode cX8_transits 28 = .ok (.iconst 0, 1) := by decide +kernel
theorem dX8_transits_29 : decode cX8_transits 29 = .ok (.invokevirtual 96, 3) := by decide +kernel
theorem dX8_transits_32 : decode cX8_transits 32 = .ok (.ifCond .eq 7, 3) := by decide +kernel
theorem dX8_transits_35 : decode cX8_transits 35 = .ok (.iconst 1, 1) := by decide +kernel
theorem dX8_transits_36 : decode cX8_transits 36 = .ok (.goto 4, 3) := by decide +kernel
theorem dX8_transits_39 : decode cX8_transits 39 = .ok (.iconst 0, 1) := by decide +kernel
theorem dX8_transits_40 : decode cX8_transits 40 = .ok (.iadd, 1) := by decide +kernel
theorem dX8_transits_41 : decode cX8_transits 41 = .ok (.istore_n 1, 1) := by decide +kernel
theorem dX8_transits_42 : decode cX8_transits 42 = .ok (.iinc 3 1, 3) := by decide +kernel
theorem dX8_transits_45 : decode cX8_transits 45 = .ok (.goto (-29), 3) := by decide +kernel
theorem dX8_transits_48 : decode cX8_transits 48 = .ok (.iinc 2 1, 3) := by decide +kernel
theorem dX8_transits_51 : decode cX8_transits 51 = .ok (.goto (-47), 3) := by decide +kernel
theorem dX8_transits_54 : decode cX8_transits 54 = .ok (.iload_n 1, 1) := by decide +kernel
theorem dX8_transits_55 : decode cX8_transits 55 = .ok (.ireturn, 1) := by decide +kernel
theorem dX8_laps_0 : decode cX8_laps 0 = .ok (.iconst 0, 1) := by decide +kernel
theorem dX8_laps_1 : decode cX8_laps 1 = .ok (.istore_n 1, 1) := by decide +kernel
theorem dX8_laps_2 : decode cX8_laps 2 = .ok (.iconst 0, 1) := by decide +kernel
theorem dX8_laps_3 : decode cX8_laps 3 = .ok (.istore_n 2, 1) := by decide +kernel
theorem dX8_laps_4 : decode cX8_laps 4 = .ok (.iload_n 2, 1) := by decide +kernel
theorem dX8_laps_5 : decode cX8_laps 5 = .ok (.aload_n 0, 1) := by decide +kernel
theorem dX8_laps_6 : decode cX8_laps 6 = .ok (.getfield 38, 3) := by decide +kernel
theorem dX8_laps_9 : decode cX8_laps 9 = .ok (.if_icmp .ge 21, 3) := by decide +kernel
theorem dX8_laps_12 : decode cX8_laps 12 = .ok (.iload_n 1, 1) := by decide +kernel
theorem dX8_laps_13 : decode cX8_laps 13 = .ok (.aload_n 0, 1) := by decide +kernel
theorem dX8_laps_14 : decode cX8_laps 14 = .ok (.getfield 11, 3) := by decide +kernel
theorem dX8_laps_17 : decode cX8_laps 17 = .ok (.iload_n 2, 1) := by decide +kernel
theorem dX8_laps_18 : decode cX8_laps 18 = .ok (.aaload, 1) := by decide +kernel
theorem dX8_laps_19 : decode cX8_laps 19 = .ok (.invokevirtual 72, 3) := by decide +kernel
theorem dX8_laps_22 : decode cX8_laps 22 = .ok (.iadd, 1) := by decide +kernel
theorem dX8_laps_23 : decode cX8_laps 23 = .ok (.istore_n 1, 1) := by decide +kernel
theorem dX8_laps_24 : decode cX8_laps 24 = .ok (.iinc 2 1, 3) := by decide +kernel
theorem dX8_laps_27 : decode cX8_laps 27 = .ok (.goto (-23), 3) := by decide +kernel
theorem dX8_laps_30 : decode cX8_laps 30 = .ok (.iload_n 1, 1) := by decide +kernel
theorem dX8_laps_31 : decode cX8_laps 31 = .ok (.ireturn, 1) := by decide +kernel
theorem dX8_standsAs_0 : decode cX8_standsAs 0 = .ok (.iconst 0, 1) := by decide +kernel
theorem dX8_standsAs_1 : decode cX8_standsAs 1 = .ok (.istore_n 2, 1) := by decide +kernel
theorem dX8_standsAs_2 : decode cX8_standsAs 2 = .ok (.iload_n 2, 1) := by decide +kernel
theorem dX8_standsAs_3 : decode cX8_standsAs 3 = .ok (.aload_n 0, 1) := by decide +kernel
theorem dX8_standsAs_4 : decode cX8_standsAs 4 = .ok (.getfield 38, 3) := by decide +kernel
theorem dX8_standsAs_7 : decode cX8_standsAs 7 = .ok (.if_icmp .ge 28, 3) := by decide +kernel
theorem dX8_standsAs_10 : decode cX8_standsAs 10 = .ok (.aload_n 0, 1) := by decide +kernel
theorem dX8_standsAs_11 : decode cX8_standsAs 11 = .ok (.getfield 11, 3) := by decide +kernel
theorem dX8_standsAs_14 : decode cX8_standsAs 14 = .ok (.iload_n 2, 1) := by decide +kernel
theorem dX8_standsAs_15 : decode cX8_standsAs 15 = .ok (.aaload, 1) := by decide +kernel
theorem dX8_standsAs_16 : decode cX8_standsAs 16 = .ok (.invokevirtual 69, 3) := by decide +kernel
theorem dX8_standsAs_19 : decode cX8_standsAs 19 = .ok (.aload_n 1, 1) := by decide +kernel
theorem dX8_standsAs_20 : decode cX8_standsAs 20 = .ok (.iload_n 2, 1) := by decide +kernel
theorem dX8_standsAs_21 : decode cX8_standsAs 21 = .ok (.invokevirtual 100, 3) := by decide +kernel
theorem dX8_standsAs_24 : decode cX8_standsAs 24 = .ok (.if_icmp .eq 5, 3) := by decide +kernel
theorem dX8_standsAs_27 : decode cX8_standsAs 27 = .ok (.iconst 0, 1) := by decide +kernel
theorem dX8_standsAs_28 : decode cX8_standsAs 28 = .ok (.ireturn, 1) := by decide +kernel
theorem dX8_standsAs_29 : decode cX8_standsAs 29 = .ok (.iinc 2 1, 3) := by decide +kernel
theorem dX8_standsAs_32 : decode cX8_standsAs 32 = .ok (.goto (-30), 3) := by decide +kernel
theorem dX8_standsAs_35 : decode cX8_standsAs 35 = .ok (.iconst 1, 1) := by decide +kernel
theorem dX8_standsAs_36 : decode cX8_standsAs 36 = .ok (.ireturn, 1) := by decide +kernel
theorem dX8_live_0 : decode cX8_live 0 = .ok (.aload_n 0, 1) := by decide +kernel
theorem dX8_live_1 : decode cX8_live 1 = .ok (.getfield 24, 3) := by decide +kernel
theorem dX8_live_4 : decode cX8_live 4 = .ok (.invokevirtual 103, 3) := by decide +kernel
theorem dX8_live_7 : decode cX8_live 7 = .ok (.istore_n 3, 1) := by decide +kernel
theorem dX8_live_8 : decode cX8_live 8 = .ok (.iconst 0, 1) := by decide +kernel
theorem dX8_live_9 : decode cX8_live 9 = .ok (.istore 4, 2) := by decide +kernel
theorem dX8_live_11 : decode cX8_live 11 = .ok (.iload 4, 2) := by decide +kernel
theorem dX8_live_13 : decode cX8_live 13 = .ok (.iload_n 1, 1) := by decide +kernel
theorem dX8_live_14 : decode cX8_live 14 = .ok (.if_icmp .ge 89, 3) := by decide +kernel
theorem dX8_live_17 : decode cX8_live 17 = .ok (.aload_n 0, 1) := by decide +kernel
theorem dX8_live_18 : decode cX8_live 18 = .ok (.invokevirtual 106, 3) := by decide +kernel
theorem dX8_live_21 : decode cX8_live 21 = .ok (.iconst 0, 1) := by decide +kernel
theorem dX8_live_22 : decode cX8_live 22 = .ok (.istore 5, 2) := by decide +kernel
theorem dX8_live_24 : decode cX8_live 24 = .ok (.iload 5, 2) := by decide +kernel
theorem dX8_live_26 : decode cX8_live 26 = .ok (.bipush 12, 2) := by decide +kernel
theorem dX8_live_28 : decode cX8_live 28 = .ok (.if_icmp .ge 69, 3) := by decide +kernel
theorem dX8_live_31 : decode cX8_live 31 = .ok (.iload 5, 2) := by decide +kernel
theorem dX8_live_33 : decode cX8_live 33 = .ok (.aload_n 2, 1) := by decide +kernel
theorem dX8_live_34 : decode cX8_live 34 = .ok (.invokevirtual 109, 3) := by decide +kernel
theorem dX8_live_37 : decode cX8_live 37 = .ok (.if_icmp .ge 60, 3) := by decide +kernel
theorem dX8_live_40 : decode cX8_live 40 = .ok (.aload_n 0, 1) := by decide +kernel
theorem dX8_live_41 : decode cX8_live 41 = .ok (.getfield 24, 3) := by decide +kernel
theorem dX8_live_44 : decode cX8_live 44 = .ok (.invokevirtual 112, 3) := by decide +kernel
theorem dX8_live_47 : decode cX8_live 47 = .ok (.ifCond .ne 44, 3) := by decide +kernel
theorem dX8_live_50 : decode cX8_live 50 = .ok (.aload_n 2, 1) := by decide +kernel
theorem dX8_live_51 : decode cX8_live 51 = .ok (.iload 5, 2) := by decide +kernel
theorem dX8_live_53 : decode cX8_live 53 = .ok (.aload_n 0, 1) := by decide +kernel
theorem dX8_live_54 : decode cX8_live 54 = .ok (.invokevirtual 116, 3) := by decide +kernel
theorem dX8_live_57 : decode cX8_live 57 = .ok (.ifCond .eq 34, 3) := by decide +kernel
theorem dX8_live_60 : decode cX8_live 60 = .ok (.aload_n 0, 1) := by decide +kernel
theorem dX8_live_61 : decode cX8_live 61 = .ok (.getfield 24, 3) := by decide +kernel
theorem dX8_live_64 : decode cX8_live 64 = .ok (.aload_n 2, 1) := by decide +kernel
theorem dX8_live_65 : decode cX8_live 65 = .ok (.iload 5, 2) := by decide +kernel
theorem dX8_live_67 : decode cX8_live 67 = .ok (.aload_n 2, 1) := by decide +kernel
theorem dX8_live_68 : decode cX8_live 68 = .ok (.iload 5, 2) := by decide +kernel
theorem dX8_live_70 : decode cX8_live 70 = .ok (.aload_n 0, 1) := by decide +kernel
theorem dX8_live_71 : decode cX8_live 71 = .ok (.invokevirtual 120, 3) := by decide +kernel
theorem dX8_live_74 : decode cX8_live 74 = .ok (.invokevirtual 124, 3) := by decide +kernel
theorem dX8_live_77 : decode cX8_live 77 = .ok (.invokevirtual 127, 3) := by decide +kernel
theorem dX8_live_80 : decode cX8_live 80 = .ok (.aload_n 0, 1) := by decide +kernel
theorem dX8_live_81 : decode cX8_live 81 = .ok (.getfield 17, 3) := by decide +kernel
theorem dX8_live_84 : decode cX8_live 84 = .ok (.iload 5, 2) := by decide +kernel
theorem dX8_live_86 : decode cX8_live 86 = .ok (.dup2, 1) := by decide +kernel
theorem dX8_live_87 : decode cX8_live 87 = .ok (.iaload, 1) := by decide +kernel
theorem dX8_live_88 : decode cX8_live 88 = .ok (.iconst 1, 1) := by decide +kernel
theorem dX8_live_89 : decode cX8_live 89 = .ok (.iadd, 1) := by decide +kernel
theorem dX8_live_90 : decode cX8_live 90 = .ok (.iastore, 1) := by decide +kernel
theorem dX8_live_91 : decode cX8_live 91 = .ok (.iinc 5 1, 3) := by decide +kernel
theorem dX8_live_94 : decode cX8_live 94 = .ok (.goto (-70), 3) := by decide +kernel
theorem dX8_live_97 : decode cX8_live 97 = .ok (.iinc 4 1, 3) := by decide +kernel
theorem dX8_live_100 : decode cX8_live 100 = .ok (.goto (-89), 3) := by decide +kernel
theorem dX8_live_103 : decode cX8_live 103 = .ok (.aload_n 0, 1) := by decide +kernel
theorem dX8_live_104 : decode cX8_live 104 = .ok (.getfield 24, 3) := by decide +kernel
theorem dX8_live_107 : decode cX8_live 107 = .ok (.invokevirtual 103, 3) := by decide +kernel
theorem dX8_live_110 : decode cX8_live 110 = .ok (.iload_n 3, 1) := by decide +kernel
theorem dX8_live_111 : decode cX8_live 111 = .ok (.isub, 1) := by decide +kernel
theorem dX8_live_112 : decode cX8_live 112 = .ok (.ireturn, 1) := by decide +kernel
theorem dX8_turn_0 : decode cX8_turn 0 = .ok (.aload_n 0, 1) := by decide +kernel
theorem dX8_turn_1 : decode cX8_turn 1 = .ok (.dup, 1) := by decide +kernel
theorem dX8_turn_2 : decode cX8_turn 2 = .ok (.getfield 46, 3) := by decide +kernel
theorem dX8_turn_5 : decode cX8_turn 5 = .ok (.iconst 1, 1) := by decide +kernel
theorem dX8_turn_6 : decode cX8_turn 6 = .ok (.iadd, 1) := by decide +kernel
theorem dX8_turn_7 : decode cX8_turn 7 = .ok (.putfield 46, 3) := by decide +kernel
theorem dX8_turn_10 : decode cX8_turn 10 = .ok (.iconst 0, 1) := by decide +kernel
theorem dX8_turn_11 : decode cX8_turn 11 = .ok (.istore_n 1, 1) := by decide +kernel
theorem dX8_turn_12 : decode cX8_turn 12 = .ok (.iload_n 1, 1) := by decide +kernel
theorem dX8_turn_13 : decode cX8_turn 13 = .ok (.aload_n 0, 1) := by decide +kernel
theorem dX8_turn_14 : decode cX8_turn 14 = .ok (.getfield 38, 3) := by decide +kernel
theorem dX8_turn_17 : decode cX8_turn 17 = .ok (.if_icmp .ge 22, 3) := by decide +kernel
theorem dX8_turn_20 : decode cX8_turn 20 = .ok (.aload_n 0, 1) := by decide +kernel
theorem dX8_turn_21 : decode cX8_turn 21 = .ok (.getfield 11, 3) := by decide +kernel
theorem dX8_turn_24 : decode cX8_turn 24 = .ok (.iload_n 1, 1) := by decide +kernel
theorem dX8_turn_25 : decode cX8_turn 25 = .ok (.aaload, 1) := by decide +kernel
theorem dX8_turn_26 : decode cX8_turn 26 = .ok (.aload_n 0, 1) := by decide +kernel
theorem dX8_turn_27 : decode cX8_turn 27 = .ok (.getfield 46, 3) := by decide +kernel
theorem dX8_turn_30 : decode cX8_turn 30 = .ok (.invokevirtual 130, 3) := by decide +kernel
theorem dX8_turn_33 : decode cX8_turn 33 = .ok (.iinc 1 1, 3) := by decide +kernel
theorem dX8_turn_36 : decode cX8_turn 36 = .ok (.goto (-24), 3) := by decide +kernel
theorem dX8_turn_39 : decode cX8_turn 39 = .ok (.return_, 1) := by decide +kernel
theorem dX9_init_0 : decode cX9_init 0 = .ok (.aload_n 0, 1) := by decide +kernel
theorem dX9_init_1 : decode cX9_init 1 = .ok (.invokespecial 1, 3) := by decide +kernel
theorem dX9_init_4 : decode cX9_init 4 = .ok (.aload_n 0, 1) := by decide +kernel
theorem dX9_init_5 : decode cX9_init 5 = .ok (.sipush 2000, 3) := by decide +kernel
theorem dX9_init_8 : decode cX9_init 8 = .ok (.newarray .int, 2) := by decide +kernel
theorem dX9_init_10 : decode cX9_init 10 = .ok (.putfield 9, 3) := by decide +kernel
theorem dX9_init_13 : decode cX9_init 13 = .ok (.return_, 1) := by decide +kernel
theorem dX9_size_0 : decode cX9_size 0 = .ok (.aload_n 0, 1) := by decide +kernel
theorem dX9_size_1 : decode cX9_size 1 = .ok (.getfield 13, 3) := by decide +kernel
theorem dX9_size_4 : decode cX9_size 4 = .ok (.ireturn, 1) := by decide +kernel
theorem dX9_hasRoomFor_0 : decode cX9_hasRoomFor 0 = .ok (.aload_n 0, 1) := by decide +kernel
theorem dX9_hasRoomFor_1 : decode cX9_hasRoomFor 1 = .ok (.getfield 13, 3) := by decide +kernel
theorem dX9_hasRoomFor_4 : decode cX9_hasRoomFor 4 = .ok (.iload_n 1, 1) := by decide +kernel
theorem dX9_hasRoomFor_5 : decode cX9_hasRoomFor 5 = .ok (.iadd, 1) := by decide +kernel
theorem dX9_hasRoomFor_6 : decode cX9_hasRoomFor 6 = .ok (.sipush 2000, 3) := by decide +kernel
theorem dX9_hasRoomFor_9 : decode cX9_hasRoomFor 9 = .ok (.if_icmp .gt 7, 3) := by decide +kernel
theorem dX9_hasRoomFor_12 : decode cX9_hasRoomFor 12 = .ok (.iconst 1, 1) := by decide +kernel
theorem dX9_hasRoomFor_13 : decode cX9_hasRoomFor 13 = .ok (.goto 4, 3) := by decide +kernel
theorem dX9_hasRoomFor_16 : decode cX9_hasRoomFor 16 = .ok (.iconst 0, 1) := by decide +kernel
theorem dX9_hasRoomFor_17 : decode cX9_hasRoomFor 17 = .ok (.ireturn, 1) := by decide +kernel
theorem dX9_appendNumber_0 : decode cX9_appendNumber 0 = .ok (.aload_n 0, 1) := by decide +kernel
theorem dX9_appendNumber_1 : decode cX9_appendNumber 1 = .ok (.iload_n 1, 1) := by decide +kernel
theorem dX9_appendNumber_2 : decode cX9_appendNumber 2 = .ok (.bipush 24, 2) := by decide +kernel
theorem dX9_appendNumber_4 : decode cX9_appendNumber 4 = .ok (.iushr, 1) := by decide +kernel
theorem dX9_appendNumber_5 : decode cX9_appendNumber 5 = .ok (.invokevirtual 17, 3) := by decide +kernel
theorem dX9_appendNumber_8 : decode cX9_appendNumber 8 = .ok (.aload_n 0, 1) := by decide +kernel
theorem dX9_appendNumber_9 : decode cX9_appendNumber 9 = .ok (.iload_n 1, 1) := by decide +kernel
theorem dX9_appendNumber_10 : decode cX9_appendNumber 10 = .ok (.bipush 16, 2) := by decide +kernel
theorem dX9_appendNumber_12 : decode cX9_appendNumber 12 = .ok (.iushr, 1) := by decide +kernel
theorem dX9_appendNumber_13 : decode cX9_appendNumber 13 = .ok (.invokevirtual 17, 3) := by decide +kernel
theorem dX9_appendNumber_16 : decode cX9_appendNumber 16 = .ok (.aload_n 0, 1) := by decide +kernel
theorem dX9_appendNumber_17 : decode cX9_appendNumber 17 = .ok (.iload_n 1, 1) := by decide +kernel
theorem dX9_appendNumber_18 : decode cX9_appendNumber 18 = .ok (.bipush 8, 2) := by decide +kernel
theorem dX9_appendNumber_20 : decode cX9_appendNumber 20 = .ok (.iushr, 1) := by decide +kernel
theorem dX9_appendNumber_21 : decode cX9_appendNumber 21 = .ok (.invokevirtual 17, 3) := by decide +kernel
theorem dX9_appendNumber_24 : decode cX9_appendNumber 24 = .ok (.aload_n 0, 1) := by decide +kernel
theorem dX9_appendNumber_25 : decode cX9_appendNumber 25 = .ok (.iload_n 1, 1) := by decide +kernel
theorem dX9_appendNumber_26 : decode cX9_appendNumber 26 = .ok (.invokevirtual 17, 3) := by decide +kernel
theorem dX9_appendNumber_29 : decode cX9_appendNumber 29 = .ok (.return_, 1) := by decide +kernel
theorem dX9_append_0 : decode cX9_append 0 = .ok (.aload_n 0, 1) := by decide +kernel
theorem dX9_append_1 : decode cX9_append 1 = .ok (.getfield 13, 3) := by decide +kernel
theorem dX9_append_4 : decode cX9_append 4 = .ok (.sipush 2000, 3) := by decide +kernel
theorem dX9_append_7 : decode cX9_append 7 = .ok (.if_icmp .ge 27, 3) := by decide +kernel
theorem dX9_append_10 : decode cX9_append 10 = .ok (.aload_n 0, 1) := by decide +kernel
theorem dX9_append_11 : decode cX9_append 11 = .ok (.getfield 9, 3) := by decide +kernel
theorem dX9_append_14 : decode cX9_append 14 = .ok (.aload_n 0, 1) := by decide +kernel
theorem dX9_append_15 : decode cX9_append 15 = .ok (.getfield 13, 3) := by decide +kernel
theorem dX9_append_18 : decode cX9_append 18 = .ok (.iload_n 1, 1) := by decide +kernel
theorem dX9_append_19 : decode cX9_append 19 = .ok (.sipush 255, 3) := by decide +kernel
theorem dX9_append_22 : decode cX9_append 22 = .ok (.iand, 1) := by decide +kernel
theorem dX9_append_23 : decode cX9_append 23 = .ok (.iastore, 1) := by decide +kernel
theorem dX9_append_24 : decode cX9_append 24 = .ok (.aload_n 0, 1) := by decide +kernel
theorem dX9_append_25 : decode cX9_append 25 = .ok (.dup, 1) := by decide +kernel
theorem dX9_append_26 : decode cX9_append 26 = .ok (.getfield 13, 3) := by decide +kernel
theorem dX9_append_29 : decode cX9_append 29 = .ok (.iconst 1, 1) := by decide +kernel
theorem dX9_append_30 : decode cX9_append 30 = .ok (.iadd, 1) := by decide +kernel
theorem dX9_append_31 : decode cX9_append 31 = .ok (.putfield 13, 3) := by decide +kernel
theorem dX9_append_34 : decode cX9_append 34 = .ok (.return_, 1) := by decide +kernel
theorem dX9_keepFirst_0 : decode cX9_keepFirst 0 = .ok (.iload_n 1, 1) := by decide +kernel
theorem dX9_keepFirst_1 : decode cX9_keepFirst 1 = .ok (.ifCond .lt 16, 3) := by decide +kernel
theorem dX9_keepFirst_4 : decode cX9_keepFirst 4 = .ok (.iload_n 1, 1) := by decide +kernel
theorem dX9_keepFirst_5 : decode cX9_keepFirst 5 = .ok (.aload_n 0, 1) := by decide +kernel
theorem dX9_keepFirst_6 : decode cX9_keepFirst 6 = .ok (.getfield 13, 3) := by decide +kernel
theorem dX9_keepFirst_9 : decode cX9_keepFirst 9 = .ok (.if_icmp .ge 8, 3) := by decide +kernel
theorem dX9_keepFirst_12 : decode cX9_keepFirst 12 = .ok (.aload_n 0, 1) := by decide +kernel
theorem dX9_keepFirst_13 : decode cX9_keepFirst 13 = .ok (.iload_n 1, 1) := by decide +kernel
theorem dX9_keepFirst_14 : decode cX9_keepFirst 14 = .ok (.putfield 13, 3) := by decide +kernel
theorem dX9_keepFirst_17 : decode cX9_keepFirst 17 = .ok (.return_, 1) := by decide +kernel
theorem dX9_at_0 : decode cX9_at 0 = .ok (.iload_n 1, 1) := by decide +kernel
theorem dX9_at_1 : decode cX9_at 1 = .ok (.ifCond .lt 20, 3) := by decide +kernel
theorem dX9_at_4 : decode cX9_at 4 = .ok (.iload_n 1, 1) := by decide +kernel
theorem dX9_at_5 : decode cX9_at 5 = .ok (.aload_n 0, 1) := by decide +kernel
theorem dX9_at_6 : decode cX9_at 6 = .ok (.getfield 13, 3) := by decide +kernel
theorem dX9_at_9 : decode cX9_at 9 = .ok (.if_icmp .ge 12, 3) := by decide +kernel
theorem dX9_at_12 : decode cX9_at 12 = .ok (.aload_n 0, 1) := by decide +kernel
theorem dX9_at_13 : decode cX9_at 13 = .ok (.getfield 9, 3) := by decide +kernel
theorem dX9_at_16 : decode cX9_at 16 = .ok (.iload_n 1, 1) := by decide +kernel
theorem dX9_at_17 : decode cX9_at 17 = .ok (.iaload, 1) := by decide +kernel
theorem dX9_at_18 : decode cX9_at 18 = .ok (.goto 4, 3) := by decide +kernel
theorem dX9_at_21 : decode cX9_at 21 = .ok (.iconst 0, 1) := by decide +kernel
theorem dX9_at_22 : decode cX9_at 22 = .ok (.ireturn, 1) := by decide +kernel
theorem dX9_isAt_0 : decode cX9_isAt 0 = .ok (.iload_n 1, 1) := by decide +kernel
theorem dX9_isAt_1 : decode cX9_isAt 1 = .ok (.ifCond .lt 16, 3) := by decide +kernel
theorem dX9_isAt_4 : decode cX9_isAt 4 = .ok (.iload_n 1, 1) := by decide +kernel
theorem dX9_isAt_5 : decode cX9_isAt 5 = .ok (.aload_n 2, 1) := by decide +kernel
theorem dX9_isAt_6 : decode cX9_isAt 6 = .ok (.invokevirtual 21, 3) := by decide +kernel
theorem dX9_isAt_9 : decode cX9_isAt 9 = .ok (.iadd, 1) := by decide +kernel
theorem dX9_isAt_10 : decode cX9_isAt 10 = .ok (.aload_n 0, 1) := by decide +kernel
theorem dX9_isAt_11 : decode cX9_isAt 11 = .ok (.getfield 13, 3) := by decide +kernel
theorem dX9_isAt_14 : decode cX9_isAt 14 = .ok (.if_icmp .le 5, 3) := by decide +kernel
theorem dX9_isAt_17 : decode cX9_isAt 17 = .ok (.iconst 0, 1) := by decide +kernel
theorem dX9_isAt_18 : decode cX9_isAt 18 = .ok (.ireturn, 1) := by decide +kernel
theorem dX9_isAt_19 : decode cX9_isAt 19 = .ok (.iconst 0, 1) := by decide +kernel
theorem dX9_isAt_20 : decode cX9_isAt 20 = .ok (.istore_n 3, 1) := by decide +kernel
theorem dX9_isAt_21 : decode cX9_isAt 21 = .ok (.iload_n 3, 1) := by decide +kernel
theorem dX9_isAt_22 : decode cX9_isAt 22 = .ok (.aload_n 2, 1) := by decide +kernel
theorem dX9_isAt_23 : decode cX9_isAt 23 = .ok (.invokevirtual 21, 3) := by decide +kernel
theorem dX9_isAt_26 : decode cX9_isAt 26 = .ok (.if_icmp .ge 27, 3) := by decide +kernel
theorem dX9_isAt_29 : decode cX9_isAt 29 = .ok (.aload_n 0, 1) := by decide +kernel
theorem dX9_isAt_30 : decode cX9_isAt 30 = .ok (.getfield 9, 3) := by decide +kernel
theorem dX9_isAt_33 : decode cX9_isAt 33 = .ok (.iload_n 1, 1) := by decide +kernel
theorem dX9_isAt_34 : decode cX9_isAt 34 = .ok (.iload_n 3, 1) := by decide +kernel
theorem dX9_isAt_35 : decode cX9_isAt 35 = .ok (.iadd, 1) := by decide +kernel
theorem dX9_isAt_36 : decode cX9_isAt 36 = .ok (.iaload, 1) := by decide +kernel
theorem dX9_isAt_37 : decode cX9_isAt 37 = .ok (.aload_n 2, 1) := by decide +kernel
theorem dX9_isAt_38 : decode cX9_isAt 38 = .ok (.iload_n 3, 1) := by decide +kernel
theorem dX9_isAt_39 : decode cX9_isAt 39 = .ok (.invokevirtual 27, 3) := by decide +kernel
theorem dX9_isAt_42 : decode cX9_isAt 42 = .ok (.if_icmp .eq 5, 3) := by decide +kernel
theorem dX9_isAt_45 : decode cX9_isAt 45 = .ok (.iconst 0, 1) := by decide +kernel
theorem dX9_isAt_46 : decode cX9_isAt 46 = .ok (.ireturn, 1) := by decide +kernel
theorem dX9_isAt_47 : decode cX9_isAt 47 = .ok (.iinc 3 1, 3) := by decide +kernel
theorem dX9_isAt_50 : decode cX9_isAt 50 = .ok (.goto (-29), 3) := by decide +kernel
theorem dX9_isAt_53 : decode cX9_isAt 53 = .ok (.iconst 1, 1) := by decide +kernel
theorem dX9_isAt_54 : decode cX9_isAt 54 = .ok (.ireturn, 1) := by decide +kernel
theorem dX10_init_0 : decode cX10_init 0 = .ok (.aload_n 0, 1) := by decide +kernel
theorem dX10_init_1 : decode cX10_init 1 = .ok (.invokespecial 1, 3) := by decide +kernel
theorem dX10_init_4 : decode cX10_init 4 = .ok (.aload_n 0, 1) := by decide +kernel
theorem dX10_init_5 : decode cX10_init 5 = .ok (.new 7, 3) := by decide +kernel
theorem dX10_init_8 : decode cX10_init 8 = .ok (.dup, 1) := by decide +kernel
theorem dX10_init_9 : decode cX10_init 9 = .ok (.invokespecial 9, 3) := by decide +kernel
theorem dX10_init_12 : decode cX10_init 12 = .ok (.putfield 10, 3) := by decide +kernel
theorem dX10_init_15 : decode cX10_init 15 = .ok (.aload_n 0, 1) := by decide +kernel
theorem dX10_init_16 : decode cX10_init 16 = .ok (.new 16, 3) := by decide +kernel
theorem dX10_init_19 : decode cX10_init 19 = .ok (.dup, 1) := by decide +kernel
theorem dX10_init_20 : decode cX10_init 20 = .ok (.invokespecial 18, 3) := by decide +kernel
theorem dX10_init_23 : decode cX10_init 23 = .ok (.putfield 19, 3) := by decide +kernel
theorem dX10_init_26 : decode cX10_init 26 = .ok (.aload_n 0, 1) := by decide +kernel
theorem dX10_init_27 : decode cX10_init 27 = .ok (.new 16, 3) := by decide +kernel
theorem dX10_init_30 : decode cX10_init 30 = .ok (.dup, 1) := by decide +kernel
theorem dX10_init_31 : decode cX10_init 31 = .ok (.invokespecial 18, 3) := by decide +kernel
theorem dX10_init_34 : decode cX10_init 34 = .ok (.putfield 23, 3) := by decide +kernel
theorem dX10_init_37 : decode cX10_init 37 = .ok (.aload_n 0, 1) := by decide +kernel
theorem dX10_init_38 : decode cX10_init 38 = .ok (.new 26, 3) := by decide +kernel
theorem dX10_init_41 : decode cX10_init 41 = .ok (.dup, 1) := by decide +kernel
theorem dX10_init_42 : decode cX10_init 42 = .ok (.invokespecial 28, 3) := by decide +kernel
theorem dX10_init_45 : decode cX10_init 45 = .ok (.putfield 29, 3) := by decide +kernel
theorem dX10_init_48 : decode cX10_init 48 = .ok (.aload_n 0, 1) := by decide +kernel
theorem dX10_init_49 : decode cX10_init 49 = .ok (.new 26, 3) := by decide +kernel
theorem dX10_init_52 : decode cX10_init 52 = .ok (.dup, 1) := by decide +kernel
theorem dX10_init_53 : decode cX10_init 53 = .ok (.invokespecial 28, 3) := by decide +kernel
theorem dX10_init_56 : decode cX10_init 56 = .ok (.putfield 33, 3) := by decide +kernel
theorem dX10_init_59 : decode cX10_init 59 = .ok (.aload_n 0, 1) := by decide +kernel
theorem dX10_init_60 : decode cX10_init 60 = .ok (.new 36, 3) := by decide +kernel
theorem dX10_init_63 : decode cX10_init 63 = .ok (.dup, 1) := by decide +kernel
theorem dX10_init_64 : decode cX10_init 64 = .ok (.aload_n 0, 1) := by decide +kernel
theorem dX10_init_65 : decode cX10_init 65 = .ok (.getfield 10, 3) := by decide +kernel
theorem dX10_init_68 : decode cX10_init 68 = .ok (.aload_n 0, 1) := by decide +kernel
theorem dX10_init_69 : decode cX10_init 69 = .ok (.getfield 33, 3) := by decide +kernel
theorem dX10_init_72 : decode cX10_init 72 = .ok (.invokespecial 38, 3) := by decide +kernel
theorem dX10_init_75 : decode cX10_init 75 = .ok (.putfield 41, 3) := by decide +kernel
theorem dX10_init_78 : decode cX10_init 78 = .ok (.aload_n 0, 1) := by decide +kernel
theorem dX10_init_79 : decode cX10_init 79 = .ok (.iconst (-1), 1) := by decide +kernel
theorem dX10_init_80 : decode cX10_init 80 = .ok (.putfield 45, 3) := by decide +kernel
theorem dX10_init_83 : decode cX10_init 83 = .ok (.return_, 1) := by decide +kernel
theorem dX10_feed_0 : decode cX10_feed 0 = .ok (.aload_n 0, 1) := by decide +kernel
theorem dX10_feed_1 : decode cX10_feed 1 = .ok (.getfield 10, 3) := by decide +kernel
theorem dX10_feed_4 : decode cX10_feed 4 = .ok (.bipush 20, 2) := by decide +kernel
theorem dX10_feed_6 : decode cX10_feed 6 = .ok (.invokevirtual 49, 3) := by decide +kernel
theorem dX10_feed_9 : decode cX10_feed 9 = .ok (.ifCond .ne 13, 3) := by decide +kernel
theorem dX10_feed_12 : decode cX10_feed 12 = .ok (.new 53, 3) := by decide +kernel
theorem dX10_feed_15 : decode cX10_feed 15 = .ok (.dup, 1) := by decide +kernel
theorem dX10_feed_16 : decode cX10_feed 16 = .ok (.ldc 55, 2) := by decide +kernel
theorem dX10_feed_18 : decode cX10_feed 18 = .ok (.invokespecial 57, 3) := by decide +kernel
theorem dX10_feed_21 : decode cX10_feed 21 = .ok (.athrow, 1) := by decide +kernel
theorem dX10_feed_22 : decode cX10_feed 22 = .ok (.aload_n 0, 1) := by decide +kernel
theorem dX10_feed_23 : decode cX10_feed 23 = .ok (.getfield 10, 3) := by decide +kernel
theorem dX10_feed_26 : decode cX10_feed 26 = .ok (.iload_n 1, 1) := by decide +kernel
theorem dX10_feed_27 : decode cX10_feed 27 = .ok (.invokevirtual 60, 3) := by decide +kernel
theorem dX10_feed_30 : decode cX10_feed 30 = .ok (.aload_n 0, 1) := by decide +kernel
theorem dX10_feed_31 : decode cX10_feed 31 = .ok (.getfield 10, 3) := by decide +kernel
theorem dX10_feed_34 : decode cX10_feed 34 = .ok (.iload_n 2, 1) := by decide +kernel
theorem dX10_feed_35 : decode cX10_feed 35 = .ok (.invokevirtual 60, 3) := by decide +kernel
theorem dX10_feed_38 : decode cX10_feed 38 = .ok (.aload_n 0, 1) := by decide +kernel
theorem dX10_feed_39 : decode cX10_feed 39 = .ok (.getfield 10, 3) := by decide +kernel
theorem dX10_feed_42 : decode cX10_feed 42 = .ok (.iload_n 3, 1) := by decide +kernel
theorem dX10_feed_43 : decode cX10_feed 43 = .ok (.invokevirtual 60, 3) := by decide +kernel
theorem dX10_feed_46 : decode cX10_feed 46 = .ok (.aload_n 0, 1) := by decide +kernel
theorem dX10_feed_47 : decode cX10_feed 47 = .ok (.getfield 10, 3) := by decide +kernel
theorem dX10_feed_50 : decode cX10_feed 50 = .ok (.iload 4, 2) := by decide +kernel
theorem dX10_feed_52 : decode cX10_feed 52 = .ok (.invokevirtual 60, 3) := by decide +kernel
theorem dX10_feed_55 : decode cX10_feed 55 = .ok (.aload_n 0, 1) := by decide +kernel
theorem dX10_feed_56 : decode cX10_feed 56 = .ok (.getfield 10, 3) := by decide +kernel
theorem dX10_feed_59 : decode cX10_feed 59 = .ok (.iload 5, 2) := by decide +kernel
theorem dX10_feed_61 : decode cX10_feed 61 = .ok (.invokevirtual 60, 3) := by decide +kernel
theorem dX10_feed_64 : decode cX10_feed 64 = .ok (.aload_n 0, 1) := by decide +kernel
theorem dX10_feed_65 : decode cX10_feed 65 = .ok (.getfield 10, 3) := by decide +kernel
theorem dX10_feed_68 : decode cX10_feed 68 = .ok (.invokevirtual 64, 3) := by decide +kernel
theorem dX10_feed_71 : decode cX10_feed 71 = .ok (.ireturn, 1) := by decide +kernel
theorem dX10_trim_0 : decode cX10_trim 0 = .ok (.iload_n 1, 1) := by decide +kernel
theorem dX10_trim_1 : decode cX10_trim 1 = .ok (.ifCond .lt 14, 3) := by decide +kernel
theorem dX10_trim_4 : decode cX10_trim 4 = .ok (.iload_n 1, 1) := by decide +kernel
theorem dX10_trim_5 : decode cX10_trim 5 = .ok (.aload_n 0, 1) := by decide +kernel
theorem dX10_trim_6 : decode cX10_trim 6 = .ok (.getfield 10, 3) := by decide +kernel
theorem dX10_trim_9 : decode cX10_trim 9 = .ok (.invokevirtual 64, 3) := by decide +kernel
theorem dX10_trim_12 : decode cX10_trim 12 = .ok (.if_icmp .le 13, 3) := by decide +kernel
theorem dX10_trim_15 : decode cX10_trim 15 = .ok (.new 68, 3) := by decide +kernel
theorem dX10_trim_18 : decode cX10_trim 18 = .ok (.dup, 1) := by decide +kernel
theorem dX10_trim_19 : decode cX10_trim 19 = .ok (.ldc 70, 2) := by decide +kernel
theorem dX10_trim_21 : decode cX10_trim 21 = .ok (.invokespecial 72, 3) := by decide +kernel
theorem dX10_trim_24 : decode cX10_trim 24 = .ok (.athrow, 1) := by decide +kernel
theorem dX10_trim_25 : decode cX10_trim 25 = .ok (.aload_n 0, 1) := by decide +kernel
theorem dX10_trim_26 : decode cX10_trim 26 = .ok (.getfield 10, 3) := by decide +kernel
theorem dX10_trim_29 : decode cX10_trim 29 = .ok (.iload_n 1, 1) := by decide +kernel
theorem dX10_trim_30 : decode cX10_trim 30 = .ok (.invokevirtual 73, 3) := by decide +kernel
theorem dX10_trim_33 : decode cX10_trim 33 = .ok (.iload_n 1, 1) := by decide +kernel
theorem dX10_trim_34 : decode cX10_trim 34 = .ok (.ireturn, 1) := by decide +kernel
theorem dX10_teach_0 : decode cX10_teach 0 = .ok (.aload_n 0, 1) := by decide +kernel
theorem dX10_teach_1 : decode cX10_teach 1 = .ok (.getfield 41, 3) := by decide +kernel
theorem dX10_teach_4 : decode cX10_teach 4 = .ok (.aload_n 0, 1) := by decide +kernel
theorem dX10_teach_5 : decode cX10_teach 5 = .ok (.getfield 33, 3) := by decide +kernel
theorem dX10_teach_8 : decode cX10_teach 8 = .ok (.invokevirtual 76, 3) := by decide +kernel
theorem dX10_teach_11 : decode cX10_teach 11 = .ok (.istore_n 1, 1) := by decide +kernel
theorem dX10_teach_12 : decode cX10_teach 12 = .ok (.aload_n 0, 1) := by decide +kernel
theorem dX10_teach_13 : decode cX10_teach 13 = .ok (.aload_n 0, 1) := by decide +kernel
theorem dX10_teach_14 : decode cX10_teach 14 = .ok (.getfield 41, 3) := by decide +kernel
theorem dX10_teach_17 : decode cX10_teach 17 = .ok (.invokevirtual 80, 3) := by decide +kernel
theorem dX10_teach_20 : decode cX10_teach 20 = .ok (.putfield 45, 3) := by decide +kernel
theorem dX10_teach_23 : decode cX10_teach 23 = .ok (.aload_n 0, 1) := by decide +kernel
theorem dX10_teach_24 : decode cX10_teach 24 = .ok (.getfield 10, 3) := by decide +kernel
theorem dX10_teach_27 : decode cX10_teach 27 = .ok (.iconst 0, 1) := by decide +kernel
theorem dX10_teach_28 : decode cX10_teach 28 = .ok (.invokevirtual 73, 3) := by decide +kernel
theorem dX10_teach_31 : decode cX10_teach 31 = .ok (.iload_n 1, 1) := by decide +kernel
theorem dX10_teach_32 : decode cX10_teach 32 = .ok (.ifCond .ne 32, 3) := by decide +kernel
theorem dX10_teach_35 : decode cX10_teach 35 = .ok (.aload_n 0, 1) := by decide +kernel
theorem dX10_teach_36 : decode cX10_teach 36 = .ok (.getfield 29, 3) := by decide +kernel
theorem dX10_teach_39 : decode cX10_teach 39 = .ok (.astore_n 2, 1) := by decide +kernel
theorem dX10_teach_40 : decode cX10_teach 40 = .ok (.aload_n 0, 1) := by decide +kernel
theorem dX10_teach_41 : decode cX10_teach 41 = .ok (.aload_n 0, 1) := by decide +kernel
theorem dX10_teach_42 : decode cX10_teach 42 = .ok (.getfield 33, 3) := by decide +kernel
theorem dX10_teach_45 : decode cX10_teach 45 = .ok (.putfield 29, 3) := by decide +kernel
theorem dX10_teach_48 : decode cX10_teach 48 = .ok (.aload_n 0, 1) := by decide +kernel
theorem dX10_teach_49 : decode cX10_teach 49 = .ok (.aload_n 2, 1) := by decide +kernel
theorem dX10_teach_50 : decode cX10_teach 50 = .ok (.putfield 33, 3) := by decide +kernel
theorem dX10_teach_53 : decode cX10_teach 53 = .ok (.aload_n 0, 1) := by decide +kernel
theorem dX10_teach_54 : decode cX10_teach 54 = .ok (.getfield 19, 3) := by decide +kernel
theorem dX10_teach_57 : decode cX10_teach 57 = .ok (.aload_n 0, 1) := by decide +kernel
theorem dX10_teach_58 : decode cX10_teach 58 = .ok (.getfield 29, 3) := by decide +kernel
theorem dX10_teach_61 : decode cX10_teach 61 = .ok (.invokevirtual 83, 3) := by decide +kernel
theorem dX10_teach_64 : decode cX10_teach 64 = .ok (.iload_n 1, 1) := by decide +kernel
theorem dX10_teach_65 : decode cX10_teach 65 = .ok (.ireturn, 1) := by decide +kernel
theorem dX10_errorAt_0 : decode cX10_errorAt 0 = .ok (.aload_n 0, 1) := by decide +kernel
theorem dX10_errorAt_1 : decode cX10_errorAt 1 = .ok (.getfield 45, 3) := by decide +kernel
theorem dX10_errorAt_4 : decode cX10_errorAt 4 = .ok (.ireturn, 1) := by decide +kernel
theorem dX10_count_0 : decode cX10_count 0 = .ok (.iload_n 1, 1) := by decide +kernel
theorem dX10_count_1 : decode cX10_count 1 = .ok (.ifCond .lt 9, 3) := by decide +kernel
theorem dX10_count_4 : decode cX10_count 4 = .ok (.iload_n 1, 1) := by decide +kernel
theorem dX10_count_5 : decode cX10_count 5 = .ok (.bipush 8, 2) := by decide +kernel
theorem dX10_count_7 : decode cX10_count 7 = .ok (.if_icmp .lt 13, 3) := by decide +kernel
theorem dX10_count_10 : decode cX10_count 10 = .ok (.new 87, 3) := by decide +kernel
theorem dX10_count_13 : decode cX10_count 13 = .ok (.dup, 1) := by decide +kernel
theorem dX10_count_14 : decode cX10_count 14 = .ok (.ldc 89, 2) := by decide +kernel
theorem dX10_count_16 : decode cX10_count 16 = .ok (.invokespecial 91, 3) := by decide +kernel
theorem dX10_count_19 : decode cX10_count 19 = .ok (.athrow, 1) := by decide +kernel
theorem dX10_count_20 : decode cX10_count 20 = .ok (.aload_n 0, 1) := by decide +kernel
theorem dX10_count_21 : decode cX10_count 21 = .ok (.iload_n 1, 1) := by decide +kernel
theorem dX10_count_22 : decode cX10_count 22 = .ok (.invokevirtual 92, 3) := by decide +kernel
theorem dX10_count_25 : decode cX10_count 25 = .ok (.ireturn, 1) := by decide +kernel
theorem dX10_planet_0 : decode cX10_planet 0 = .ok (.aload_n 0, 1) := by decide +kernel
theorem dX10_planet_1 : decode cX10_planet 1 = .ok (.getfield 19, 3) := by decide +kernel
theorem dX10_planet_4 : decode cX10_planet 4 = .ok (.iload_n 1, 1) := by decide +kernel
theorem dX10_planet_5 : decode cX10_planet 5 = .ok (.invokevirtual 96, 3) := by decide +kernel
theorem dX10_planet_8 : decode cX10_planet 8 = .ok (.ifCond .eq 13, 3) := by decide +kernel
theorem dX10_planet_11 : decode cX10_planet 11 = .ok (.iload_n 2, 1) := by decide +kernel
theorem dX10_planet_12 : decode cX10_planet 12 = .ok (.ifCond .lt 9, 3) := by decide +kernel
theorem dX10_planet_15 : decode cX10_planet 15 = .ok (.iload_n 2, 1) := by decide +kernel
theorem dX10_planet_16 : decode cX10_planet 16 = .ok (.bipush 7, 2) := by decide +kernel
theorem dX10_planet_18 : decode cX10_planet 18 = .ok (.if_icmp .lt 13, 3) := by decide +kernel
theorem dX10_planet_21 : decode cX10_planet 21 = .ok (.new 87, 3) := by decide +kernel
theorem dX10_planet_24 : decode cX10_planet 24 = .ok (.dup, 1) := by decide +kernel
theorem dX10_planet_25 : decode cX10_planet 25 = .ok (.ldc 99, 2) := by decide +kernel
theorem dX10_planet_27 : decode cX10_planet 27 = .ok (.invokespecial 91, 3) := by decide +kernel
theorem dX10_planet_30 : decode cX10_planet 30 = .ok (.athrow, 1) := by decide +kernel
theorem dX10_planet_31 : decode cX10_planet 31 = .ok (.aload_n 0, 1) := by decide +kernel
theorem dX10_planet_32 : decode cX10_planet 32 = .ok (.getfield 19, 3) := by decide +kernel
theorem dX10_planet_35 : decode cX10_planet 35 = .ok (.iload_n 1, 1) := by decide +kernel
theorem dX10_planet_36 : decode cX10_planet 36 = .ok (.iload_n 2, 1) := by decide +kernel
theorem dX10_planet_37 : decode cX10_planet 37 = .ok (.invokevirtual 101, 3) := by decide +kernel
theorem dX10_planet_40 : decode cX10_planet 40 = .ok (.ireturn, 1) := by decide +kernel
theorem dX10_set_0 : decode cX10_set 0 = .ok (.aload_n 0, 1) := by decide +kernel
theorem dX10_set_1 : decode cX10_set 1 = .ok (.getfield 19, 3) := by decide +kernel
theorem dX10_set_4 : decode cX10_set 4 = .ok (.iload_n 1, 1) := by decide +kernel
theorem dX10_set_5 : decode cX10_set 5 = .ok (.invokevirtual 96, 3) := by decide +kernel
theorem dX10_set_8 : decode cX10_set 8 = .ok (.ifCond .ne 13, 3) := by decide +kernel
theorem dX10_set_11 : decode cX10_set 11 = .ok (.new 87, 3) := by decide +kernel
theorem dX10_set_14 : decode cX10_set 14 = .ok (.dup, 1) := by decide +kernel
theorem dX10_set_15 : decode cX10_set 15 = .ok (.ldc 105, 2) := by decide +kernel
theorem dX10_set_17 : decode cX10_set 17 = .ok (.invokespecial 91, 3) := by decide +kernel
theorem dX10_set_20 : decode cX10_set 20 = .ok (.athrow, 1) := by decide +kernel
theorem dX10_set_21 : decode cX10_set 21 = .ok (.iload_n 2, 1) := by decide +kernel
theorem dX10_set_22 : decode cX10_set 22 = .ok (.ifCond .lt 10, 3) := by decide +kernel
theorem dX10_set_25 : decode cX10_set 25 = .ok (.iload_n 2, 1) := by decide +kernel
theorem dX10_set_26 : decode cX10_set 26 = .ok (.sipush 360, 3) := by decide +kernel
theorem dX10_set_29 : decode cX10_set 29 = .ok (.if_icmp .lt 13, 3) := by decide +kernel
theorem dX10_set_32 : decode cX10_set 32 = .ok (.new 68, 3) := by decide +kernel
theorem dX10_set_35 : decode cX10_set 35 = .ok (.dup, 1) := by decide +kernel
theorem dX10_set_36 : decode cX10_set 36 = .ok (.ldc 109, 2) := by decide +kernel
theorem dX10_set_38 : decode cX10_set 38 = .ok (.invokespecial 72, 3) := by decide +kernel
theorem dX10_set_41 : decode cX10_set 41 = .ok (.athrow, 1) := by decide +kernel
theorem dX10_set_42 : decode cX10_set 42 = .ok (.aload_n 0, 1) := by decide +kernel
theorem dX10_set_43 : decode cX10_set 43 = .ok (.getfield 19, 3) := by decide +kernel
theorem dX10_set_46 : decode cX10_set 46 = .ok (.iload_n 1, 1) := by decide +kernel
theorem dX10_set_47 : decode cX10_set 47 = .ok (.invokevirtual 111, 3) := by decide +kernel
theorem dX10_set_50 : decode cX10_set 50 = .ok (.istore_n 3, 1) := by decide +kernel
theorem dX10_set_51 : decode cX10_set 51 = .ok (.aload_n 0, 1) := by decide +kernel
theorem dX10_set_52 : decode cX10_set 52 = .ok (.getfield 19, 3) := by decide +kernel
theorem dX10_set_55 : decode cX10_set 55 = .ok (.iload_n 1, 1) := by decide +kernel
theorem dX10_set_56 : decode cX10_set 56 = .ok (.iload_n 2, 1) := by decide +kernel
theorem dX10_set_57 : decode cX10_set 57 = .ok (.invokevirtual 114, 3) := by decide +kernel
theorem dX10_set_60 : decode cX10_set 60 = .ok (.iload_n 3, 1) := by decide +kernel
theorem dX10_set_61 : decode cX10_set 61 = .ok (.ireturn, 1) := by decide +kernel
theorem dX10_gap_0 : decode cX10_gap 0 = .ok (.aload_n 0, 1) := by decide +kernel
theorem dX10_gap_1 : decode cX10_gap 1 = .ok (.getfield 19, 3) := by decide +kernel
theorem dX10_gap_4 : decode cX10_gap 4 = .ok (.iload_n 1, 1) := by decide +kernel
theorem dX10_gap_5 : decode cX10_gap 5 = .ok (.invokevirtual 96, 3) := by decide +kernel
theorem dX10_gap_8 : decode cX10_gap 8 = .ok (.ifCond .eq 14, 3) := by decide +kernel
theorem dX10_gap_11 : decode cX10_gap 11 = .ok (.aload_n 0, 1) := by decide +kernel
theorem dX10_gap_12 : decode cX10_gap 12 = .ok (.getfield 19, 3) := by decide +kernel
theorem dX10_gap_15 : decode cX10_gap 15 = .ok (.iload_n 2, 1) := by decide +kernel
theorem dX10_gap_16 : decode cX10_gap 16 = .ok (.invokevirtual 96, 3) := by decide +kernel
theorem dX10_gap_19 : decode cX10_gap 19 = .ok (.ifCond .ne 13, 3) := by decide +kernel
theorem dX10_gap_22 : decode cX10_gap 22 = .ok (.new 87, 3) := by decide +kernel
theorem dX10_gap_25 : decode cX10_gap 25 = .ok (.dup, 1) := by decide +kernel
theorem dX10_gap_26 : decode cX10_gap 26 = .ok (.ldc 105, 2) := by decide +kernel
theorem dX10_gap_28 : decode cX10_gap 28 = .ok (.invokespecial 91, 3) := by decide +kernel
theorem dX10_gap_31 : decode cX10_gap 31 = .ok (.athrow, 1) := by decide +kernel
theorem dX10_gap_32 : decode cX10_gap 32 = .ok (.aload_n 0, 1) := by decide +kernel
theorem dX10_gap_33 : decode cX10_gap 33 = .ok (.getfield 19, 3) := by decide +kernel
theorem dX10_gap_36 : decode cX10_gap 36 = .ok (.iload_n 1, 1) := by decide +kernel
theorem dX10_gap_37 : decode cX10_gap 37 = .ok (.iload_n 2, 1) := by decide +kernel
theorem dX10_gap_38 : decode cX10_gap 38 = .ok (.invokevirtual 118, 3) := by decide +kernel
theorem dX10_gap_41 : decode cX10_gap 41 = .ok (.ireturn, 1) := by decide +kernel
theorem dX10_meets_0 : decode cX10_meets 0 = .ok (.aload_n 0, 1) := by decide +kernel
theorem dX10_meets_1 : decode cX10_meets 1 = .ok (.getfield 19, 3) := by decide +kernel
theorem dX10_meets_4 : decode cX10_meets 4 = .ok (.iload_n 1, 1) := by decide +kernel
theorem dX10_meets_5 : decode cX10_meets 5 = .ok (.invokevirtual 96, 3) := by decide +kernel
theorem dX10_meets_8 : decode cX10_meets 8 = .ok (.ifCond .eq 14, 3) := by decide +kernel
theorem dX10_meets_11 : decode cX10_meets 11 = .ok (.aload_n 0, 1) := by decide +kernel
theorem dX10_meets_12 : decode cX10_meets 12 = .ok (.getfield 19, 3) := by decide +kernel
theorem dX10_meets_15 : decode cX10_meets 15 = .ok (.iload_n 2, 1) := by decide +kernel
theorem dX10_meets_16 : decode cX10_meets 16 = .ok (.invokevirtual 96, 3) := by decide +kernel
theorem dX10_meets_19 : decode cX10_meets 19 = .ok (.ifCond .ne 13, 3) := by decide +kernel
theorem dX10_meets_22 : decode cX10_meets 22 = .ok (.new 87, 3) := by decide +kernel
theorem dX10_meets_25 : decode cX10_meets 25 = .ok (.dup, 1) := by decide +kernel
theorem dX10_meets_26 : decode cX10_meets 26 = .ok (.ldc 105, 2) := by decide +kernel
theorem dX10_meets_28 : decode cX10_meets 28 = .ok (.invokespecial 91, 3) := by decide +kernel
theorem dX10_meets_31 : decode cX10_meets 31 = .ok (.athrow, 1) := by decide +kernel
theorem dX10_meets_32 : decode cX10_meets 32 = .ok (.aload_n 0, 1) := by decide +kernel
theorem dX10_meets_33 : decode cX10_meets 33 = .ok (.getfield 19, 3) := by decide +kernel
theorem dX10_meets_36 : decode cX10_meets 36 = .ok (.iload_n 1, 1) := by decide +kernel
theorem dX10_meets_37 : decode cX10_meets 37 = .ok (.iload_n 2, 1) := by decide +kernel
theorem dX10_meets_38 : decode cX10_meets 38 = .ok (.iload_n 3, 1) := by decide +kernel
theorem dX10_meets_39 : decode cX10_meets 39 = .ok (.invokevirtual 121, 3) := by decide +kernel
theorem dX10_meets_42 : decode cX10_meets 42 = .ok (.ireturn, 1) := by decide +kernel
theorem dX10_letter_0 : decode cX10_letter 0 = .ok (.aload_n 0, 1) := by decide +kernel
theorem dX10_letter_1 : decode cX10_letter 1 = .ok (.getfield 29, 3) := by decide +kernel
theorem dX10_letter_4 : decode cX10_letter 4 = .ok (.iload_n 1, 1) := by decide +kernel
theorem dX10_letter_5 : decode cX10_letter 5 = .ok (.invokevirtual 125, 3) := by decide +kernel
theorem dX10_letter_8 : decode cX10_letter 8 = .ok (.ifCond .eq 19, 3) := by decide +kernel
theorem dX10_letter_11 : decode cX10_letter 11 = .ok (.iload_n 2, 1) := by decide +kernel
theorem dX10_letter_12 : decode cX10_letter 12 = .ok (.ifCond .lt 15, 3) := by decide +kernel
theorem dX10_letter_15 : decode cX10_letter 15 = .ok (.iload_n 2, 1) := by decide +kernel
theorem dX10_letter_16 : decode cX10_letter 16 = .ok (.aload_n 0, 1) := by decide +kernel
theorem dX10_letter_17 : decode cX10_letter 17 = .ok (.getfield 29, 3) := by decide +kernel
theorem dX10_letter_20 : decode cX10_letter 20 = .ok (.iload_n 1, 1) := by decide +kernel
theorem dX10_letter_21 : decode cX10_letter 21 = .ok (.invokevirtual 128, 3) := by decide +kernel
theorem dX10_letter_24 : decode cX10_letter 24 = .ok (.if_icmp .lt 13, 3) := by decide +kernel
theorem dX10_letter_27 : decode cX10_letter 27 = .ok (.new 87, 3) := by decide +kernel
theorem dX10_letter_30 : decode cX10_letter 30 = .ok (.dup, 1) := by decide +kernel
theorem dX10_letter_31 : decode cX10_letter 31 = .ok (.ldc 131, 2) := by decide +kernel
theorem dX10_letter_33 : decode cX10_letter 33 = .ok (.invokespecial 91, 3) := by decide +kernel
theorem dX10_letter_36 : decode cX10_letter 36 = .ok (.athrow, 1) := by decide +kernel
theorem dX10_letter_37 : decode cX10_letter 37 = .ok (.aload_n 0, 1) := by decide +kernel
theorem dX10_letter_38 : decode cX10_letter 38 = .ok (.getfield 29, 3) := by decide +kernel
theorem dX10_letter_41 : decode cX10_letter 41 = .ok (.iload_n 1, 1) := by decide +kernel
theorem dX10_letter_42 : decode cX10_letter 42 = .ok (.iload_n 2, 1) := by decide +kernel
theorem dX10_letter_43 : decode cX10_letter 43 = .ok (.invokevirtual 133, 3) := by decide +kernel
theorem dX10_letter_46 : decode cX10_letter 46 = .ok (.ireturn, 1) := by decide +kernel
theorem dX10_wrote_0 : decode cX10_wrote 0 = .ok (.iload_n 1, 1) := by decide +kernel
theorem dX10_wrote_1 : decode cX10_wrote 1 = .ok (.ifCond .lt 14, 3) := by decide +kernel
theorem dX10_wrote_4 : decode cX10_wrote 4 = .ok (.iload_n 1, 1) := by decide +kernel
theorem dX10_wrote_5 : decode cX10_wrote 5 = .ok (.aload_n 0, 1) := by decide +kernel
theorem dX10_wrote_6 : decode cX10_wrote 6 = .ok (.getfield 29, 3) := by decide +kernel
theorem dX10_wrote_9 : decode cX10_wrote 9 = .ok (.invokevirtual 136, 3) := by decide +kernel
theorem dX10_wrote_12 : decode cX10_wrote 12 = .ok (.if_icmp .lt 13, 3) := by decide +kernel
theorem dX10_wrote_15 : decode cX10_wrote 15 = .ok (.new 87, 3) := by decide +kernel
theorem dX10_wrote_18 : decode cX10_wrote 18 = .ok (.dup, 1) := by decide +kernel
theorem dX10_wrote_19 : decode cX10_wrote 19 = .ok (.ldc 139, 2) := by decide +kernel
theorem dX10_wrote_21 : decode cX10_wrote 21 = .ok (.invokespecial 91, 3) := by decide +kernel
theorem dX10_wrote_24 : decode cX10_wrote 24 = .ok (.athrow, 1) := by decide +kernel
theorem dX10_wrote_25 : decode cX10_wrote 25 = .ok (.aload_n 0, 1) := by decide +kernel
theorem dX10_wrote_26 : decode cX10_wrote 26 = .ok (.getfield 19, 3) := by decide +kernel
theorem dX10_wrote_29 : decode cX10_wrote 29 = .ok (.iload_n 1, 1) := by decide +kernel
theorem dX10_wrote_30 : decode cX10_wrote 30 = .ok (.invokevirtual 141, 3) := by decide +kernel
theorem dX10_wrote_33 : decode cX10_wrote 33 = .ok (.ireturn, 1) := by decide +kernel
theorem dX10_pass_0 : decode cX10_pass 0 = .ok (.iload_n 1, 1) := by decide +kernel
theorem dX10_pass_1 : decode cX10_pass 1 = .ok (.iconst 1, 1) := by decide +kernel
theorem dX10_pass_2 : decode cX10_pass 2 = .ok (.if_icmp .lt 10, 3) := by decide +kernel
theorem dX10_pass_5 : decode cX10_pass 5 = .ok (.iload_n 1, 1) := by decide +kernel
theorem dX10_pass_6 : decode cX10_pass 6 = .ok (.sipush 300, 3) := by decide +kernel
theorem dX10_pass_9 : decode cX10_pass 9 = .ok (.if_icmp .le 13, 3) := by decide +kernel
theorem dX10_pass_12 : decode cX10_pass 12 = .ok (.new 68, 3) := by decide +kernel
theorem dX10_pass_15 : decode cX10_pass 15 = .ok (.dup, 1) := by decide +kernel
theorem dX10_pass_16 : decode cX10_pass 16 = .ok (.ldc 144, 2) := by decide +kernel
theorem dX10_pass_18 : decode cX10_pass 18 = .ok (.invokespecial 72, 3) := by decide +kernel
theorem dX10_pass_21 : decode cX10_pass 21 = .ok (.athrow, 1) := by decide +kernel
theorem dX10_pass_22 : decode cX10_pass 22 = .ok (.aload_n 0, 1) := by decide +kernel
theorem dX10_pass_23 : decode cX10_pass 23 = .ok (.getfield 19, 3) := by decide +kernel
theorem dX10_pass_26 : decode cX10_pass 26 = .ok (.iload_n 1, 1) := by decide +kernel
theorem dX10_pass_27 : decode cX10_pass 27 = .ok (.aload_n 0, 1) := by decide +kernel
theorem dX10_pass_28 : decode cX10_pass 28 = .ok (.getfield 29, 3) := by decide +kernel
theorem dX10_pass_31 : decode cX10_pass 31 = .ok (.invokevirtual 146, 3) := by decide +kernel
theorem dX10_pass_34 : decode cX10_pass 34 = .ok (.ireturn, 1) := by decide +kernel
theorem dX10_byteAt_0 : decode cX10_byteAt 0 = .ok (.iload_n 1, 1) := by decide +kernel
theorem dX10_byteAt_1 : decode cX10_byteAt 1 = .ok (.ifCond .lt 17, 3) := by decide +kernel
theorem dX10_byteAt_4 : decode cX10_byteAt 4 = .ok (.iload_n 1, 1) := by decide +kernel
theorem dX10_byteAt_5 : decode cX10_byteAt 5 = .ok (.aload_n 0, 1) := by decide +kernel
theorem dX10_byteAt_6 : decode cX10_byteAt 6 = .ok (.getfield 19, 3) := by decide +kernel
theorem dX10_byteAt_9 : decode cX10_byteAt 9 = .ok (.invokevirtual 150, 3) := by decide +kernel
theorem dX10_byteAt_12 : decode cX10_byteAt 12 = .ok (.invokevirtual 154, 3) := by decide +kernel
theorem dX10_byteAt_15 : decode cX10_byteAt 15 = .ok (.if_icmp .lt 13, 3) := by decide +kernel
theorem dX10_byteAt_18 : decode cX10_byteAt 18 = .ok (.new 87, 3) := by decide +kernel
theorem dX10_byteAt_21 : decode cX10_byteAt 21 = .ok (.dup, 1) := by decide +kernel
theorem dX10_byteAt_22 : decode cX10_byteAt 22 = .ok (.ldc 157, 2) := by decide +kernel
theorem dX10_byteAt_24 : decode cX10_byteAt 24 = .ok (.invokespecial 91, 3) := by decide +kernel
theorem dX10_byteAt_27 : decode cX10_byteAt 27 = .ok (.athrow, 1) := by decide +kernel
theorem dX10_byteAt_28 : decode cX10_byteAt 28 = .ok (.aload_n 0, 1) := by decide +kernel
theorem dX10_byteAt_29 : decode cX10_byteAt 29 = .ok (.getfield 19, 3) := by decide +kernel
theorem dX10_byteAt_32 : decode cX10_byteAt 32 = .ok (.invokevirtual 150, 3) := by decide +kernel
theorem dX10_byteAt_35 : decode cX10_byteAt 35 = .ok (.iload_n 1, 1) := by decide +kernel
theorem dX10_byteAt_36 : decode cX10_byteAt 36 = .ok (.invokevirtual 159, 3) := by decide +kernel
theorem dX10_byteAt_39 : decode cX10_byteAt 39 = .ok (.ireturn, 1) := by decide +kernel
theorem dX10_clear_0 : decode cX10_clear 0 = .ok (.aload_n 0, 1) := by decide +kernel
theorem dX10_clear_1 : decode cX10_clear 1 = .ok (.getfield 19, 3) := by decide +kernel
theorem dX10_clear_4 : decode cX10_clear 4 = .ok (.invokevirtual 150, 3) := by decide +kernel
theorem dX10_clear_7 : decode cX10_clear 7 = .ok (.invokevirtual 154, 3) := by decide +kernel
theorem dX10_clear_10 : decode cX10_clear 10 = .ok (.istore_n 1, 1) := by decide +kernel
theorem dX10_clear_11 : decode cX10_clear 11 = .ok (.aload_n 0, 1) := by decide +kernel
theorem dX10_clear_12 : decode cX10_clear 12 = .ok (.getfield 19, 3) := by decide +kernel
theorem dX10_clear_15 : decode cX10_clear 15 = .ok (.invokevirtual 150, 3) := by decide +kernel
theorem dX10_clear_18 : decode cX10_clear 18 = .ok (.invokevirtual 162, 3) := by decide +kernel
theorem dX10_clear_21 : decode cX10_clear 21 = .ok (.iload_n 1, 1) := by decide +kernel
theorem dX10_clear_22 : decode cX10_clear 22 = .ok (.ireturn, 1) := by decide +kernel
theorem dX10_find_0 : decode cX10_find 0 = .ok (.aload_n 0, 1) := by decide +kernel
theorem dX10_find_1 : decode cX10_find 1 = .ok (.getfield 19, 3) := by decide +kernel
theorem dX10_find_4 : decode cX10_find 4 = .ok (.invokevirtual 150, 3) := by decide +kernel
theorem dX10_find_7 : decode cX10_find 7 = .ok (.aload_n 0, 1) := by decide +kernel
theorem dX10_find_8 : decode cX10_find 8 = .ok (.getfield 10, 3) := by decide +kernel
theorem dX10_find_11 : decode cX10_find 11 = .ok (.iconst 0, 1) := by decide +kernel
theorem dX10_find_12 : decode cX10_find 12 = .ok (.invokevirtual 165, 3) := by decide +kernel
theorem dX10_find_15 : decode cX10_find 15 = .ok (.ireturn, 1) := by decide +kernel
theorem dX10_translate_0 : decode cX10_translate 0 = .ok (.aload_n 0, 1) := by decide +kernel
theorem dX10_translate_1 : decode cX10_translate 1 = .ok (.getfield 29, 3) := by decide +kernel
theorem dX10_translate_4 : decode cX10_translate 4 = .ok (.iload_n 1, 1) := by decide +kernel
theorem dX10_translate_5 : decode cX10_translate 5 = .ok (.invokevirtual 125, 3) := by decide +kernel
theorem dX10_translate_8 : decode cX10_translate 8 = .ok (.ifCond .eq 14, 3) := by decide +kernel
theorem dX10_translate_11 : decode cX10_translate 11 = .ok (.aload_n 0, 1) := by decide +kernel
theorem dX10_translate_12 : decode cX10_translate 12 = .ok (.getfield 29, 3) := by decide +kernel
theorem dX10_translate_15 : decode cX10_translate 15 = .ok (.iload_n 2, 1) := by decide +kernel
theorem dX10_translate_16 : decode cX10_translate 16 = .ok (.invokevirtual 125, 3) := by decide +kernel
theorem dX10_translate_19 : decode cX10_translate 19 = .ok (.ifCond .ne 13, 3) := by decide +kernel
theorem dX10_translate_22 : decode cX10_translate 22 = .ok (.new 87, 3) := by decide +kernel
theorem dX10_translate_25 : decode cX10_translate 25 = .ok (.dup, 1) := by decide +kernel
theorem dX10_translate_26 : decode cX10_translate 26 = .ok (.ldc 169, 2) := by decide +kernel
theorem dX10_translate_28 : decode cX10_translate 28 = .ok (.invokespecial 91, 3) := by decide +kernel
theorem dX10_translate_31 : decode cX10_translate 31 = .ok (.athrow, 1) := by decide +kernel
theorem dX10_translate_32 : decode cX10_translate 32 = .ok (.aload_n 0, 1) := by decide +kernel
theorem dX10_translate_33 : decode cX10_translate 33 = .ok (.getfield 19, 3) := by decide +kernel
theorem dX10_translate_36 : decode cX10_translate 36 = .ok (.invokevirtual 150, 3) := by decide +kernel
theorem dX10_translate_39 : decode cX10_translate 39 = .ok (.aload_n 0, 1) := by decide +kernel
theorem dX10_translate_40 : decode cX10_translate 40 = .ok (.getfield 29, 3) := by decide +kernel
theorem dX10_translate_43 : decode cX10_translate 43 = .ok (.iload_n 1, 1) := by decide +kernel
theorem dX10_translate_44 : decode cX10_translate 44 = .ok (.iload_n 2, 1) := by decide +kernel
theorem dX10_translate_45 : decode cX10_translate 45 = .ok (.invokevirtual 171, 3) := by decide +kernel
theorem dX10_translate_48 : decode cX10_translate 48 = .ok (.ireturn, 1) := by decide +kernel
theorem dX10_foresee_0 : decode cX10_foresee 0 = .ok (.iload_n 1, 1) := by decide +kernel
theorem dX10_foresee_1 : decode cX10_foresee 1 = .ok (.iconst 1, 1) := by decide +kernel
theorem dX10_foresee_2 : decode cX10_foresee 2 = .ok (.if_icmp .lt 10, 3) := by decide +kernel
theorem dX10_foresee_5 : decode cX10_foresee 5 = .ok (.iload_n 1, 1) := by decide +kernel
theorem dX10_foresee_6 : decode cX10_foresee 6 = .ok (.sipush 300, 3) := by decide +kernel
theorem dX10_foresee_9 : decode cX10_foresee 9 = .ok (.if_icmp .le 13, 3) := by decide +kernel
theorem dX10_foresee_12 : decode cX10_foresee 12 = .ok (.new 68, 3) := by decide +kernel
theorem dX10_foresee_15 : decode cX10_foresee 15 = .ok (.dup, 1) := by decide +kernel
theorem dX10_foresee_16 : decode cX10_foresee 16 = .ok (.ldc 175, 2) := by decide +kernel
theorem dX10_foresee_18 : decode cX10_foresee 18 = .ok (.invokespecial 72, 3) := by decide +kernel
theorem dX10_foresee_21 : decode cX10_foresee 21 = .ok (.athrow, 1) := by decide +kernel
theorem dX10_foresee_22 : decode cX10_foresee 22 = .ok (.iload_n 2, 1) := by decide +kernel
theorem dX10_foresee_23 : decode cX10_foresee 23 = .ok (.ifCond .lt 8, 3) := by decide +kernel
theorem dX10_foresee_26 : decode cX10_foresee 26 = .ok (.iload_n 2, 1) := by decide +kernel
theorem dX10_foresee_27 : decode cX10_foresee 27 = .ok (.iconst 3, 1) := by decide +kernel
theorem dX10_foresee_28 : decode cX10_foresee 28 = .ok (.if_icmp .lt 13, 3) := by decide +kernel
theorem dX10_foresee_31 : decode cX10_foresee 31 = .ok (.new 87, 3) := by decide +kernel
theorem dX10_foresee_34 : decode cX10_foresee 34 = .ok (.dup, 1) := by decide +kernel
theorem dX10_foresee_35 : decode cX10_foresee 35 = .ok (.ldc 177, 2) := by decide +kernel
theorem dX10_foresee_37 : decode cX10_foresee 37 = .ok (.invokespecial 91, 3) := by decide +kernel
theorem dX10_foresee_40 : decode cX10_foresee 40 = .ok (.athrow, 1) := by decide +kernel
theorem dX10_foresee_41 : decode cX10_foresee 41 = .ok (.aload_n 0, 1) := by decide +kernel
theorem dX10_foresee_42 : decode cX10_foresee 42 = .ok (.getfield 23, 3) := by decide +kernel
theorem dX10_foresee_45 : decode cX10_foresee 45 = .ok (.aload_n 0, 1) := by decide +kernel
theorem dX10_foresee_46 : decode cX10_foresee 46 = .ok (.getfield 19, 3) := by decide +kernel
theorem dX10_foresee_49 : decode cX10_foresee 49 = .ok (.invokevirtual 179, 3) := by decide +kernel
theorem dX10_foresee_52 : decode cX10_foresee 52 = .ok (.aload_n 0, 1) := by decide +kernel
theorem dX10_foresee_53 : decode cX10_foresee 53 = .ok (.getfield 23, 3) := by decide +kernel
theorem dX10_foresee_56 : decode cX10_foresee 56 = .ok (.iload_n 1, 1) := by decide +kernel
theorem dX10_foresee_57 : decode cX10_foresee 57 = .ok (.aload_n 0, 1) := by decide +kernel
theorem dX10_foresee_58 : decode cX10_foresee 58 = .ok (.getfield 29, 3) := by decide +kernel
theorem dX10_foresee_61 : decode cX10_foresee 61 = .ok (.invokevirtual 146, 3) := by decide +kernel
theorem dX10_foresee_64 : decode cX10_foresee 64 = .ok (.istore_n 3, 1) := by decide +kernel
theorem dX10_foresee_65 : decode cX10_foresee 65 = .ok (.iload_n 2, 1) := by decide +kernel
theorem dX10_foresee_66 : decode cX10_foresee 66 = .ok (.ifCond .ne 5, 3) := by decide +kernel
theorem dX10_foresee_69 : decode cX10_foresee 69 = .ok (.iload_n 3, 1) := by decide +kernel
theorem dX10_foresee_70 : decode cX10_foresee 70 = .ok (.ireturn, 1) := by decide +kernel
theorem dX10_foresee_71 : decode cX10_foresee 71 = .ok (.iload_n 2, 1) := by decide +kernel
theorem dX10_foresee_72 : decode cX10_foresee 72 = .ok (.iconst 1, 1) := by decide +kernel
theorem dX10_foresee_73 : decode cX10_foresee 73 = .ok (.if_icmp .ne 13, 3) := by decide +kernel
theorem dX10_foresee_76 : decode cX10_foresee 76 = .ok (.aload_n 0, 1) := by decide +kernel
theorem dX10_foresee_77 : decode cX10_foresee 77 = .ok (.getfield 23, 3) := by decide +kernel
theorem dX10_foresee_80 : decode cX10_foresee 80 = .ok (.invokevirtual 183, 3) := by decide +kernel
theorem dX10_foresee_83 : decode cX10_foresee 83 = .ok (.goto 10, 3) := by decide +kernel
theorem dX10_foresee_86 : decode cX10_foresee 86 = .ok (.aload_n 0, 1) := by decide +kernel
theorem dX10_foresee_87 : decode cX10_foresee 87 = .ok (.getfield 23, 3) := by decide +kernel
theorem dX10_foresee_90 : decode cX10_foresee 90 = .ok (.invokevirtual 186, 3) := by decide +kernel
theorem dX10_foresee_93 : decode cX10_foresee 93 = .ok (.ireturn, 1) := by decide +kernel
theorem dX10_next_0 : decode cX10_next 0 = .ok (.aload_n 0, 1) := by decide +kernel
theorem dX10_next_1 : decode cX10_next 1 = .ok (.getfield 19, 3) := by decide +kernel
theorem dX10_next_4 : decode cX10_next 4 = .ok (.iload_n 1, 1) := by decide +kernel
theorem dX10_next_5 : decode cX10_next 5 = .ok (.invokevirtual 96, 3) := by decide +kernel
theorem dX10_next_8 : decode cX10_next 8 = .ok (.ifCond .eq 14, 3) := by decide +kernel
theorem dX10_next_11 : decode cX10_next 11 = .ok (.aload_n 0, 1) := by decide +kernel
theorem dX10_next_12 : decode cX10_next 12 = .ok (.getfield 19, 3) := by decide +kernel
theorem dX10_next_15 : decode cX10_next 15 = .ok (.iload_n 2, 1) := by decide +kernel
theorem dX10_next_16 : decode cX10_next 16 = .ok (.invokevirtual 96, 3) := by decide +kernel
theorem dX10_next_19 : decode cX10_next 19 = .ok (.ifCond .ne 13, 3) := by decide +kernel
theorem dX10_next_22 : decode cX10_next 22 = .ok (.new 87, 3) := by decide +kernel
theorem dX10_next_25 : decode cX10_next 25 = .ok (.dup, 1) := by decide +kernel
theorem dX10_next_26 : decode cX10_next 26 = .ok (.ldc 105, 2) := by decide +kernel
theorem dX10_next_28 : decode cX10_next 28 = .ok (.invokespecial 91, 3) := by decide +kernel
theorem dX10_next_31 : decode cX10_next 31 = .ok (.athrow, 1) := by decide +kernel
theorem dX10_next_32 : decode cX10_next 32 = .ok (.aload_n 0, 1) := by decide +kernel
theorem dX10_next_33 : decode cX10_next 33 = .ok (.getfield 23, 3) := by decide +kernel
theorem dX10_next_36 : decode cX10_next 36 = .ok (.aload_n 0, 1) := by decide +kernel
theorem dX10_next_37 : decode cX10_next 37 = .ok (.getfield 19, 3) := by decide +kernel
theorem dX10_next_40 : decode cX10_next 40 = .ok (.invokevirtual 179, 3) := by decide +kernel
theorem dX10_next_43 : decode cX10_next 43 = .ok (.iconst 1, 1) := by decide +kernel
theorem dX10_next_44 : decode cX10_next 44 = .ok (.istore 4, 2) := by decide +kernel
theorem dX10_next_46 : decode cX10_next 46 = .ok (.iload 4, 2) := by decide +kernel
theorem dX10_next_48 : decode cX10_next 48 = .ok (.sipush 1000, 3) := by decide +kernel
theorem dX10_next_51 : decode cX10_next 51 = .ok (.if_icmp .gt 32, 3) := by decide +kernel
theorem dX10_next_54 : decode cX10_next 54 = .ok (.aload_n 0, 1) := by decide +kernel
theorem dX10_next_55 : decode cX10_next 55 = .ok (.getfield 23, 3) := by decide +kernel
theorem dX10_next_58 : decode cX10_next 58 = .ok (.invokevirtual 189, 3) := by decide +kernel
theorem dX10_next_61 : decode cX10_next 61 = .ok (.aload_n 0, 1) := by decide +kernel
theorem dX10_next_62 : decode cX10_next 62 = .ok (.getfield 23, 3) := by decide +kernel
theorem dX10_next_65 : decode cX10_next 65 = .ok (.iload_n 1, 1) := by decide +kernel
theorem dX10_next_66 : decode cX10_next 66 = .ok (.iload_n 2, 1) := by decide +kernel
theorem dX10_next_67 : decode cX10_next 67 = .ok (.iload_n 3, 1) := by decide +kernel
theorem dX10_next_68 : decode cX10_next 68 = .ok (.invokevirtual 121, 3) := by decide +kernel
theorem dX10_next_71 : decode cX10_next 71 = .ok (.ifCond .eq 6, 3) := by decide +kernel
theorem dX10_next_74 : decode cX10_next 74 = .ok (.iload 4, 2) := by decide +kernel
theorem dX10_next_76 : decode cX10_next 76 = .ok (.ireturn, 1) := by decide +kernel
theorem dX10_next_77 : decode cX10_next 77 = .ok (.iinc 4 1, 3) := by decide +kernel
theorem dX10_next_80 : decode cX10_next 80 = .ok (.goto (-34), 3) := by decide +kernel
theorem dX10_next_83 : decode cX10_next 83 = .ok (.iconst (-1), 1) := by decide +kernel
theorem dX10_next_84 : decode cX10_next 84 = .ok (.ireturn, 1) := by decide +kernel
theorem dX10_spells_0 : decode cX10_spells 0 = .ok (.aload_n 0, 1) := by decide +kernel
theorem dX10_spells_1 : decode cX10_spells 1 = .ok (.getfield 10, 3) := by decide +kernel
theorem dX10_spells_4 : decode cX10_spells 4 = .ok (.invokevirtual 64, 3) := by decide +kernel
theorem dX10_spells_7 : decode cX10_spells 7 = .ok (.ifCond .ne 5, 3) := by decide +kernel
theorem dX10_spells_10 : decode cX10_spells 10 = .ok (.iconst (-1), 1) := by decide +kernel
theorem dX10_spells_11 : decode cX10_spells 11 = .ok (.ireturn, 1) := by decide +kernel
theorem dX10_spells_12 : decode cX10_spells 12 = .ok (.aload_n 0, 1) := by decide +kernel
theorem dX10_spells_13 : decode cX10_spells 13 = .ok (.getfield 19, 3) := by decide +kernel
theorem dX10_spells_16 : decode cX10_spells 16 = .ok (.invokevirtual 150, 3) := by decide +kernel
theorem dX10_spells_19 : decode cX10_spells 19 = .ok (.aload_n 0, 1) := by decide +kernel
theorem dX10_spells_20 : decode cX10_spells 20 = .ok (.getfield 10, 3) := by decide +kernel
theorem dX10_spells_23 : decode cX10_spells 23 = .ok (.iconst 0, 1) := by decide +kernel
theorem dX10_spells_24 : decode cX10_spells 24 = .ok (.invokevirtual 165, 3) := by decide +kernel
theorem dX10_spells_27 : decode cX10_spells 27 = .ok (.ifCond .lt 5, 3) := by decide +kernel
theorem dX10_spells_30 : decode cX10_spells 30 = .ok (.iconst 0, 1) := by decide +kernel
theorem dX10_spells_31 : decode cX10_spells 31 = .ok (.ireturn, 1) := by decide +kernel
theorem dX10_spells_32 : decode cX10_spells 32 = .ok (.aload_n 0, 1) := by decide +kernel
theorem dX10_spells_33 : decode cX10_spells 33 = .ok (.getfield 23, 3) := by decide +kernel
theorem dX10_spells_36 : decode cX10_spells 36 = .ok (.aload_n 0, 1) := by decide +kernel
theorem dX10_spells_37 : decode cX10_spells 37 = .ok (.getfield 19, 3) := by decide +kernel
theorem dX10_spells_40 : decode cX10_spells 40 = .ok (.invokevirtual 179, 3) := by decide +kernel
theorem dX10_spells_43 : decode cX10_spells 43 = .ok (.iconst 1, 1) := by decide +kernel
theorem dX10_spells_44 : decode cX10_spells 44 = .ok (.istore_n 1, 1) := by decide +kernel
theorem dX10_spells_45 : decode cX10_spells 45 = .ok (.iload_n 1, 1) := by decide +kernel
theorem dX10_spells_46 : decode cX10_spells 46 = .ok (.sipush 400, 3) := by decide +kernel
theorem dX10_spells_49 : decode cX10_spells 49 = .ok (.if_icmp .gt 69, 3) := by decide +kernel
theorem dX10_spells_52 : decode cX10_spells 52 = .ok (.aload_n 0, 1) := by decide +kernel
theorem dX10_spells_53 : decode cX10_spells 53 = .ok (.getfield 23, 3) := by decide +kernel
theorem dX10_spells_56 : decode cX10_spells 56 = .ok (.invokevirtual 150, 3) := by decide +kernel
theorem dX10_spells_59 : decode cX10_spells 59 = .ok (.invokevirtual 154, 3) := by decide +kernel
theorem dX10_spells_62 : decode cX10_spells 62 = .ok (.aload_n 0, 1) := by decide +kernel
theorem dX10_spells_63 : decode cX10_spells 63 = .ok (.getfield 10, 3) := by decide +kernel
theorem dX10_spells_66 : decode cX10_spells 66 = .ok (.invokevirtual 64, 3) := by decide +kernel
theorem dX10_spells_69 : decode cX10_spells 69 = .ok (.isub, 1) := by decide +kernel
theorem dX10_spells_70 : decode cX10_spells 70 = .ok (.iconst 1, 1) := by decide +kernel
theorem dX10_spells_71 : decode cX10_spells 71 = .ok (.iadd, 1) := by decide +kernel
theorem dX10_spells_72 : decode cX10_spells 72 = .ok (.istore_n 2, 1) := by decide +kernel
theorem dX10_spells_73 : decode cX10_spells 73 = .ok (.aload_n 0, 1) := by decide +kernel
theorem dX10_spells_74 : decode cX10_spells 74 = .ok (.getfield 23, 3) := by decide +kernel
theorem dX10_spells_77 : decode cX10_spells 77 = .ok (.iconst 1, 1) := by decide +kernel
theorem dX10_spells_78 : decode cX10_spells 78 = .ok (.aload_n 0, 1) := by decide +kernel
theorem dX10_spells_79 : decode cX10_spells 79 = .ok (.getfield 29, 3) := by decide +kernel
theorem dX10_spells_82 : decode cX10_spells 82 = .ok (.invokevirtual 146, 3) := by decide +kernel
theorem dX10_spells_85 : decode cX10_spells 85 = .ok (.ifCond .le 27, 3) := by decide +kernel
theorem dX10_spells_88 : decode cX10_spells 88 = .ok (.aload_n 0, 1) := by decide +kernel
theorem dX10_spells_89 : decode cX10_spells 89 = .ok (.getfield 23, 3) := by decide +kernel
theorem dX10_spells_92 : decode cX10_spells 92 = .ok (.invokevirtual 150, 3) := by decide +kernel
theorem dX10_spells_95 : decode cX10_spells 95 = .ok (.aload_n 0, 1) := by decide +kernel
theorem dX10_spells_96 : decode cX10_spells 96 = .ok (.getfield 10, 3) := by decide +kernel
theorem dX10_spells_99 : decode cX10_spells 99 = .ok (.iload_n 2, 1) := by decide +kernel
theorem dX10_spells_100 : decode cX10_spells 100 = .ok (.iconst 0, 1) := by decide +kernel
theorem dX10_spells_101 : decode cX10_spells 101 = .ok (.invokestatic 192, 3) := by decide +kernel
theorem dX10_spells_104 : decode cX10_spells 104 = .ok (.invokevirtual 165, 3) := by decide +kernel
theorem dX10_spells_107 : decode cX10_spells 107 = .ok (.ifCond .lt 5, 3) := by decide +kernel
theorem dX10_spells_110 : decode cX10_spells 110 = .ok (.iload_n 1, 1) := by decide +kernel
theorem dX10_spells_111 : decode cX10_spells 111 = .ok (.ireturn, 1) := by decide +kernel
theorem dX10_spells_112 : decode cX10_spells 112 = .ok (.iinc 1 1, 3) := by decide +kernel
theorem dX10_spells_115 : decode cX10_spells 115 = .ok (.goto (-70), 3) := by decide +kernel
theorem dX10_spells_118 : decode cX10_spells 118 = .ok (.iconst (-1), 1) := by decide +kernel
theorem dX10_spells_119 : decode cX10_spells 119 = .ok (.ireturn, 1) := by decide +kernel
theorem dX10_again_0 : decode cX10_again 0 = .ok (.iload_n 1, 1) := by decide +kernel
theorem dX10_again_1 : decode cX10_again 1 = .ok (.iconst 1, 1) := by decide +kernel
theorem dX10_again_2 : decode cX10_again 2 = .ok (.if_icmp .lt 10, 3) := by decide +kernel
theorem dX10_again_5 : decode cX10_again 5 = .ok (.iload_n 1, 1) := by decide +kernel
theorem dX10_again_6 : decode cX10_again 6 = .ok (.sipush 2000, 3) := by decide +kernel
theorem dX10_again_9 : decode cX10_again 9 = .ok (.if_icmp .le 13, 3) := by decide +kernel
theorem dX10_again_12 : decode cX10_again 12 = .ok (.new 68, 3) := by decide +kernel
theorem dX10_again_15 : decode cX10_again 15 = .ok (.dup, 1) := by decide +kernel
theorem dX10_again_16 : decode cX10_again 16 = .ok (.ldc 197, 2) := by decide +kernel
theorem dX10_again_18 : decode cX10_again 18 = .ok (.invokespecial 72, 3) := by decide +kernel
theorem dX10_again_21 : decode cX10_again 21 = .ok (.athrow, 1) := by decide +kernel
theorem dX10_again_22 : decode cX10_again 22 = .ok (.aload_n 0, 1) := by decide +kernel
theorem dX10_again_23 : decode cX10_again 23 = .ok (.getfield 19, 3) := by decide +kernel
theorem dX10_again_26 : decode cX10_again 26 = .ok (.invokevirtual 199, 3) := by decide +kernel
theorem dX10_again_29 : decode cX10_again 29 = .ok (.ifCond .ne 5, 3) := by decide +kernel
theorem dX10_again_32 : decode cX10_again 32 = .ok (.iconst (-1), 1) := by decide +kernel
theorem dX10_again_33 : decode cX10_again 33 = .ok (.ireturn, 1) := by decide +kernel
theorem dX10_again_34 : decode cX10_again 34 = .ok (.aload_n 0, 1) := by decide +kernel
theorem dX10_again_35 : decode cX10_again 35 = .ok (.getfield 23, 3) := by decide +kernel
theorem dX10_again_38 : decode cX10_again 38 = .ok (.aload_n 0, 1) := by decide +kernel
theorem dX10_again_39 : decode cX10_again 39 = .ok (.getfield 19, 3) := by decide +kernel
theorem dX10_again_42 : decode cX10_again 42 = .ok (.invokevirtual 179, 3) := by decide +kernel
theorem dX10_again_45 : decode cX10_again 45 = .ok (.iconst 1, 1) := by decide +kernel
theorem dX10_again_46 : decode cX10_again 46 = .ok (.istore_n 2, 1) := by decide +kernel
theorem dX10_again_47 : decode cX10_again 47 = .ok (.iload_n 2, 1) := by decide +kernel
theorem dX10_again_48 : decode cX10_again 48 = .ok (.iload_n 1, 1) := by decide +kernel
theorem dX10_again_49 : decode cX10_again 49 = .ok (.if_icmp .gt 32, 3) := by decide +kernel
theorem dX10_again_52 : decode cX10_again 52 = .ok (.aload_n 0, 1) := by decide +kernel
theorem dX10_again_53 : decode cX10_again 53 = .ok (.getfield 23, 3) := by decide +kernel
theorem dX10_again_56 : decode cX10_again 56 = .ok (.invokevirtual 189, 3) := by decide +kernel
theorem dX10_again_59 : decode cX10_again 59 = .ok (.aload_n 0, 1) := by decide +kernel
theorem dX10_again_60 : decode cX10_again 60 = .ok (.getfield 23, 3) := by decide +kernel
theorem dX10_again_63 : decode cX10_again 63 = .ok (.aload_n 0, 1) := by decide +kernel
theorem dX10_again_64 : decode cX10_again 64 = .ok (.getfield 19, 3) := by decide +kernel
theorem dX10_again_67 : decode cX10_again 67 = .ok (.invokevirtual 202, 3) := by decide +kernel
theorem dX10_again_70 : decode cX10_again 70 = .ok (.ifCond .eq 5, 3) := by decide +kernel
theorem dX10_again_73 : decode cX10_again 73 = .ok (.iload_n 2, 1) := by decide +kernel
theorem dX10_again_74 : decode cX10_again 74 = .ok (.ireturn, 1) := by decide +kernel
theorem dX10_again_75 : decode cX10_again 75 = .ok (.iinc 2 1, 3) := by decide +kernel
theorem dX10_again_78 : decode cX10_again 78 = .ok (.goto (-31), 3) := by decide +kernel
theorem dX10_again_81 : decode cX10_again 81 = .ok (.iconst (-1), 1) := by decide +kernel
theorem dX10_again_82 : decode cX10_again 82 = .ok (.ireturn, 1) := by decide +kernel
theorem dX10_advise_0 : decode cX10_advise 0 = .ok (.aload_n 0, 1) := by decide +kernel
theorem dX10_advise_1 : decode cX10_advise 1 = .ok (.getfield 19, 3) := by decide +kernel
theorem dX10_advise_4 : decode cX10_advise 4 = .ok (.iload_n 1, 1) := by decide +kernel
theorem dX10_advise_5 : decode cX10_advise 5 = .ok (.invokevirtual 96, 3) := by decide +kernel
theorem dX10_advise_8 : decode cX10_advise 8 = .ok (.ifCond .ne 13, 3) := by decide +kernel
theorem dX10_advise_11 : decode cX10_advise 11 = .ok (.new 87, 3) := by decide +kernel
theorem dX10_advise_14 : decode cX10_advise 14 = .ok (.dup, 1) := by decide +kernel
theorem dX10_advise_15 : decode cX10_advise 15 = .ok (.ldc 105, 2) := by decide +kernel
theorem dX10_advise_17 : decode cX10_advise 17 = .ok (.invokespecial 91, 3) := by decide +kernel
theorem dX10_advise_20 : decode cX10_advise 20 = .ok (.athrow, 1) := by decide +kernel
theorem dX10_advise_21 : decode cX10_advise 21 = .ok (.iload_n 2, 1) := by decide +kernel
theorem dX10_advise_22 : decode cX10_advise 22 = .ok (.iconst 1, 1) := by decide +kernel
theorem dX10_advise_23 : decode cX10_advise 23 = .ok (.if_icmp .lt 9, 3) := by decide +kernel
theorem dX10_advise_26 : decode cX10_advise 26 = .ok (.iload_n 2, 1) := by decide +kernel
theorem dX10_advise_27 : decode cX10_advise 27 = .ok (.bipush 60, 2) := by decide +kernel
theorem dX10_advise_29 : decode cX10_advise 29 = .ok (.if_icmp .le 13, 3) := by decide +kernel
theorem dX10_advise_32 : decode cX10_advise 32 = .ok (.new 68, 3) := by decide +kernel
theorem dX10_advise_35 : decode cX10_advise 35 = .ok (.dup, 1) := by decide +kernel
theorem dX10_advise_36 : decode cX10_advise 36 = .ok (.ldc 197, 2) := by decide +kernel
theorem dX10_advise_38 : decode cX10_advise 38 = .ok (.invokespecial 72, 3) := by decide +kernel
theorem dX10_advise_41 : decode cX10_advise 41 = .ok (.athrow, 1) := by decide +kernel
theorem dX10_advise_42 : decode cX10_advise 42 = .ok (.iconst 0, 1) := by decide +kernel
theorem dX10_advise_43 : decode cX10_advise 43 = .ok (.istore_n 3, 1) := by decide +kernel
theorem dX10_advise_44 : decode cX10_advise 44 = .ok (.iconst (-1), 1) := by decide +kernel
theorem dX10_advise_45 : decode cX10_advise 45 = .ok (.istore 4, 2) := by decide +kernel
theorem dX10_advise_47 : decode cX10_advise 47 = .ok (.iconst 0, 1) := by decide +kernel
theorem dX10_advise_48 : decode cX10_advise 48 = .ok (.istore 5, 2) := by decide +kernel
theorem dX10_advise_50 : decode cX10_advise 50 = .ok (.iload 5, 2) := by decide +kernel
theorem dX10_advise_52 : decode cX10_advise 52 = .ok (.bipush 36, 2) := by decide +kernel
theorem dX10_advise_54 : decode cX10_advise 54 = .ok (.if_icmp .ge 74, 3) := by decide +kernel
theorem dX10_advise_57 : decode cX10_advise 57 = .ok (.aload_n 0, 1) := by decide +kernel
theorem dX10_advise_58 : decode cX10_advise 58 = .ok (.getfield 23, 3) := by decide +kernel
theorem dX10_advise_61 : decode cX10_advise 61 = .ok (.aload_n 0, 1) := by decide +kernel
theorem dX10_advise_62 : decode cX10_advise 62 = .ok (.getfield 19, 3) := by decide +kernel
theorem dX10_advise_65 : decode cX10_advise 65 = .ok (.invokevirtual 179, 3) := by decide +kernel
theorem dX10_advise_68 : decode cX10_advise 68 = .ok (.aload_n 0, 1) := by decide +kernel
theorem dX10_advise_69 : decode cX10_advise 69 = .ok (.getfield 23, 3) := by decide +kernel
theorem dX10_advise_72 : decode cX10_advise 72 = .ok (.iload_n 1, 1) := by decide +kernel
theorem dX10_advise_73 : decode cX10_advise 73 = .ok (.aload_n 0, 1) := by decide +kernel
theorem dX10_advise_74 : decode cX10_advise 74 = .ok (.getfield 19, 3) := by decide +kernel
theorem dX10_advise_77 : decode cX10_advise 77 = .ok (.iload_n 1, 1) := by decide +kernel
theorem dX10_advise_78 : decode cX10_advise 78 = .ok (.invokevirtual 111, 3) := by decide +kernel
theorem dX10_advise_81 : decode cX10_advise 81 = .ok (.iload 5, 2) := by decide +kernel
theorem dX10_advise_83 : decode cX10_advise 83 = .ok (.bipush 10, 2) := by decide +kernel
theorem dX10_advise_85 : decode cX10_advise 85 = .ok (.imul, 1) := by decide +kernel
theorem dX10_advise_86 : decode cX10_advise 86 = .ok (.iadd, 1) := by decide +kernel
theorem dX10_advise_87 : decode cX10_advise 87 = .ok (.sipush 360, 3) := by decide +kernel
theorem dX10_advise_90 : decode cX10_advise 90 = .ok (.irem, 1) := by decide +kernel
theorem dX10_advise_91 : decode cX10_advise 91 = .ok (.invokevirtual 114, 3) := by decide +kernel
theorem dX10_advise_94 : decode cX10_advise 94 = .ok (.aload_n 0, 1) := by decide +kernel
theorem dX10_advise_95 : decode cX10_advise 95 = .ok (.getfield 23, 3) := by decide +kernel
theorem dX10_advise_98 : decode cX10_advise 98 = .ok (.iload_n 2, 1) := by decide +kernel
theorem dX10_advise_99 : decode cX10_advise 99 = .ok (.aload_n 0, 1) := by decide +kernel
theorem dX10_advise_100 : decode cX10_advise 100 = .ok (.getfield 29, 3) := by decide +kernel
theorem dX10_advise_103 : decode cX10_advise 103 = .ok (.invokevirtual 146, 3) := by decide +kernel
theorem dX10_advise_106 : decode cX10_advise 106 = .ok (.istore 6, 2) := by decide +kernel
theorem dX10_advise_108 : decode cX10_advise 108 = .ok (.iload 6, 2) := by decide +kernel
theorem dX10_advise_110 : decode cX10_advise 110 = .ok (.iload 4, 2) := by decide +kernel
theorem dX10_advise_112 : decode cX10_advise 112 = .ok (.if_icmp .le 10, 3) := by decide +kernel
theorem dX10_advise_115 : decode cX10_advise 115 = .ok (.iload 6, 2) := by decide +kernel
theorem dX10_advise_117 : decode cX10_advise 117 = .ok (.istore 4, 2) := by decide +kernel
theorem dX10_advise_119 : decode cX10_advise 119 = .ok (.iload 5, 2) := by decide +kernel
theorem dX10_advise_121 : decode cX10_advise 121 = .ok (.istore_n 3, 1) := by decide +kernel
theorem dX10_advise_122 : decode cX10_advise 122 = .ok (.iinc 5 1, 3) := by decide +kernel
theorem dX10_advise_125 : decode cX10_advise 125 = .ok (.goto (-75), 3) := by decide +kernel
theorem dX10_advise_128 : decode cX10_advise 128 = .ok (.iload_n 3, 1) := by decide +kernel
theorem dX10_advise_129 : decode cX10_advise 129 = .ok (.ireturn, 1) := by decide +kernel
theorem dX10_mean_0 : decode cX10_mean 0 = .ok (.aload_n 0, 1) := by decide +kernel
theorem dX10_mean_1 : decode cX10_mean 1 = .ok (.getfield 19, 3) := by decide +kernel
theorem dX10_mean_4 : decode cX10_mean 4 = .ok (.invokevirtual 206, 3) := by decide +kernel
theorem dX10_mean_7 : decode cX10_mean 7 = .ok (.istore_n 1, 1) := by decide +kernel
theorem dX10_mean_8 : decode cX10_mean 8 = .ok (.iload_n 1, 1) := by decide +kernel
theorem dX10_mean_9 : decode cX10_mean 9 = .ok (.ifCond .ne 5, 3) := by decide +kernel
theorem dX10_mean_12 : decode cX10_mean 12 = .ok (.dconst 0, 1) := by decide +kernel
theorem dX10_mean_13 : decode cX10_mean 13 = .ok (.dreturn, 1) := by decide +kernel
theorem dX10_mean_14 : decode cX10_mean 14 = .ok (.iconst 0, 1) := by decide +kernel
theorem dX10_mean_15 : decode cX10_mean 15 = .ok (.istore_n 2, 1) := by decide +kernel
theorem dX10_mean_16 : decode cX10_mean 16 = .ok (.iconst 0, 1) := by decide +kernel
theorem dX10_mean_17 : decode cX10_mean 17 = .ok (.istore_n 3, 1) := by decide +kernel
theorem dX10_mean_18 : decode cX10_mean 18 = .ok (.iload_n 3, 1) := by decide +kernel
theorem dX10_mean_19 : decode cX10_mean 19 = .ok (.aload_n 0, 1) := by decide +kernel
theorem dX10_mean_20 : decode cX10_mean 20 = .ok (.getfield 29, 3) := by decide +kernel
theorem dX10_mean_23 : decode cX10_mean 23 = .ok (.invokevirtual 136, 3) := by decide +kernel
theorem dX10_mean_26 : decode cX10_mean 26 = .ok (.if_icmp .ge 20, 3) := by decide +kernel
theorem dX10_mean_29 : decode cX10_mean 29 = .ok (.iload_n 2, 1) := by decide +kernel
theorem dX10_mean_30 : decode cX10_mean 30 = .ok (.aload_n 0, 1) := by decide +kernel
theorem dX10_mean_31 : decode cX10_mean 31 = .ok (.getfield 19, 3) := by decide +kernel
theorem dX10_mean_34 : decode cX10_mean 34 = .ok (.iload_n 3, 1) := by decide +kernel
theorem dX10_mean_35 : decode cX10_mean 35 = .ok (.invokevirtual 141, 3) := by decide +kernel
theorem dX10_mean_38 : decode cX10_mean 38 = .ok (.iadd, 1) := by decide +kernel
theorem dX10_mean_39 : decode cX10_mean 39 = .ok (.istore_n 2, 1) := by decide +kernel
theorem dX10_mean_40 : decode cX10_mean 40 = .ok (.iinc 3 1, 3) := by decide +kernel
theorem dX10_mean_43 : decode cX10_mean 43 = .ok (.goto (-25), 3) := by decide +kernel
theorem dX10_mean_46 : decode cX10_mean 46 = .ok (.iload_n 2, 1) := by decide +kernel
theorem dX10_mean_47 : decode cX10_mean 47 = .ok (.i2d, 1) := by decide +kernel
theorem dX10_mean_48 : decode cX10_mean 48 = .ok (.iload_n 1, 1) := by decide +kernel
theorem dX10_mean_49 : decode cX10_mean 49 = .ok (.i2d, 1) := by decide +kernel
theorem dX10_mean_50 : decode cX10_mean 50 = .ok (.ddiv, 1) := by decide +kernel
theorem dX10_mean_51 : decode cX10_mean 51 = .ok (.dreturn, 1) := by decide +kernel
theorem dX10_digest_0 : decode cX10_digest 0 = .ok (.ldc2_w 209, 3) := by decide +kernel
theorem dX10_digest_3 : decode cX10_digest 3 = .ok (.lstore_n 1, 1) := by decide +kernel
theorem dX10_digest_4 : decode cX10_digest 4 = .ok (.iconst 0, 1) := by decide +kernel
theorem dX10_digest_5 : decode cX10_digest 5 = .ok (.istore_n 3, 1) := by decide +kernel
theorem dX10_digest_6 : decode cX10_digest 6 = .ok (.iload_n 3, 1) := by decide +kernel
theorem dX10_digest_7 : decode cX10_digest 7 = .ok (.bipush 8, 2) := by decide +kernel
theorem dX10_digest_9 : decode cX10_digest 9 = .ok (.if_icmp .ge 19, 3) := by decide +kernel
theorem dX10_digest_12 : decode cX10_digest 12 = .ok (.lload_n 1, 1) := by decide +kernel
theorem dX10_digest_13 : decode cX10_digest 13 = .ok (.aload_n 0, 1) := by decide +kernel
theorem dX10_digest_14 : decode cX10_digest 14 = .ok (.iload_n 3, 1) := by decide +kernel
theorem dX10_digest_15 : decode cX10_digest 15 = .ok (.invokevirtual 92, 3) := by decide +kernel
theorem dX10_digest_18 : decode cX10_digest 18 = .ok (.invokestatic 211, 3) := by decide +kernel
theorem dX10_digest_21 : decode cX10_digest 21 = .ok (.lstore_n 1, 1) := by decide +kernel
theorem dX10_digest_22 : decode cX10_digest 22 = .ok (.iinc 3 1, 3) := by decide +kernel
theorem dX10_digest_25 : decode cX10_digest 25 = .ok (.goto (-19), 3) := by decide +kernel
theorem dX10_digest_28 : decode cX10_digest 28 = .ok (.iconst 0, 1) := by decide +kernel
theorem dX10_digest_29 : decode cX10_digest 29 = .ok (.istore_n 3, 1) := by decide +kernel
theorem dX10_digest_30 : decode cX10_digest 30 = .ok (.iload_n 3, 1) := by decide +kernel
theorem dX10_digest_31 : decode cX10_digest 31 = .ok (.aload_n 0, 1) := by decide +kernel
theorem dX10_digest_32 : decode cX10_digest 32 = .ok (.getfield 19, 3) := by decide +kernel
theorem dX10_digest_35 : decode cX10_digest 35 = .ok (.invokevirtual 199, 3) := by decide +kernel
theorem dX10_digest_38 : decode cX10_digest 38 = .ok (.if_icmp .ge 40, 3) := by decide +kernel
theorem dX10_digest_41 : decode cX10_digest 41 = .ok (.iconst 0, 1) := by decide +kernel
theorem dX10_digest_42 : decode cX10_digest 42 = .ok (.istore 4, 2) := by decide +kernel
theorem dX10_digest_44 : decode cX10_digest 44 = .ok (.iload 4, 2) := by decide +kernel
theorem dX10_digest_46 : decode cX10_digest 46 = .ok (.bipush 7, 2) := by decide +kernel
theorem dX10_digest_48 : decode cX10_digest 48 = .ok (.if_icmp .ge 24, 3) := by decide +kernel
theorem dX10_digest_51 : decode cX10_digest 51 = .ok (.lload_n 1, 1) := by decide +kernel
theorem dX10_digest_52 : decode cX10_digest 52 = .ok (.aload_n 0, 1) := by decide +kernel
theorem dX10_digest_53 : decode cX10_digest 53 = .ok (.getfield 19, 3) := by decide +kernel
theorem dX10_digest_56 : decode cX10_digest 56 = .ok (.iload_n 3, 1) := by decide +kernel
theorem dX10_digest_57 : decode cX10_digest 57 = .ok (.iload 4, 2) := by decide +kernel
theorem dX10_digest_59 : decode cX10_digest 59 = .ok (.invokevirtual 101, 3) := by decide +kernel
theorem dX10_digest_62 : decode cX10_digest 62 = .ok (.invokestatic 211, 3) := by decide +kernel
theorem dX10_digest_65 : decode cX10_digest 65 = .ok (.lstore_n 1, 1) := by decide +kernel
theorem dX10_digest_66 : decode cX10_digest 66 = .ok (.iinc 4 1, 3) := by decide +kernel
theorem dX10_digest_69 : decode cX10_digest 69 = .ok (.goto (-25), 3) := by decide +kernel
theorem dX10_digest_72 : decode cX10_digest 72 = .ok (.iinc 3 1, 3) := by decide +kernel
theorem dX10_digest_75 : decode cX10_digest 75 = .ok (.goto (-45), 3) := by decide +kernel
theorem dX10_digest_78 : decode cX10_digest 78 = .ok (.iconst 0, 1) := by decide +kernel
theorem dX10_digest_79 : decode cX10_digest 79 = .ok (.istore_n 3, 1) := by decide +kernel
theorem dX10_digest_80 : decode cX10_digest 80 = .ok (.iload_n 3, 1) := by decide +kernel
theorem dX10_digest_81 : decode cX10_digest 81 = .ok (.aload_n 0, 1) := by decide +kernel
theorem dX10_digest_82 : decode cX10_digest 82 = .ok (.getfield 29, 3) := by decide +kernel
theorem dX10_digest_85 : decode cX10_digest 85 = .ok (.invokevirtual 215, 3) := by decide +kernel
theorem dX10_digest_88 : decode cX10_digest 88 = .ok (.if_icmp .ge 59, 3) := by decide +kernel
theorem dX10_digest_91 : decode cX10_digest 91 = .ok (.lload_n 1, 1) := by decide +kernel
theorem dX10_digest_92 : decode cX10_digest 92 = .ok (.aload_n 0, 1) := by decide +kernel
theorem dX10_digest_93 : decode cX10_digest 93 = .ok (.getfield 29, 3) := by decide +kernel
theorem dX10_digest_96 : decode cX10_digest 96 = .ok (.iload_n 3, 1) := by decide +kernel
theorem dX10_digest_97 : decode cX10_digest 97 = .ok (.invokevirtual 128, 3) := by decide +kernel
theorem dX10_digest_100 : decode cX10_digest 100 = .ok (.invokestatic 211, 3) := by decide +kernel
theorem dX10_digest_103 : decode cX10_digest 103 = .ok (.lstore_n 1, 1) := by decide +kernel
theorem dX10_digest_104 : decode cX10_digest 104 = .ok (.iconst 0, 1) := by decide +kernel
theorem dX10_digest_105 : decode cX10_digest 105 = .ok (.istore 4, 2) := by decide +kernel
theorem dX10_digest_107 : decode cX10_digest 107 = .ok (.iload 4, 2) := by decide +kernel
theorem dX10_digest_109 : decode cX10_digest 109 = .ok (.aload_n 0, 1) := by decide +kernel
theorem dX10_digest_110 : decode cX10_digest 110 = .ok (.getfield 29, 3) := by decide +kernel
theorem dX10_digest_113 : decode cX10_digest 113 = .ok (.iload_n 3, 1) := by decide +kernel
theorem dX10_digest_114 : decode cX10_digest 114 = .ok (.invokevirtual 128, 3) := by decide +kernel
theorem dX10_digest_117 : decode cX10_digest 117 = .ok (.if_icmp .ge 24, 3) := by decide +kernel
theorem dX10_digest_120 : decode cX10_digest 120 = .ok (.lload_n 1, 1) := by decide +kernel
theorem dX10_digest_121 : decode cX10_digest 121 = .ok (.aload_n 0, 1) := by decide +kernel
theorem dX10_digest_122 : decode cX10_digest 122 = .ok (.getfield 29, 3) := by decide +kernel
theorem dX10_digest_125 : decode cX10_digest 125 = .ok (.iload_n 3, 1) := by decide +kernel
theorem dX10_digest_126 : decode cX10_digest 126 = .ok (.iload 4, 2) := by decide +kernel
theorem dX10_digest_128 : decode cX10_digest 128 = .ok (.invokevirtual 133, 3) := by decide +kernel
theorem dX10_digest_131 : decode cX10_digest 131 = .ok (.invokestatic 211, 3) := by decide +kernel
theorem dX10_digest_134 : decode cX10_digest 134 = .ok (.lstore_n 1, 1) := by decide +kernel
theorem dX10_digest_135 : decode cX10_digest 135 = .ok (.iinc 4 1, 3) := by decide +kernel
theorem dX10_digest_138 : decode cX10_digest 138 = .ok (.goto (-31), 3) := by decide +kernel
theorem dX10_digest_141 : decode cX10_digest 141 = .ok (.iinc 3 1, 3) := by decide +kernel
theorem dX10_digest_144 : decode cX10_digest 144 = .ok (.goto (-64), 3) := by decide +kernel
theorem dX10_digest_147 : decode cX10_digest 147 = .ok (.iconst 0, 1) := by decide +kernel
theorem dX10_digest_148 : decode cX10_digest 148 = .ok (.istore_n 3, 1) := by decide +kernel
theorem dX10_digest_149 : decode cX10_digest 149 = .ok (.iload_n 3, 1) := by decide +kernel
theorem dX10_digest_150 : decode cX10_digest 150 = .ok (.aload_n 0, 1) := by decide +kernel
theorem dX10_digest_151 : decode cX10_digest 151 = .ok (.getfield 29, 3) := by decide +kernel
theorem dX10_digest_154 : decode cX10_digest 154 = .ok (.invokevirtual 136, 3) := by decide +kernel
theorem dX10_digest_157 : decode cX10_digest 157 = .ok (.if_icmp .ge 22, 3) := by decide +kernel
theorem dX10_digest_160 : decode cX10_digest 160 = .ok (.lload_n 1, 1) := by decide +kernel
theorem dX10_digest_161 : decode cX10_digest 161 = .ok (.aload_n 0, 1) := by decide +kernel
theorem dX10_digest_162 : decode cX10_digest 162 = .ok (.getfield 19, 3) := by decide +kernel
theorem dX10_digest_165 : decode cX10_digest 165 = .ok (.iload_n 3, 1) := by decide +kernel
theorem dX10_digest_166 : decode cX10_digest 166 = .ok (.invokevirtual 141, 3) := by decide +kernel
theorem dX10_digest_169 : decode cX10_digest 169 = .ok (.invokestatic 211, 3) := by decide +kernel
theorem dX10_digest_172 : decode cX10_digest 172 = .ok (.lstore_n 1, 1) := by decide +kernel
theorem dX10_digest_173 : decode cX10_digest 173 = .ok (.iinc 3 1, 3) := by decide +kernel
theorem dX10_digest_176 : decode cX10_digest 176 = .ok (.goto (-27), 3) := by decide +kernel
theorem dX10_digest_179 : decode cX10_digest 179 = .ok (.iconst 0, 1) := by decide +kernel
theorem dX10_digest_180 : decode cX10_digest 180 = .ok (.istore_n 3, 1) := by decide +kernel
theorem dX10_digest_181 : decode cX10_digest 181 = .ok (.iload_n 3, 1) := by decide +kernel
theorem dX10_digest_182 : decode cX10_digest 182 = .ok (.aload_n 0, 1) := by decide +kernel
theorem dX10_digest_183 : decode cX10_digest 183 = .ok (.getfield 19, 3) := by decide +kernel
theorem dX10_digest_186 : decode cX10_digest 186 = .ok (.invokevirtual 150, 3) := by decide +kernel
theorem dX10_digest_189 : decode cX10_digest 189 = .ok (.invokevirtual 154, 3) := by decide +kernel
theorem dX10_digest_192 : decode cX10_digest 192 = .ok (.if_icmp .ge 25, 3) := by decide +kernel
theorem dX10_digest_195 : decode cX10_digest 195 = .ok (.lload_n 1, 1) := by decide +kernel
theorem dX10_digest_196 : decode cX10_digest 196 = .ok (.aload_n 0, 1) := by decide +kernel
theorem dX10_digest_197 : decode cX10_digest 197 = .ok (.getfield 19, 3) := by decide +kernel
theorem dX10_digest_200 : decode cX10_digest 200 = .ok (.invokevirtual 150, 3) := by decide +kernel
theorem dX10_digest_203 : decode cX10_digest 203 = .ok (.iload_n 3, 1) := by decide +kernel
theorem dX10_digest_204 : decode cX10_digest 204 = .ok (.invokevirtual 159, 3) := by decide +kernel
theorem dX10_digest_207 : decode cX10_digest 207 = .ok (.invokestatic 211, 3) := by decide +kernel
theorem dX10_digest_210 : decode cX10_digest 210 = .ok (.lstore_n 1, 1) := by decide +kernel
theorem dX10_digest_211 : decode cX10_digest 211 = .ok (.iinc 3 1, 3) := by decide +kernel
theorem dX10_digest_214 : decode cX10_digest 214 = .ok (.goto (-33), 3) := by decide +kernel
theorem dX10_digest_217 : decode cX10_digest 217 = .ok (.lload_n 1, 1) := by decide +kernel
theorem dX10_digest_218 : decode cX10_digest 218 = .ok (.lreturn, 1) := by decide +kernel
theorem dX10_mixed_0 : decode cX10_mixed 0 = .ok (.lload_n 0, 1) := by decide +kernel
theorem dX10_mixed_1 : decode cX10_mixed 1 = .ok (.ldc2_w 218, 3) := by decide +kernel
theorem dX10_mixed_4 : decode cX10_mixed 4 = .ok (.lmul, 1) := by decide +kernel
theorem dX10_mixed_5 : decode cX10_mixed 5 = .ok (.iload_n 2, 1) := by decide +kernel
theorem dX10_mixed_6 : decode cX10_mixed 6 = .ok (.i2l, 1) := by decide +kernel
theorem dX10_mixed_7 : decode cX10_mixed 7 = .ok (.ladd, 1) := by decide +kernel
theorem dX10_mixed_8 : decode cX10_mixed 8 = .ok (.lreturn, 1) := by decide +kernel
theorem dX10_counted_0 : decode cX10_counted 0 = .ok (.iload_n 1, 1) := by decide +kernel
theorem dX10_counted_1 : decode cX10_counted 1 = .ok (.tableswitch 102 0 6 #[43, 51, 59, 67, 75, 83, 94], 43) := by decide +kernel
theorem dX10_counted_44 : decode cX10_counted 44 = .ok (.aload_n 0, 1) := by decide +kernel
theorem dX10_counted_45 : decode cX10_counted 45 = .ok (.getfield 19, 3) := by decide +kernel
theorem dX10_counted_48 : decode cX10_counted 48 = .ok (.invokevirtual 206, 3) := by decide +kernel
theorem dX10_counted_51 : decode cX10_counted 51 = .ok (.ireturn, 1) := by decide +kernel
theorem dX10_counted_52 : decode cX10_counted 52 = .ok (.aload_n 0, 1) := by decide +kernel
theorem dX10_counted_53 : decode cX10_counted 53 = .ok (.getfield 19, 3) := by decide +kernel
theorem dX10_counted_56 : decode cX10_counted 56 = .ok (.invokevirtual 199, 3) := by decide +kernel
theorem dX10_counted_59 : decode cX10_counted 59 = .ok (.ireturn, 1) := by decide +kernel
theorem dX10_counted_60 : decode cX10_counted 60 = .ok (.aload_n 0, 1) := by decide +kernel
theorem dX10_counted_61 : decode cX10_counted 61 = .ok (.getfield 29, 3) := by decide +kernel
theorem dX10_counted_64 : decode cX10_counted 64 = .ok (.invokevirtual 215, 3) := by decide +kernel
theorem dX10_counted_67 : decode cX10_counted 67 = .ok (.ireturn, 1) := by decide +kernel
theorem dX10_counted_68 : decode cX10_counted 68 = .ok (.aload_n 0, 1) := by decide +kernel
theorem dX10_counted_69 : decode cX10_counted 69 = .ok (.getfield 29, 3) := by decide +kernel
theorem dX10_counted_72 : decode cX10_counted 72 = .ok (.invokevirtual 136, 3) := by decide +kernel
theorem dX10_counted_75 : decode cX10_counted 75 = .ok (.ireturn, 1) := by decide +kernel
theorem dX10_counted_76 : decode cX10_counted 76 = .ok (.aload_n 0, 1) := by decide +kernel
theorem dX10_counted_77 : decode cX10_counted 77 = .ok (.getfield 10, 3) := by decide +kernel
theorem dX10_counted_80 : decode cX10_counted 80 = .ok (.invokevirtual 64, 3) := by decide +kernel
theorem dX10_counted_83 : decode cX10_counted 83 = .ok (.ireturn, 1) := by decide +kernel
theorem dX10_counted_84 : decode cX10_counted 84 = .ok (.aload_n 0, 1) := by decide +kernel
theorem dX10_counted_85 : decode cX10_counted 85 = .ok (.getfield 19, 3) := by decide +kernel
theorem dX10_counted_88 : decode cX10_counted 88 = .ok (.invokevirtual 150, 3) := by decide +kernel
theorem dX10_counted_91 : decode cX10_counted 91 = .ok (.invokevirtual 154, 3) := by decide +kernel
theorem dX10_counted_94 : decode cX10_counted 94 = .ok (.ireturn, 1) := by decide +kernel
theorem dX10_counted_95 : decode cX10_counted 95 = .ok (.aload_n 0, 1) := by decide +kernel
theorem dX10_counted_96 : decode cX10_counted 96 = .ok (.getfield 19, 3) := by decide +kernel
theorem dX10_counted_99 : decode cX10_counted 99 = .ok (.invokevirtual 220, 3) := by decide +kernel
theorem dX10_counted_102 : decode cX10_counted 102 = .ok (.ireturn, 1) := by decide +kernel
theorem dX10_counted_103 : decode cX10_counted 103 = .ok (.aload_n 0, 1) := by decide +kernel
theorem dX10_counted_104 : decode cX10_counted 104 = .ok (.getfield 19, 3) := by decide +kernel
theorem dX10_counted_107 : decode cX10_counted 107 = .ok (.invokevirtual 183, 3) := by decide +kernel
theorem dX10_counted_110 : decode cX10_counted 110 = .ok (.ireturn, 1) := by decide +kernel
theorem dX11_init_0 : decode cX11_init 0 = .ok (.aload_n 0, 1) := by decide +kernel
theorem dX11_init_1 : decode cX11_init 1 = .ok (.aload_n 1, 1) := by decide +kernel
theorem dX11_init_2 : decode cX11_init 2 = .ok (.putfield 3, 3) := by decide +kernel
theorem dX11_init_5 : decode cX11_init 5 = .ok (.aload_n 0, 1) := by decide +kernel
theorem dX11_init_6 : decode cX11_init 6 = .ok (.invokespecial 9, 3) := by decide +kernel
theorem dX11_init_9 : decode cX11_init 9 = .ok (.aload_n 0, 1) := by decide +kernel
theorem dX11_init_10 : decode cX11_init 10 = .ok (.bipush 8, 2) := by decide +kernel
theorem dX11_init_12 : decode cX11_init 12 = .ok (.newarray .int, 2) := by decide +kernel
theorem dX11_init_14 : decode cX11_init 14 = .ok (.putfield 15, 3) := by decide +kernel
theorem dX11_init_17 : decode cX11_init 17 = .ok (.aload_n 0, 1) := by decide +kernel
theorem dX11_init_18 : decode cX11_init 18 = .ok (.bipush 8, 2) := by decide +kernel
theorem dX11_init_20 : decode cX11_init 20 = .ok (.newarray .int, 2) := by decide +kernel
theorem dX11_init_22 : decode cX11_init 22 = .ok (.putfield 19, 3) := by decide +kernel
theorem dX11_init_25 : decode cX11_init 25 = .ok (.aload_n 0, 1) := by decide +kernel
theorem dX11_init_26 : decode cX11_init 26 = .ok (.bipush 8, 2) := by decide +kernel
theorem dX11_init_28 : decode cX11_init 28 = .ok (.newarray .int, 2) := by decide +kernel
theorem dX11_init_30 : decode cX11_init 30 = .ok (.putfield 22, 3) := by decide +kernel
theorem dX11_init_33 : decode cX11_init 33 = .ok (.aload_n 0, 1) := by decide +kernel
theorem dX11_init_34 : decode cX11_init 34 = .ok (.bipush 12, 2) := by decide +kernel
theorem dX11_init_36 : decode cX11_init 36 = .ok (.newarray .int, 2) := by decide +kernel
theorem dX11_init_38 : decode cX11_init 38 = .ok (.putfield 25, 3) := by decide +kernel
theorem dX11_init_41 : decode cX11_init 41 = .ok (.aload_n 0, 1) := by decide +kernel
theorem dX11_init_42 : decode cX11_init 42 = .ok (.sipush 600, 3) := by decide +kernel
theorem dX11_init_45 : decode cX11_init 45 = .ok (.newarray .int, 2) := by decide +kernel
theorem dX11_init_47 : decode cX11_init 47 = .ok (.putfield 28, 3) := by decide +kernel
theorem dX11_init_50 : decode cX11_init 50 = .ok (.aload_n 0, 1) := by decide +kernel
theorem dX11_init_51 : decode cX11_init 51 = .ok (.sipush 400, 3) := by decide +kernel
theorem dX11_init_54 : decode cX11_init 54 = .ok (.newarray .int, 2) := by decide +kernel
theorem dX11_init_56 : decode cX11_init 56 = .ok (.putfield 31, 3) := by decide +kernel
theorem dX11_init_59 : decode cX11_init 59 = .ok (.return_, 1) := by decide +kernel
theorem dX11_copy_0 : decode cX11_copy 0 = .ok (.aload_n 1, 1) := by decide +kernel
theorem dX11_copy_1 : decode cX11_copy 1 = .ok (.iconst 0, 1) := by decide +kernel
theorem dX11_copy_2 : decode cX11_copy 2 = .ok (.aload_n 2, 1) := by decide +kernel
theorem dX11_copy_3 : decode cX11_copy 3 = .ok (.iconst 0, 1) := by decide +kernel
theorem dX11_copy_4 : decode cX11_copy 4 = .ok (.aload_n 1, 1) := by decide +kernel
theorem dX11_copy_5 : decode cX11_copy 5 = .ok (.arraylength, 1) := by decide +kernel
theorem dX11_copy_6 : decode cX11_copy 6 = .ok (.invokestatic 34, 3) := by decide +kernel
theorem dX11_copy_9 : decode cX11_copy 9 = .ok (.return_, 1) := by decide +kernel
theorem dX11_become_0 : decode cX11_become 0 = .ok (.aload_n 0, 1) := by decide +kernel
theorem dX11_become_1 : decode cX11_become 1 = .ok (.aload_n 1, 1) := by decide +kernel
theorem dX11_become_2 : decode cX11_become 2 = .ok (.getfield 40, 3) := by decide +kernel
theorem dX11_become_5 : decode cX11_become 5 = .ok (.putfield 40, 3) := by decide +kernel
theorem dX11_become_8 : decode cX11_become 8 = .ok (.aload_n 0, 1) := by decide +kernel
theorem dX11_become_9 : decode cX11_become 9 = .ok (.aload_n 1, 1) := by decide +kernel
theorem dX11_become_10 : decode cX11_become 10 = .ok (.getfield 44, 3) := by decide +kernel
theorem dX11_become_13 : decode cX11_become 13 = .ok (.putfield 44, 3) := by decide +kernel
theorem dX11_become_16 : decode cX11_become 16 = .ok (.aload_n 0, 1) := by decide +kernel
theorem dX11_become_17 : decode cX11_become 17 = .ok (.aload_n 1, 1) := by decide +kernel
theorem dX11_become_18 : decode cX11_become 18 = .ok (.getfield 15, 3) := by decide +kernel
theorem dX11_become_21 : decode cX11_become 21 = .ok (.aload_n 0, 1) := by decide +kernel
theorem dX11_become_22 : decode cX11_become 22 = .ok (.getfield 15, 3) := by decide +kernel
theorem dX11_become_25 : decode cX11_become 25 = .ok (.invokevirtual 47, 3) := by decide +kernel
theorem dX11_become_28 : decode cX11_become 28 = .ok (.aload_n 0, 1) := by decide +kernel
theorem dX11_become_29 : decode cX11_become 29 = .ok (.aload_n 1, 1) := by decide +kernel
theorem dX11_become_30 : decode cX11_become 30 = .ok (.getfield 19, 3) := by decide +kernel
theorem dX11_become_33 : decode cX11_become 33 = .ok (.aload_n 0, 1) := by decide +kernel
theorem dX11_become_34 : decode cX11_become 34 = .ok (.getfield 19, 3) := by decide +kernel
theorem dX11_become_37 : decode cX11_become 37 = .ok (.invokevirtual 47, 3) := by decide +kernel
theorem dX11_become_40 : decode cX11_become 40 = .ok (.aload_n 0, 1) := by decide +kernel
theorem dX11_become_41 : decode cX11_become 41 = .ok (.aload_n 1, 1) := by decide +kernel
theorem dX11_become_42 : decode cX11_become 42 = .ok (.getfield 22, 3) := by decide +kernel
theorem dX11_become_45 : decode cX11_become 45 = .ok (.aload_n 0, 1) := by decide +kernel
theorem dX11_become_46 : decode cX11_become 46 = .ok (.getfield 22, 3) := by decide +kernel
theorem dX11_become_49 : decode cX11_become 49 = .ok (.invokevirtual 47, 3) := by decide +kernel
theorem dX11_become_52 : decode cX11_become 52 = .ok (.aload_n 0, 1) := by decide +kernel
theorem dX11_become_53 : decode cX11_become 53 = .ok (.aload_n 1, 1) := by decide +kernel
theorem dX11_become_54 : decode cX11_become 54 = .ok (.getfield 25, 3) := by decide +kernel
theorem dX11_become_57 : decode cX11_become 57 = .ok (.aload_n 0, 1) := by decide +kernel
theorem dX11_become_58 : decode cX11_become 58 = .ok (.getfield 25, 3) := by decide +kernel
theorem dX11_become_61 : decode cX11_become 61 = .ok (.invokevirtual 47, 3) := by decide +kernel
theorem dX11_become_64 : decode cX11_become 64 = .ok (.aload_n 0, 1) := by decide +kernel
theorem dX11_become_65 : decode cX11_become 65 = .ok (.aload_n 1, 1) := by decide +kernel
theorem dX11_become_66 : decode cX11_become 66 = .ok (.getfield 28, 3) := by decide +kernel
theorem dX11_become_69 : decode cX11_become 69 = .ok (.aload_n 0, 1) := by decide +kernel
theorem dX11_become_70 : decode cX11_become 70 = .ok (.getfield 28, 3) := by decide +kernel
theorem dX11_become_73 : decode cX11_become 73 = .ok (.invokevirtual 47, 3) := by decide +kernel
theorem dX11_become_76 : decode cX11_become 76 = .ok (.return_, 1) := by decide +kernel
theorem dX11_isRetro_0 : decode cX11_isRetro 0 = .ok (.aload_n 0, 1) := by decide +kernel
theorem dX11_isRetro_1 : decode cX11_isRetro 1 = .ok (.getfield 40, 3) := by decide +kernel
theorem dX11_isRetro_4 : decode cX11_isRetro 4 = .ok (.aload_n 0, 1) := by decide +kernel
theorem dX11_isRetro_5 : decode cX11_isRetro 5 = .ok (.getfield 3, 3) := by decide +kernel
theorem dX11_isRetro_8 : decode cX11_isRetro 8 = .ok (.getfield 51, 3) := by decide +kernel
theorem dX11_isRetro_11 : decode cX11_isRetro 11 = .ok (.getfield 55, 3) := by decide +kernel
theorem dX11_isRetro_14 : decode cX11_isRetro 14 = .ok (.iconst 5, 1) := by decide +kernel
theorem dX11_isRetro_15 : decode cX11_isRetro 15 = .ok (.iload_n 1, 1) := by decide +kernel
theorem dX11_isRetro_16 : decode cX11_isRetro 16 = .ok (.imul, 1) := by decide +kernel
theorem dX11_isRetro_17 : decode cX11_isRetro 17 = .ok (.iconst 4, 1) := by decide +kernel
theorem dX11_isRetro_18 : decode cX11_isRetro 18 = .ok (.iadd, 1) := by decide +kernel
theorem dX11_isRetro_19 : decode cX11_isRetro 19 = .ok (.iaload, 1) := by decide +kernel
theorem dX11_isRetro_20 : decode cX11_isRetro 20 = .ok (.irem, 1) := by decide +kernel
theorem dX11_isRetro_21 : decode cX11_isRetro 21 = .ok (.aload_n 0, 1) := by decide +kernel
theorem dX11_isRetro_22 : decode cX11_isRetro 22 = .ok (.getfield 3, 3) := by decide +kernel
theorem dX11_isRetro_25 : decode cX11_isRetro 25 = .ok (.getfield 51, 3) := by decide +kernel
theorem dX11_isRetro_28 : decode cX11_isRetro 28 = .ok (.getfield 55, 3) := by decide +kernel
theorem dX11_isRetro_31 : decode cX11_isRetro 31 = .ok (.iconst 5, 1) := by decide +kernel
theorem dX11_isRetro_32 : decode cX11_isRetro 32 = .ok (.iload_n 1, 1) := by decide +kernel
theorem dX11_isRetro_33 : decode cX11_isRetro 33 = .ok (.imul, 1) := by decide +kernel
theorem dX11_isRetro_34 : decode cX11_isRetro 34 = .ok (.iconst 3, 1) := by decide +kernel
theorem dX11_isRetro_35 : decode cX11_isRetro 35 = .ok (.iadd, 1) := by decide +kernel
theorem dX11_isRetro_36 : decode cX11_isRetro 36 = .ok (.iaload, 1) := by decide +kernel
theorem dX11_isRetro_37 : decode cX11_isRetro 37 = .ok (.if_icmp .ge 7, 3) := by decide +kernel
theorem dX11_isRetro_40 : decode cX11_isRetro 40 = .ok (.iconst 1, 1) := by decide +kernel
theorem dX11_isRetro_41 : decode cX11_isRetro 41 = .ok (.goto 4, 3) := by decide +kernel
theorem dX11_isRetro_44 : decode cX11_isRetro 44 = .ok (.iconst 0, 1) := by decide +kernel
theorem dX11_isRetro_45 : decode cX11_isRetro 45 = .ok (.ireturn, 1) := by decide +kernel
theorem dX11_set_0 : decode cX11_set 0 = .ok (.aload_n 0, 1) := by decide +kernel
theorem dX11_set_1 : decode cX11_set 1 = .ok (.getfield 15, 3) := by decide +kernel
theorem dX11_set_4 : decode cX11_set 4 = .ok (.iload_n 1, 1) := by decide +kernel
theorem dX11_set_5 : decode cX11_set 5 = .ok (.iload_n 2, 1) := by decide +kernel
theorem dX11_set_6 : decode cX11_set 6 = .ok (.iastore, 1) := by decide +kernel
theorem dX11_set_7 : decode cX11_set 7 = .ok (.aload_n 0, 1) := by decide +kernel
theorem dX11_set_8 : decode cX11_set 8 = .ok (.getfield 19, 3) := by decide +kernel
theorem dX11_set_11 : decode cX11_set 11 = .ok (.iload_n 1, 1) := by decide +kernel
theorem dX11_set_12 : decode cX11_set 12 = .ok (.iload_n 2, 1) := by decide +kernel
theorem dX11_set_13 : decode cX11_set 13 = .ok (.iastore, 1) := by decide +kernel
theorem dX11_set_14 : decode cX11_set 14 = .ok (.return_, 1) := by decide +kernel
theorem dX11_meets_0 : decode cX11_meets 0 = .ok (.aload_n 0, 1) := by decide +kernel
theorem dX11_meets_1 : decode cX11_meets 1 = .ok (.getfield 15, 3) := by decide +kernel
theorem dX11_meets_4 : decode cX11_meets 4 = .ok (.iload_n 1, 1) := by decide +kernel
theorem dX11_meets_5 : decode cX11_meets 5 = .ok (.iaload, 1) := by decide +kernel
theorem dX11_meets_6 : decode cX11_meets 6 = .ok (.aload_n 0, 1) := by decide +kernel
theorem dX11_meets_7 : decode cX11_meets 7 = .ok (.getfield 15, 3) := by decide +kernel
theorem dX11_meets_10 : decode cX11_meets 10 = .ok (.iload_n 2, 1) := by decide +kernel
theorem dX11_meets_11 : decode cX11_meets 11 = .ok (.iaload, 1) := by decide +kernel
theorem dX11_meets_12 : decode cX11_meets 12 = .ok (.iload_n 3, 1) := by decide +kernel
theorem dX11_meets_13 : decode cX11_meets 13 = .ok (.iadd, 1) := by decide +kernel
theorem dX11_meets_14 : decode cX11_meets 14 = .ok (.invokestatic 60, 3) := by decide +kernel
theorem dX11_meets_17 : decode cX11_meets 17 = .ok (.istore 4, 2) := by decide +kernel
theorem dX11_meets_19 : decode cX11_meets 19 = .ok (.aload_n 0, 1) := by decide +kernel
theorem dX11_meets_20 : decode cX11_meets 20 = .ok (.getfield 19, 3) := by decide +kernel
theorem dX11_meets_23 : decode cX11_meets 23 = .ok (.iload_n 1, 1) := by decide +kernel
theorem dX11_meets_24 : decode cX11_meets 24 = .ok (.iaload, 1) := by decide +kernel
theorem dX11_meets_25 : decode cX11_meets 25 = .ok (.aload_n 0, 1) := by decide +kernel
theorem dX11_meets_26 : decode cX11_meets 26 = .ok (.getfield 19, 3) := by decide +kernel
theorem dX11_meets_29 : decode cX11_meets 29 = .ok (.iload_n 2, 1) := by decide +kernel
theorem dX11_meets_30 : decode cX11_meets 30 = .ok (.iaload, 1) := by decide +kernel
theorem dX11_meets_31 : decode cX11_meets 31 = .ok (.iload_n 3, 1) := by decide +kernel
theorem dX11_meets_32 : decode cX11_meets 32 = .ok (.iadd, 1) := by decide +kernel
theorem dX11_meets_33 : decode cX11_meets 33 = .ok (.invokestatic 60, 3) := by decide +kernel
theorem dX11_meets_36 : decode cX11_meets 36 = .ok (.istore 5, 2) := by decide +kernel
theorem dX11_meets_38 : decode cX11_meets 38 = .ok (.iload 4, 2) := by decide +kernel
theorem dX11_meets_40 : decode cX11_meets 40 = .ok (.ifCond .ne 5, 3) := by decide +kernel
theorem dX11_meets_43 : decode cX11_meets 43 = .ok (.iconst 1, 1) := by decide +kernel
theorem dX11_meets_44 : decode cX11_meets 44 = .ok (.ireturn, 1) := by decide +kernel
theorem dX11_meets_45 : decode cX11_meets 45 = .ok (.iload 4, 2) := by decide +kernel
theorem dX11_meets_47 : decode cX11_meets 47 = .ok (.ifCond .ge 8, 3) := by decide +kernel
theorem dX11_meets_50 : decode cX11_meets 50 = .ok (.iload 5, 2) := by decide +kernel
theorem dX11_meets_52 : decode cX11_meets 52 = .ok (.ifCond .gt 13, 3) := by decide +kernel
theorem dX11_meets_55 : decode cX11_meets 55 = .ok (.iload 4, 2) := by decide +kernel
theorem dX11_meets_57 : decode cX11_meets 57 = .ok (.ifCond .le 29, 3) := by decide +kernel
theorem dX11_meets_60 : decode cX11_meets 60 = .ok (.iload 5, 2) := by decide +kernel
theorem dX11_meets_62 : decode cX11_meets 62 = .ok (.ifCond .ge 24, 3) := by decide +kernel
theorem dX11_meets_65 : decode cX11_meets 65 = .ok (.iload 4, 2) := by decide +kernel
theorem dX11_meets_67 : decode cX11_meets 67 = .ok (.invokestatic 64, 3) := by decide +kernel
theorem dX11_meets_70 : decode cX11_meets 70 = .ok (.iload 5, 2) := by decide +kernel
theorem dX11_meets_72 : decode cX11_meets 72 = .ok (.invokestatic 64, 3) := by decide +kernel
theorem dX11_meets_75 : decode cX11_meets 75 = .ok (.iadd, 1) := by decide +kernel
theorem dX11_meets_76 : decode cX11_meets 76 = .ok (.sipush 180, 3) := by decide +kernel
theorem dX11_meets_79 : decode cX11_meets 79 = .ok (.if_icmp .ge 7, 3) := by decide +kernel
theorem dX11_meets_82 : decode cX11_meets 82 = .ok (.iconst 1, 1) := by decide +kernel
theorem dX11_meets_83 : decode cX11_meets 83 = .ok (.goto 4, 3) := by decide +kernel
theorem dX11_meets_86 : decode cX11_meets 86 = .ok (.iconst 0, 1) := by decide +kernel
theorem dX11_meets_87 : decode cX11_meets 87 = .ok (.ireturn, 1) := by decide +kernel
theorem dX11_pairs_0 : decode cX11_pairs 0 = .ok (.iconst 0, 1) := by decide +kernel
theorem dX11_pairs_1 : decode cX11_pairs 1 = .ok (.istore_n 1, 1) := by decide +kernel
theorem dX11_pairs_2 : decode cX11_pairs 2 = .ok (.iconst 0, 1) := by decide +kernel
theorem dX11_pairs_3 : decode cX11_pairs 3 = .ok (.istore_n 2, 1) := by decide +kernel
theorem dX11_pairs_4 : decode cX11_pairs 4 = .ok (.iload_n 2, 1) := by decide +kernel
theorem dX11_pairs_5 : decode cX11_pairs 5 = .ok (.aload_n 0, 1) := by decide +kernel
theorem dX11_pairs_6 : decode cX11_pairs 6 = .ok (.getfield 3, 3) := by decide +kernel
theorem dX11_pairs_9 : decode cX11_pairs 9 = .ok (.getfield 51, 3) := by decide +kernel
theorem dX11_pairs_12 : decode cX11_pairs 12 = .ok (.getfield 70, 3) := by decide +kernel
theorem dX11_pairs_15 : decode cX11_pairs 15 = .ok (.if_icmp .ge 51, 3) := by decide +kernel
theorem dX11_pairs_18 : decode cX11_pairs 18 = .ok (.iload_n 2, 1) := by decide +kernel
theorem dX11_pairs_19 : decode cX11_pairs 19 = .ok (.iconst 1, 1) := by decide +kernel
theorem dX11_pairs_20 : decode cX11_pairs 20 = .ok (.iadd, 1) := by decide +kernel
theorem dX11_pairs_21 : decode cX11_pairs 21 = .ok (.istore_n 3, 1) := by decide +kernel
theorem dX11_pairs_22 : decode cX11_pairs 22 = .ok (.iload_n 3, 1) := by decide +kernel
theorem dX11_pairs_23 : decode cX11_pairs 23 = .ok (.aload_n 0, 1) := by decide +kernel
theorem dX11_pairs_24 : decode cX11_pairs 24 = .ok (.getfield 3, 3) := by decide +kernel
theorem dX11_pairs_27 : decode cX11_pairs 27 = .ok (.getfield 51, 3) := by decide +kernel
theorem dX11_pairs_30 : decode cX11_pairs 30 = .ok (.getfield 70, 3) := by decide +kernel
theorem dX11_pairs_33 : decode cX11_pairs 33 = .ok (.if_icmp .ge 27, 3) := by decide +kernel
theorem dX11_pairs_36 : decode cX11_pairs 36 = .ok (.iload_n 1, 1) := by decide +kernel
theorem dX11_pairs_37 : decode cX11_pairs 37 = .ok (.aload_n 0, 1) := by decide +kernel
theorem dX11_pairs_38 : decode cX11_pairs 38 = .ok (.iload_n 2, 1) := by decide +kernel
theorem dX11_pairs_39 : decode cX11_pairs 39 = .ok (.iload_n 3, 1) := by decide +kernel
theorem dX11_pairs_40 : decode cX11_pairs 40 = .ok (.iconst 0, 1) := by decide +kernel
theorem dX11_pairs_41 : decode cX11_pairs 41 = .ok (.invokevirtual 73, 3) := by decide +kernel
theorem dX11_pairs_44 : decode cX11_pairs 44 = .ok (.ifCond .eq 7, 3) := by decide +kernel
theorem dX11_pairs_47 : decode cX11_pairs 47 = .ok (.iconst 1, 1) := by decide +kernel
theorem dX11_pairs_48 : decode cX11_pairs 48 = .ok (.goto 4, 3) := by decide +kernel
theorem dX11_pairs_51 : decode cX11_pairs 51 = .ok (.iconst 0, 1) := by decide +kernel
theorem dX11_pairs_52 : decode cX11_pairs 52 = .ok (.iadd, 1) := by decide +kernel
theorem dX11_pairs_53 : decode cX11_pairs 53 = .ok (.istore_n 1, 1) := by decide +kernel
theorem dX11_pairs_54 : decode cX11_pairs 54 = .ok (.iinc 3 1, 3) := by decide +kernel
theorem dX11_pairs_57 : decode cX11_pairs 57 = .ok (.goto (-35), 3) := by decide +kernel
theorem dX11_pairs_60 : decode cX11_pairs 60 = .ok (.iinc 2 1, 3) := by decide +kernel
theorem dX11_pairs_63 : decode cX11_pairs 63 = .ok (.goto (-59), 3) := by decide +kernel
theorem dX11_pairs_66 : decode cX11_pairs 66 = .ok (.iload_n 1, 1) := by decide +kernel
theorem dX11_pairs_67 : decode cX11_pairs 67 = .ok (.ireturn, 1) := by decide +kernel
theorem dX11_laps_0 : decode cX11_laps 0 = .ok (.iconst 0, 1) := by decide +kernel
theorem dX11_laps_1 : decode cX11_laps 1 = .ok (.istore_n 1, 1) := by decide +kernel
theorem dX11_laps_2 : decode cX11_laps 2 = .ok (.iconst 0, 1) := by decide +kernel
theorem dX11_laps_3 : decode cX11_laps 3 = .ok (.istore_n 2, 1) := by decide +kernel
theorem dX11_laps_4 : decode cX11_laps 4 = .ok (.iload_n 2, 1) := by decide +kernel
theorem dX11_laps_5 : decode cX11_laps 5 = .ok (.aload_n 0, 1) := by decide +kernel
theorem dX11_laps_6 : decode cX11_laps 6 = .ok (.getfield 3, 3) := by decide +kernel
theorem dX11_laps_9 : decode cX11_laps 9 = .ok (.getfield 51, 3) := by decide +kernel
theorem dX11_laps_12 : decode cX11_laps 12 = .ok (.getfield 70, 3) := by decide +kernel
theorem dX11_laps_15 : decode cX11_laps 15 = .ok (.if_icmp .ge 18, 3) := by decide +kernel
theorem dX11_laps_18 : decode cX11_laps 18 = .ok (.iload_n 1, 1) := by decide +kernel
theorem dX11_laps_19 : decode cX11_laps 19 = .ok (.aload_n 0, 1) := by decide +kernel
theorem dX11_laps_20 : decode cX11_laps 20 = .ok (.getfield 22, 3) := by decide +kernel
theorem dX11_laps_23 : decode cX11_laps 23 = .ok (.iload_n 2, 1) := by decide +kernel
theorem dX11_laps_24 : decode cX11_laps 24 = .ok (.iaload, 1) := by decide +kernel
theorem dX11_laps_25 : decode cX11_laps 25 = .ok (.iadd, 1) := by decide +kernel
theorem dX11_laps_26 : decode cX11_laps 26 = .ok (.istore_n 1, 1) := by decide +kernel
theorem dX11_laps_27 : decode cX11_laps 27 = .ok (.iinc 2 1, 3) := by decide +kernel
theorem dX11_laps_30 : decode cX11_laps 30 = .ok (.goto (-26), 3) := by decide +kernel
theorem dX11_laps_33 : decode cX11_laps 33 = .ok (.iload_n 1, 1) := by decide +kernel
theorem dX11_laps_34 : decode cX11_laps 34 = .ok (.ireturn, 1) := by decide +kernel
theorem dX11_move_0 : decode cX11_move 0 = .ok (.aload_n 0, 1) := by decide +kernel
theorem dX11_move_1 : decode cX11_move 1 = .ok (.dup, 1) := by decide +kernel
theorem dX11_move_2 : decode cX11_move 2 = .ok (.getfield 40, 3) := by decide +kernel
theorem dX11_move_5 : decode cX11_move 5 = .ok (.iconst 1, 1) := by decide +kernel
theorem dX11_move_6 : decode cX11_move 6 = .ok (.iadd, 1) := by decide +kernel
theorem dX11_move_7 : decode cX11_move 7 = .ok (.putfield 40, 3) := by decide +kernel
theorem dX11_move_10 : decode cX11_move 10 = .ok (.iconst 0, 1) := by decide +kernel
theorem dX11_move_11 : decode cX11_move 11 = .ok (.istore_n 1, 1) := by decide +kernel
theorem dX11_move_12 : decode cX11_move 12 = .ok (.iload_n 1, 1) := by decide +kernel
theorem dX11_move_13 : decode cX11_move 13 = .ok (.aload_n 0, 1) := by decide +kernel
theorem dX11_move_14 : decode cX11_move 14 = .ok (.getfield 3, 3) := by decide +kernel
theorem dX11_move_17 : decode cX11_move 17 = .ok (.getfield 51, 3) := by decide +kernel
theorem dX11_move_20 : decode cX11_move 20 = .ok (.getfield 70, 3) := by decide +kernel
theorem dX11_move_23 : decode cX11_move 23 = .ok (.if_icmp .ge 117, 3) := by decide +kernel
theorem dX11_move_26 : decode cX11_move 26 = .ok (.aload_n 0, 1) := by decide +kernel
theorem dX11_move_27 : decode cX11_move 27 = .ok (.getfield 19, 3) := by decide +kernel
theorem dX11_move_30 : decode cX11_move 30 = .ok (.iload_n 1, 1) := by decide +kernel
theorem dX11_move_31 : decode cX11_move 31 = .ok (.aload_n 0, 1) := by decide +kernel
theorem dX11_move_32 : decode cX11_move 32 = .ok (.getfield 15, 3) := by decide +kernel
theorem dX11_move_35 : decode cX11_move 35 = .ok (.iload_n 1, 1) := by decide +kernel
theorem dX11_move_36 : decode cX11_move 36 = .ok (.iaload, 1) := by decide +kernel
theorem dX11_move_37 : decode cX11_move 37 = .ok (.iastore, 1) := by decide +kernel
theorem dX11_move_38 : decode cX11_move 38 = .ok (.aload_n 0, 1) := by decide +kernel
theorem dX11_move_39 : decode cX11_move 39 = .ok (.getfield 15, 3) := by decide +kernel
theorem dX11_move_42 : decode cX11_move 42 = .ok (.iload_n 1, 1) := by decide +kernel
theorem dX11_move_43 : decode cX11_move 43 = .ok (.iaload, 1) := by decide +kernel
theorem dX11_move_44 : decode cX11_move 44 = .ok (.aload_n 0, 1) := by decide +kernel
theorem dX11_move_45 : decode cX11_move 45 = .ok (.iload_n 1, 1) := by decide +kernel
theorem dX11_move_46 : decode cX11_move 46 = .ok (.invokevirtual 77, 3) := by decide +kernel
theorem dX11_move_49 : decode cX11_move 49 = .ok (.ifCond .eq 23, 3) := by decide +kernel
theorem dX11_move_52 : decode cX11_move 52 = .ok (.aload_n 0, 1) := by decide +kernel
theorem dX11_move_53 : decode cX11_move 53 = .ok (.getfield 3, 3) := by decide +kernel
theorem dX11_move_56 : decode cX11_move 56 = .ok (.getfield 51, 3) := by decide +kernel
theorem dX11_move_59 : decode cX11_move 59 = .ok (.getfield 55, 3) := by decide +kernel
theorem dX11_move_62 : decode cX11_move 62 = .ok (.iconst 5, 1) := by decide +kernel
theorem dX11_move_63 : decode cX11_move 63 = .ok (.iload_n 1, 1) := by decide +kernel
theorem dX11_move_64 : decode cX11_move 64 = .ok (.imul, 1) := by decide +kernel
theorem dX11_move_65 : decode cX11_move 65 = .ok (.iconst 1, 1) := by decide +kernel
theorem dX11_move_66 : decode cX11_move 66 = .ok (.iadd, 1) := by decide +kernel
theorem dX11_move_67 : decode cX11_move 67 = .ok (.iaload, 1) := by decide +kernel
theorem dX11_move_68 : decode cX11_move 68 = .ok (.ineg, 1) := by decide +kernel
theorem dX11_move_69 : decode cX11_move 69 = .ok (.goto 19, 3) := by decide +kernel
theorem dX11_move_72 : decode cX11_move 72 = .ok (.aload_n 0, 1) := by decide +kernel
theorem dX11_move_73 : decode cX11_move 73 = .ok (.getfield 3, 3) := by decide +kernel
theorem dX11_move_76 : decode cX11_move 76 = .ok (.getfield 51, 3) := by decide +kernel
theorem dX11_move_79 : decode cX11_move 79 = .ok (.getfield 55, 3) := by decide +kernel
theorem dX11_move_82 : decode cX11_move 82 = .ok (.iconst 5, 1) := by decide +kernel
theorem dX11_move_83 : decode cX11_move 83 = .ok (.iload_n 1, 1) := by decide +kernel
theorem dX11_move_84 : decode cX11_move 84 = .ok (.imul, 1) := by decide +kernel
theorem dX11_move_85 : decode cX11_move 85 = .ok (.iconst 1, 1) := by decide +kernel
theorem dX11_move_86 : decode cX11_move 86 = .ok (.iadd, 1) := by decide +kernel
theorem dX11_move_87 : decode cX11_move 87 = .ok (.iaload, 1) := by decide +kernel
theorem dX11_move_88 : decode cX11_move 88 = .ok (.iadd, 1) := by decide +kernel
theorem dX11_move_89 : decode cX11_move 89 = .ok (.istore_n 2, 1) := by decide +kernel
theorem dX11_move_90 : decode cX11_move 90 = .ok (.aload_n 0, 1) := by decide +kernel
theorem dX11_move_91 : decode cX11_move 91 = .ok (.getfield 22, 3) := by decide +kernel
theorem dX11_move_94 : decode cX11_move 94 = .ok (.iload_n 1, 1) := by decide +kernel
theorem dX11_move_95 : decode cX11_move 95 = .ok (.dup2, 1) := by decide +kernel
theorem dX11_move_96 : decode cX11_move 96 = .ok (.iaload, 1) := by decide +kernel
theorem dX11_move_97 : decode cX11_move 97 = .ok (.iload_n 2, 1) := by decide +kernel
theorem dX11_move_98 : decode cX11_move 98 = .ok (.ifCond .ge 7, 3) := by decide +kernel
theorem dX11_move_101 : decode cX11_move 101 = .ok (.iconst (-1), 1) := by decide +kernel
theorem dX11_move_102 : decode cX11_move 102 = .ok (.goto 15, 3) := by decide +kernel
theorem dX11_move_105 : decode cX11_move 105 = .ok (.iload_n 2, 1) := by decide +kernel
theorem dX11_move_106 : decode cX11_move 106 = .ok (.sipush 359, 3) := by decide +kernel
theorem dX11_move_109 : decode cX11_move 109 = .ok (.if_icmp .le 7, 3) := by decide +kernel
theorem dX11_move_112 : decode cX11_move 112 = .ok (.iconst 1, 1) := by decide +kernel
theorem dX11_move_113 : decode cX11_move 113 = .ok (.goto 4, 3) := by decide +kernel
theorem dX11_move_116 : decode cX11_move 116 = .ok (.iconst 0, 1) := by decide +kernel
theorem dX11_move_117 : decode cX11_move 117 = .ok (.iadd, 1) := by decide +kernel
theorem dX11_move_118 : decode cX11_move 118 = .ok (.iastore, 1) := by decide +kernel
theorem dX11_move_119 : decode cX11_move 119 = .ok (.aload_n 0, 1) := by decide +kernel
theorem dX11_move_120 : decode cX11_move 120 = .ok (.getfield 15, 3) := by decide +kernel
theorem dX11_move_123 : decode cX11_move 123 = .ok (.iload_n 1, 1) := by decide +kernel
theorem dX11_move_124 : decode cX11_move 124 = .ok (.iload_n 2, 1) := by decide +kernel
theorem dX11_move_125 : decode cX11_move 125 = .ok (.sipush 360, 3) := by decide +kernel
theorem dX11_move_128 : decode cX11_move 128 = .ok (.iadd, 1) := by decide +kernel
theorem dX11_move_129 : decode cX11_move 129 = .ok (.sipush 360, 3) := by decide +kernel
theorem dX11_move_132 : decode cX11_move 132 = .ok (.irem, 1) := by decide +kernel
theorem dX11_move_133 : decode cX11_move 133 = .ok (.iastore, 1) := by decide +kernel
theorem dX11_move_134 : decode cX11_move 134 = .ok (.iinc 1 1, 3) := by decide +kernel
