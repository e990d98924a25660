theorem dX0_init_0 : decode cX0_init 0 = .ok (.aload_n 0, 1) := by decide +kernel
theorem dX0_init_1 : decode cX0_init 1 = .ok (.invokespecial 1, 3) := by decide +kernel
theorem dX0_init_4 : decode cX0_init 4 = .ok (.aload_n 0, 1) := by decide +kernel
theorem dX0_init_5 : decode cX0_init 5 = .ok (.bipush 12, 2) := by decide +kernel
theorem dX0_init_7 : decode cX0_init 7 = .ok (.newarray .int, 2) := by decide +kernel
theorem dX0_init_9 : decode cX0_init 9 = .ok (.putfield 9, 3) := by decide +kernel
theorem dX0_init_12 : decode cX0_init 12 = .ok (.return_, 1) := by decide +kernel
theorem dX0_empty_0 : decode cX0_empty 0 = .ok (.aload_n 0, 1) := by decide +kernel
theorem dX0_empty_1 : decode cX0_empty 1 = .ok (.iconst 0, 1) := by decide +kernel
theorem dX0_empty_2 : decode cX0_empty 2 = .ok (.putfield 15, 3) := by decide +kernel
theorem dX0_empty_5 : decode cX0_empty 5 = .ok (.return_, 1) := by decide +kernel
theorem dX0_size_0 : decode cX0_size 0 = .ok (.aload_n 0, 1) := by decide +kernel
theorem dX0_size_1 : decode cX0_size 1 = .ok (.getfield 15, 3) := by decide +kernel
theorem dX0_size_4 : decode cX0_size 4 = .ok (.ireturn, 1) := by decide +kernel
theorem dX0_add_0 : decode cX0_add 0 = .ok (.aload_n 0, 1) := by decide +kernel
theorem dX0_add_1 : decode cX0_add 1 = .ok (.getfield 15, 3) := by decide +kernel
theorem dX0_add_4 : decode cX0_add 4 = .ok (.aload_n 0, 1) := by decide +kernel
theorem dX0_add_5 : decode cX0_add 5 = .ok (.getfield 9, 3) := by decide +kernel
theorem dX0_add_8 : decode cX0_add 8 = .ok (.arraylength, 1) := by decide +kernel
theorem dX0_add_9 : decode cX0_add 9 = .ok (.if_icmp .ge 23, 3) := by decide +kernel
theorem dX0_add_12 : decode cX0_add 12 = .ok (.aload_n 0, 1) := by decide +kernel
theorem dX0_add_13 : decode cX0_add 13 = .ok (.getfield 9, 3) := by decide +kernel
theorem dX0_add_16 : decode cX0_add 16 = .ok (.aload_n 0, 1) := by decide +kernel
theorem dX0_add_17 : decode cX0_add 17 = .ok (.getfield 15, 3) := by decide +kernel
theorem dX0_add_20 : decode cX0_add 20 = .ok (.iload_n 1, 1) := by decide +kernel
theorem dX0_add_21 : decode cX0_add 21 = .ok (.iastore, 1) := by decide +kernel
theorem dX0_add_22 : decode cX0_add 22 = .ok (.aload_n 0, 1) := by decide +kernel
theorem dX0_add_23 : decode cX0_add 23 = .ok (.dup, 1) := by decide +kernel
theorem dX0_add_24 : decode cX0_add 24 = .ok (.getfield 15, 3) := by decide +kernel
theorem dX0_add_27 : decode cX0_add 27 = .ok (.iconst 1, 1) := by decide +kernel
theorem dX0_add_28 : decode cX0_add 28 = .ok (.iadd, 1) := by decide +kernel
theorem dX0_add_29 : decode cX0_add 29 = .ok (.putfield 15, 3) := by decide +kernel
theorem dX0_add_32 : decode cX0_add 32 = .ok (.return_, 1) := by decide +kernel
theorem dX0_at_0 : decode cX0_at 0 = .ok (.iload_n 1, 1) := by decide +kernel
theorem dX0_at_1 : decode cX0_at 1 = .ok (.ifCond .lt 20, 3) := by decide +kernel
theorem dX0_at_4 : decode cX0_at 4 = .ok (.iload_n 1, 1) := by decide +kernel
theorem dX0_at_5 : decode cX0_at 5 = .ok (.aload_n 0, 1) := by decide +kernel
theorem dX0_at_6 : decode cX0_at 6 = .ok (.getfield 15, 3) := by decide +kernel
theorem dX0_at_9 : decode cX0_at 9 = .ok (.if_icmp .ge 12, 3) := by decide +kernel
theorem dX0_at_12 : decode cX0_at 12 = .ok (.aload_n 0, 1) := by decide +kernel
theorem dX0_at_13 : decode cX0_at 13 = .ok (.getfield 9, 3) := by decide +kernel
theorem dX0_at_16 : decode cX0_at 16 = .ok (.iload_n 1, 1) := by decide +kernel
theorem dX0_at_17 : decode cX0_at 17 = .ok (.iaload, 1) := by decide +kernel
theorem dX0_at_18 : decode cX0_at 18 = .ok (.goto 4, 3) := by decide +kernel
theorem dX0_at_21 : decode cX0_at 21 = .ok (.iconst 0, 1) := by decide +kernel
theorem dX0_at_22 : decode cX0_at 22 = .ok (.ireturn, 1) := by decide +kernel
theorem dX0_numberOf_0 : decode cX0_numberOf 0 = .ok (.iconst 0, 1) := by decide +kernel
theorem dX0_numberOf_1 : decode cX0_numberOf 1 = .ok (.istore_n 2, 1) := by decide +kernel
theorem dX0_numberOf_2 : decode cX0_numberOf 2 = .ok (.iload_n 2, 1) := by decide +kernel
theorem dX0_numberOf_3 : decode cX0_numberOf 3 = .ok (.aload_n 0, 1) := by decide +kernel
theorem dX0_numberOf_4 : decode cX0_numberOf 4 = .ok (.getfield 15, 3) := by decide +kernel
theorem dX0_numberOf_7 : decode cX0_numberOf 7 = .ok (.if_icmp .ge 21, 3) := by decide +kernel
theorem dX0_numberOf_10 : decode cX0_numberOf 10 = .ok (.aload_n 0, 1) := by decide +kernel
theorem dX0_numberOf_11 : decode cX0_numberOf 11 = .ok (.getfield 9, 3) := by decide +kernel
theorem dX0_numberOf_14 : decode cX0_numberOf 14 = .ok (.iload_n 2, 1) := by decide +kernel
theorem dX0_numberOf_15 : decode cX0_numberOf 15 = .ok (.iaload, 1) := by decide +kernel
theorem dX0_numberOf_16 : decode cX0_numberOf 16 = .ok (.iload_n 1, 1) := by decide +kernel
theorem dX0_numberOf_17 : decode cX0_numberOf 17 = .ok (.if_icmp .ne 5, 3) := by decide +kernel
theorem dX0_numberOf_20 : decode cX0_numberOf 20 = .ok (.iload_n 2, 1) := by decide +kernel
theorem dX0_numberOf_21 : decode cX0_numberOf 21 = .ok (.ireturn, 1) := by decide +kernel
theorem dX0_numberOf_22 : decode cX0_numberOf 22 = .ok (.iinc 2 1, 3) := by decide +kernel
theorem dX0_numberOf_25 : decode cX0_numberOf 25 = .ok (.goto (-23), 3) := by decide +kernel
theorem dX0_numberOf_28 : decode cX0_numberOf 28 = .ok (.iconst (-1), 1) := by decide +kernel
theorem dX0_numberOf_29 : decode cX0_numberOf 29 = .ok (.ireturn, 1) := by decide +kernel
theorem dX0_copyFrom_0 : decode cX0_copyFrom 0 = .ok (.aload_n 1, 1) := by decide +kernel
theorem dX0_copyFrom_1 : decode cX0_copyFrom 1 = .ok (.getfield 9, 3) := by decide +kernel
theorem dX0_copyFrom_4 : decode cX0_copyFrom 4 = .ok (.iconst 0, 1) := by decide +kernel
theorem dX0_copyFrom_5 : decode cX0_copyFrom 5 = .ok (.aload_n 0, 1) := by decide +kernel
theorem dX0_copyFrom_6 : decode cX0_copyFrom 6 = .ok (.getfield 9, 3) := by decide +kernel
theorem dX0_copyFrom_9 : decode cX0_copyFrom 9 = .ok (.iconst 0, 1) := by decide +kernel
theorem dX0_copyFrom_10 : decode cX0_copyFrom 10 = .ok (.aload_n 0, 1) := by decide +kernel
theorem dX0_copyFrom_11 : decode cX0_copyFrom 11 = .ok (.getfield 9, 3) := by decide +kernel
theorem dX0_copyFrom_14 : decode cX0_copyFrom 14 = .ok (.arraylength, 1) := by decide +kernel
theorem dX0_copyFrom_15 : decode cX0_copyFrom 15 = .ok (.invokestatic 19, 3) := by decide +kernel
theorem dX0_copyFrom_18 : decode cX0_copyFrom 18 = .ok (.aload_n 0, 1) := by decide +kernel
theorem dX0_copyFrom_19 : decode cX0_copyFrom 19 = .ok (.aload_n 1, 1) := by decide +kernel
theorem dX0_copyFrom_20 : decode cX0_copyFrom 20 = .ok (.getfield 15, 3) := by decide +kernel
theorem dX0_copyFrom_23 : decode cX0_copyFrom 23 = .ok (.putfield 15, 3) := by decide +kernel
theorem dX0_copyFrom_26 : decode cX0_copyFrom 26 = .ok (.return_, 1) := by decide +kernel
theorem dX1_init_0 : decode cX1_init 0 = .ok (.aload_n 0, 1) := by decide +kernel
theorem dX1_init_1 : decode cX1_init 1 = .ok (.invokespecial 1, 3) := by decide +kernel
theorem dX1_init_4 : decode cX1_init 4 = .ok (.aload_n 0, 1) := by decide +kernel
theorem dX1_init_5 : decode cX1_init 5 = .ok (.bipush 8, 2) := by decide +kernel
theorem dX1_init_7 : decode cX1_init 7 = .ok (.anewarray 9, 3) := by decide +kernel
theorem dX1_init_10 : decode cX1_init 10 = .ok (.putfield 11, 3) := by decide +kernel
theorem dX1_init_13 : decode cX1_init 13 = .ok (.aload_n 0, 1) := by decide +kernel
theorem dX1_init_14 : decode cX1_init 14 = .ok (.bipush 8, 2) := by decide +kernel
theorem dX1_init_16 : decode cX1_init 16 = .ok (.newarray .long, 2) := by decide +kernel
theorem dX1_init_18 : decode cX1_init 18 = .ok (.putfield 15, 3) := by decide +kernel
theorem dX1_init_21 : decode cX1_init 21 = .ok (.aload_n 0, 1) := by decide +kernel
theorem dX1_init_22 : decode cX1_init 22 = .ok (.bipush 6, 2) := by decide +kernel
theorem dX1_init_24 : decode cX1_init 24 = .ok (.anewarray 19, 3) := by decide +kernel
theorem dX1_init_27 : decode cX1_init 27 = .ok (.putfield 21, 3) := by decide +kernel
theorem dX1_init_30 : decode cX1_init 30 = .ok (.aload_n 0, 1) := by decide +kernel
theorem dX1_init_31 : decode cX1_init 31 = .ok (.bipush 6, 2) := by decide +kernel
theorem dX1_init_33 : decode cX1_init 33 = .ok (.newarray .long, 2) := by decide +kernel
theorem dX1_init_35 : decode cX1_init 35 = .ok (.putfield 25, 3) := by decide +kernel
theorem dX1_init_38 : decode cX1_init 38 = .ok (.aload_n 0, 1) := by decide +kernel
theorem dX1_init_39 : decode cX1_init 39 = .ok (.new 28, 3) := by decide +kernel
theorem dX1_init_42 : decode cX1_init 42 = .ok (.dup, 1) := by decide +kernel
theorem dX1_init_43 : decode cX1_init 43 = .ok (.invokespecial 30, 3) := by decide +kernel
theorem dX1_init_46 : decode cX1_init 46 = .ok (.putfield 31, 3) := by decide +kernel
theorem dX1_init_49 : decode cX1_init 49 = .ok (.aload_n 0, 1) := by decide +kernel
theorem dX1_init_50 : decode cX1_init 50 = .ok (.bipush 12, 2) := by decide +kernel
theorem dX1_init_52 : decode cX1_init 52 = .ok (.newarray .int, 2) := by decide +kernel
theorem dX1_init_54 : decode cX1_init 54 = .ok (.putfield 35, 3) := by decide +kernel
theorem dX1_init_57 : decode cX1_init 57 = .ok (.aload_n 0, 1) := by decide +kernel
theorem dX1_init_58 : decode cX1_init 58 = .ok (.bipush 12, 2) := by decide +kernel
theorem dX1_init_60 : decode cX1_init 60 = .ok (.newarray .int, 2) := by decide +kernel
theorem dX1_init_62 : decode cX1_init 62 = .ok (.putfield 39, 3) := by decide +kernel
theorem dX1_init_65 : decode cX1_init 65 = .ok (.aload_n 0, 1) := by decide +kernel
theorem dX1_init_66 : decode cX1_init 66 = .ok (.bipush 12, 2) := by decide +kernel
theorem dX1_init_68 : decode cX1_init 68 = .ok (.newarray .int, 2) := by decide +kernel
theorem dX1_init_70 : decode cX1_init 70 = .ok (.putfield 42, 3) := by decide +kernel
theorem dX1_init_73 : decode cX1_init 73 = .ok (.aload_n 0, 1) := by decide +kernel
theorem dX1_init_74 : decode cX1_init 74 = .ok (.bipush 12, 2) := by decide +kernel
theorem dX1_init_76 : decode cX1_init 76 = .ok (.newarray .int, 2) := by decide +kernel
theorem dX1_init_78 : decode cX1_init 78 = .ok (.putfield 45, 3) := by decide +kernel
theorem dX1_init_81 : decode cX1_init 81 = .ok (.iconst 0, 1) := by decide +kernel
theorem dX1_init_82 : decode cX1_init 82 = .ok (.istore_n 1, 1) := by decide +kernel
theorem dX1_init_83 : decode cX1_init 83 = .ok (.iload_n 1, 1) := by decide +kernel
theorem dX1_init_84 : decode cX1_init 84 = .ok (.bipush 8, 2) := by decide +kernel
theorem dX1_init_86 : decode cX1_init 86 = .ok (.if_icmp .ge 22, 3) := by decide +kernel
theorem dX1_init_89 : decode cX1_init 89 = .ok (.aload_n 0, 1) := by decide +kernel
theorem dX1_init_90 : decode cX1_init 90 = .ok (.getfield 11, 3) := by decide +kernel
theorem dX1_init_93 : decode cX1_init 93 = .ok (.iload_n 1, 1) := by decide +kernel
theorem dX1_init_94 : decode cX1_init 94 = .ok (.new 9, 3) := by decide +kernel
theorem dX1_init_97 : decode cX1_init 97 = .ok (.dup, 1) := by decide +kernel
theorem dX1_init_98 : decode cX1_init 98 = .ok (.invokespecial 48, 3) := by decide +kernel
theorem dX1_init_101 : decode cX1_init 101 = .ok (.aastore, 1) := by decide +kernel
theorem dX1_init_102 : decode cX1_init 102 = .ok (.iinc 1 1, 3) := by decide +kernel
theorem dX1_init_105 : decode cX1_init 105 = .ok (.goto (-22), 3) := by decide +kernel
theorem dX1_init_108 : decode cX1_init 108 = .ok (.iconst 0, 1) := by decide +kernel
theorem dX1_init_109 : decode cX1_init 109 = .ok (.istore_n 1, 1) := by decide +kernel
theorem dX1_init_110 : decode cX1_init 110 = .ok (.iload_n 1, 1) := by decide +kernel
theorem dX1_init_111 : decode cX1_init 111 = .ok (.bipush 6, 2) := by decide +kernel
theorem dX1_init_113 : decode cX1_init 113 = .ok (.if_icmp .ge 22, 3) := by decide +kernel
theorem dX1_init_116 : decode cX1_init 116 = .ok (.aload_n 0, 1) := by decide +kernel
theorem dX1_init_117 : decode cX1_init 117 = .ok (.getfield 21, 3) := by decide +kernel
theorem dX1_init_120 : decode cX1_init 120 = .ok (.iload_n 1, 1) := by decide +kernel
theorem dX1_init_121 : decode cX1_init 121 = .ok (.new 19, 3) := by decide +kernel
theorem dX1_init_124 : decode cX1_init 124 = .ok (.dup, 1) := by decide +kernel
theorem dX1_init_125 : decode cX1_init 125 = .ok (.invokespecial 49, 3) := by decide +kernel
theorem dX1_init_128 : decode cX1_init 128 = .ok (.aastore, 1) := by decide +kernel
theorem dX1_init_129 : decode cX1_init 129 = .ok (.iinc 1 1, 3) := by decide +kernel
theorem dX1_init_132 : decode cX1_init 132 = .ok (.goto (-22), 3) := by decide +kernel
theorem dX1_init_135 : decode cX1_init 135 = .ok (.return_, 1) := by decide +kernel
theorem dX1_empty_0 : decode cX1_empty 0 = .ok (.aload_n 0, 1) := by decide +kernel
theorem dX1_empty_1 : decode cX1_empty 1 = .ok (.iconst 0, 1) := by decide +kernel
theorem dX1_empty_2 : decode cX1_empty 2 = .ok (.putfield 50, 3) := by decide +kernel
theorem dX1_empty_5 : decode cX1_empty 5 = .ok (.aload_n 0, 1) := by decide +kernel
theorem dX1_empty_6 : decode cX1_empty 6 = .ok (.iconst 0, 1) := by decide +kernel
theorem dX1_empty_7 : decode cX1_empty 7 = .ok (.putfield 54, 3) := by decide +kernel
theorem dX1_empty_10 : decode cX1_empty 10 = .ok (.aload_n 0, 1) := by decide +kernel
theorem dX1_empty_11 : decode cX1_empty 11 = .ok (.iconst 0, 1) := by decide +kernel
theorem dX1_empty_12 : decode cX1_empty 12 = .ok (.putfield 57, 3) := by decide +kernel
theorem dX1_empty_15 : decode cX1_empty 15 = .ok (.aload_n 0, 1) := by decide +kernel
theorem dX1_empty_16 : decode cX1_empty 16 = .ok (.getfield 31, 3) := by decide +kernel
theorem dX1_empty_19 : decode cX1_empty 19 = .ok (.invokevirtual 60, 3) := by decide +kernel
theorem dX1_empty_22 : decode cX1_empty 22 = .ok (.return_, 1) := by decide +kernel
theorem dX1_program_0 : decode cX1_program 0 = .ok (.aload_n 0, 1) := by decide +kernel
theorem dX1_program_1 : decode cX1_program 1 = .ok (.getfield 31, 3) := by decide +kernel
theorem dX1_program_4 : decode cX1_program 4 = .ok (.areturn, 1) := by decide +kernel
theorem dX1_planets_0 : decode cX1_planets 0 = .ok (.aload_n 0, 1) := by decide +kernel
theorem dX1_planets_1 : decode cX1_planets 1 = .ok (.getfield 50, 3) := by decide +kernel
theorem dX1_planets_4 : decode cX1_planets 4 = .ok (.ireturn, 1) := by decide +kernel
theorem dX1_alphabets_0 : decode cX1_alphabets 0 = .ok (.aload_n 0, 1) := by decide +kernel
theorem dX1_alphabets_1 : decode cX1_alphabets 1 = .ok (.getfield 54, 3) := by decide +kernel
theorem dX1_alphabets_4 : decode cX1_alphabets 4 = .ok (.ireturn, 1) := by decide +kernel
theorem dX1_rules_0 : decode cX1_rules 0 = .ok (.aload_n 0, 1) := by decide +kernel
theorem dX1_rules_1 : decode cX1_rules 1 = .ok (.getfield 57, 3) := by decide +kernel
theorem dX1_rules_4 : decode cX1_rules 4 = .ok (.ireturn, 1) := by decide +kernel
theorem dX1_addPlanet_0 : decode cX1_addPlanet 0 = .ok (.aload_n 0, 1) := by decide +kernel
theorem dX1_addPlanet_1 : decode cX1_addPlanet 1 = .ok (.getfield 50, 3) := by decide +kernel
theorem dX1_addPlanet_4 : decode cX1_addPlanet 4 = .ok (.bipush 8, 2) := by decide +kernel
theorem dX1_addPlanet_6 : decode cX1_addPlanet 6 = .ok (.if_icmp .ge 44, 3) := by decide +kernel
theorem dX1_addPlanet_9 : decode cX1_addPlanet 9 = .ok (.aload_n 0, 1) := by decide +kernel
theorem dX1_addPlanet_10 : decode cX1_addPlanet 10 = .ok (.getfield 11, 3) := by decide +kernel
theorem dX1_addPlanet_13 : decode cX1_addPlanet 13 = .ok (.aload_n 0, 1) := by decide +kernel
theorem dX1_addPlanet_14 : decode cX1_addPlanet 14 = .ok (.getfield 50, 3) := by decide +kernel
theorem dX1_addPlanet_17 : decode cX1_addPlanet 17 = .ok (.aaload, 1) := by decide +kernel
theorem dX1_addPlanet_18 : decode cX1_addPlanet 18 = .ok (.iload_n 3, 1) := by decide +kernel
theorem dX1_addPlanet_19 : decode cX1_addPlanet 19 = .ok (.iload 4, 2) := by decide +kernel
theorem dX1_addPlanet_21 : decode cX1_addPlanet 21 = .ok (.iload 5, 2) := by decide +kernel
theorem dX1_addPlanet_23 : decode cX1_addPlanet 23 = .ok (.iload 6, 2) := by decide +kernel
theorem dX1_addPlanet_25 : decode cX1_addPlanet 25 = .ok (.iload 7, 2) := by decide +kernel
theorem dX1_addPlanet_27 : decode cX1_addPlanet 27 = .ok (.invokevirtual 63, 3) := by decide +kernel
theorem dX1_addPlanet_30 : decode cX1_addPlanet 30 = .ok (.aload_n 0, 1) := by decide +kernel
theorem dX1_addPlanet_31 : decode cX1_addPlanet 31 = .ok (.getfield 15, 3) := by decide +kernel
theorem dX1_addPlanet_34 : decode cX1_addPlanet 34 = .ok (.aload_n 0, 1) := by decide +kernel
theorem dX1_addPlanet_35 : decode cX1_addPlanet 35 = .ok (.getfield 50, 3) := by decide +kernel
theorem dX1_addPlanet_38 : decode cX1_addPlanet 38 = .ok (.lload_n 1, 1) := by decide +kernel
theorem dX1_addPlanet_39 : decode cX1_addPlanet 39 = .ok (.lastore, 1) := by decide +kernel
theorem dX1_addPlanet_40 : decode cX1_addPlanet 40 = .ok (.aload_n 0, 1) := by decide +kernel
theorem dX1_addPlanet_41 : decode cX1_addPlanet 41 = .ok (.dup, 1) := by decide +kernel
theorem dX1_addPlanet_42 : decode cX1_addPlanet 42 = .ok (.getfield 50, 3) := by decide +kernel
theorem dX1_addPlanet_45 : decode cX1_addPlanet 45 = .ok (.iconst 1, 1) := by decide +kernel
theorem dX1_addPlanet_46 : decode cX1_addPlanet 46 = .ok (.iadd, 1) := by decide +kernel
theorem dX1_addPlanet_47 : decode cX1_addPlanet 47 = .ok (.putfield 50, 3) := by decide +kernel
theorem dX1_addPlanet_50 : decode cX1_addPlanet 50 = .ok (.return_, 1) := by decide +kernel
theorem dX1_addAlphabet_0 : decode cX1_addAlphabet 0 = .ok (.aload_n 0, 1) := by decide +kernel
theorem dX1_addAlphabet_1 : decode cX1_addAlphabet 1 = .ok (.getfield 54, 3) := by decide +kernel
theorem dX1_addAlphabet_4 : decode cX1_addAlphabet 4 = .ok (.bipush 6, 2) := by decide +kernel
theorem dX1_addAlphabet_6 : decode cX1_addAlphabet 6 = .ok (.if_icmp .ge 36, 3) := by decide +kernel
theorem dX1_addAlphabet_9 : decode cX1_addAlphabet 9 = .ok (.aload_n 0, 1) := by decide +kernel
theorem dX1_addAlphabet_10 : decode cX1_addAlphabet 10 = .ok (.getfield 21, 3) := by decide +kernel
theorem dX1_addAlphabet_13 : decode cX1_addAlphabet 13 = .ok (.aload_n 0, 1) := by decide +kernel
theorem dX1_addAlphabet_14 : decode cX1_addAlphabet 14 = .ok (.getfield 54, 3) := by decide +kernel
theorem dX1_addAlphabet_17 : decode cX1_addAlphabet 17 = .ok (.aaload, 1) := by decide +kernel
theorem dX1_addAlphabet_18 : decode cX1_addAlphabet 18 = .ok (.aload_n 3, 1) := by decide +kernel
theorem dX1_addAlphabet_19 : decode cX1_addAlphabet 19 = .ok (.invokevirtual 67, 3) := by decide +kernel
theorem dX1_addAlphabet_22 : decode cX1_addAlphabet 22 = .ok (.aload_n 0, 1) := by decide +kernel
theorem dX1_addAlphabet_23 : decode cX1_addAlphabet 23 = .ok (.getfield 25, 3) := by decide +kernel
theorem dX1_addAlphabet_26 : decode cX1_addAlphabet 26 = .ok (.aload_n 0, 1) := by decide +kernel
theorem dX1_addAlphabet_27 : decode cX1_addAlphabet 27 = .ok (.getfield 54, 3) := by decide +kernel
theorem dX1_addAlphabet_30 : decode cX1_addAlphabet 30 = .ok (.lload_n 1, 1) := by decide +kernel
theorem dX1_addAlphabet_31 : decode cX1_addAlphabet 31 = .ok (.lastore, 1) := by decide +kernel
theorem dX1_addAlphabet_32 : decode cX1_addAlphabet 32 = .ok (.aload_n 0, 1) := by decide +kernel
theorem dX1_addAlphabet_33 : decode cX1_addAlphabet 33 = .ok (.dup, 1) := by decide +kernel
theorem dX1_addAlphabet_34 : decode cX1_addAlphabet 34 = .ok (.getfield 54, 3) := by decide +kernel
theorem dX1_addAlphabet_37 : decode cX1_addAlphabet 37 = .ok (.iconst 1, 1) := by decide +kernel
theorem dX1_addAlphabet_38 : decode cX1_addAlphabet 38 = .ok (.iadd, 1) := by decide +kernel
theorem dX1_addAlphabet_39 : decode cX1_addAlphabet 39 = .ok (.putfield 54, 3) := by decide +kernel
theorem dX1_addAlphabet_42 : decode cX1_addAlphabet 42 = .ok (.return_, 1) := by decide +kernel
theorem dX1_addRule_0 : decode cX1_addRule 0 = .ok (.aload_n 0, 1) := by decide +kernel
theorem dX1_addRule_1 : decode cX1_addRule 1 = .ok (.getfield 57, 3) := by decide +kernel
theorem dX1_addRule_4 : decode cX1_addRule 4 = .ok (.bipush 12, 2) := by decide +kernel
theorem dX1_addRule_6 : decode cX1_addRule 6 = .ok (.if_icmp .ge 59, 3) := by decide +kernel
theorem dX1_addRule_9 : decode cX1_addRule 9 = .ok (.aload_n 0, 1) := by decide +kernel
theorem dX1_addRule_10 : decode cX1_addRule 10 = .ok (.getfield 35, 3) := by decide +kernel
theorem dX1_addRule_13 : decode cX1_addRule 13 = .ok (.aload_n 0, 1) := by decide +kernel
theorem dX1_addRule_14 : decode cX1_addRule 14 = .ok (.getfield 57, 3) := by decide +kernel
theorem dX1_addRule_17 : decode cX1_addRule 17 = .ok (.iload_n 1, 1) := by decide +kernel
theorem dX1_addRule_18 : decode cX1_addRule 18 = .ok (.iastore, 1) := by decide +kernel
theorem dX1_addRule_19 : decode cX1_addRule 19 = .ok (.aload_n 0, 1) := by decide +kernel
theorem dX1_addRule_20 : decode cX1_addRule 20 = .ok (.getfield 39, 3) := by decide +kernel
theorem dX1_addRule_23 : decode cX1_addRule 23 = .ok (.aload_n 0, 1) := by decide +kernel
theorem dX1_addRule_24 : decode cX1_addRule 24 = .ok (.getfield 57, 3) := by decide +kernel
theorem dX1_addRule_27 : decode cX1_addRule 27 = .ok (.iload_n 2, 1) := by decide +kernel
theorem dX1_addRule_28 : decode cX1_addRule 28 = .ok (.iastore, 1) := by decide +kernel
theorem dX1_addRule_29 : decode cX1_addRule 29 = .ok (.aload_n 0, 1) := by decide +kernel
theorem dX1_addRule_30 : decode cX1_addRule 30 = .ok (.getfield 42, 3) := by decide +kernel
theorem dX1_addRule_33 : decode cX1_addRule 33 = .ok (.aload_n 0, 1) := by decide +kernel
theorem dX1_addRule_34 : decode cX1_addRule 34 = .ok (.getfield 57, 3) := by decide +kernel
theorem dX1_addRule_37 : decode cX1_addRule 37 = .ok (.aload_n 0, 1) := by decide +kernel
theorem dX1_addRule_38 : decode cX1_addRule 38 = .ok (.getfield 31, 3) := by decide +kernel
theorem dX1_addRule_41 : decode cX1_addRule 41 = .ok (.invokevirtual 71, 3) := by decide +kernel
theorem dX1_addRule_44 : decode cX1_addRule 44 = .ok (.iastore, 1) := by decide +kernel
theorem dX1_addRule_45 : decode cX1_addRule 45 = .ok (.aload_n 0, 1) := by decide +kernel
theorem dX1_addRule_46 : decode cX1_addRule 46 = .ok (.getfield 45, 3) := by decide +kernel
theorem dX1_addRule_49 : decode cX1_addRule 49 = .ok (.aload_n 0, 1) := by decide +kernel
theorem dX1_addRule_50 : decode cX1_addRule 50 = .ok (.getfield 57, 3) := by decide +kernel
theorem dX1_addRule_53 : decode cX1_addRule 53 = .ok (.iload_n 3, 1) := by decide +kernel
theorem dX1_addRule_54 : decode cX1_addRule 54 = .ok (.iastore, 1) := by decide +kernel
theorem dX1_addRule_55 : decode cX1_addRule 55 = .ok (.aload_n 0, 1) := by decide +kernel
theorem dX1_addRule_56 : decode cX1_addRule 56 = .ok (.dup, 1) := by decide +kernel
theorem dX1_addRule_57 : decode cX1_addRule 57 = .ok (.getfield 57, 3) := by decide +kernel
theorem dX1_addRule_60 : decode cX1_addRule 60 = .ok (.iconst 1, 1) := by decide +kernel
theorem dX1_addRule_61 : decode cX1_addRule 61 = .ok (.iadd, 1) := by decide +kernel
theorem dX1_addRule_62 : decode cX1_addRule 62 = .ok (.putfield 57, 3) := by decide +kernel
theorem dX1_addRule_65 : decode cX1_addRule 65 = .ok (.return_, 1) := by decide +kernel
theorem dX1_planetNamed_0 : decode cX1_planetNamed 0 = .ok (.iconst 0, 1) := by decide +kernel
theorem dX1_planetNamed_1 : decode cX1_planetNamed 1 = .ok (.istore_n 3, 1) := by decide +kernel
theorem dX1_planetNamed_2 : decode cX1_planetNamed 2 = .ok (.iload_n 3, 1) := by decide +kernel
theorem dX1_planetNamed_3 : decode cX1_planetNamed 3 = .ok (.aload_n 0, 1) := by decide +kernel
theorem dX1_planetNamed_4 : decode cX1_planetNamed 4 = .ok (.getfield 50, 3) := by decide +kernel
theorem dX1_planetNamed_7 : decode cX1_planetNamed 7 = .ok (.if_icmp .ge 22, 3) := by decide +kernel
theorem dX1_planetNamed_10 : decode cX1_planetNamed 10 = .ok (.aload_n 0, 1) := by decide +kernel
theorem dX1_planetNamed_11 : decode cX1_planetNamed 11 = .ok (.getfield 15, 3) := by decide +kernel
theorem dX1_planetNamed_14 : decode cX1_planetNamed 14 = .ok (.iload_n 3, 1) := by decide +kernel
theorem dX1_planetNamed_15 : decode cX1_planetNamed 15 = .ok (.laload, 1) := by decide +kernel
theorem dX1_planetNamed_16 : decode cX1_planetNamed 16 = .ok (.lload_n 1, 1) := by decide +kernel
theorem dX1_planetNamed_17 : decode cX1_planetNamed 17 = .ok (.lcmp, 1) := by decide +kernel
theorem dX1_planetNamed_18 : decode cX1_planetNamed 18 = .ok (.ifCond .ne 5, 3) := by decide +kernel
theorem dX1_planetNamed_21 : decode cX1_planetNamed 21 = .ok (.iload_n 3, 1) := by decide +kernel
theorem dX1_planetNamed_22 : decode cX1_planetNamed 22 = .ok (.ireturn, 1) := by decide +kernel
theorem dX1_planetNamed_23 : decode cX1_planetNamed 23 = .ok (.iinc 3 1, 3) := by decide +kernel
theorem dX1_planetNamed_26 : decode cX1_planetNamed 26 = .ok (.goto (-24), 3) := by decide +kernel
theorem dX1_planetNamed_29 : decode cX1_planetNamed 29 = .ok (.iconst (-1), 1) := by decide +kernel
theorem dX1_planetNamed_30 : decode cX1_planetNamed 30 = .ok (.ireturn, 1) := by decide +kernel
theorem dX1_alphabetNamed_0 : decode cX1_alphabetNamed 0 = .ok (.iconst 0, 1) := by decide +kernel
theorem dX1_alphabetNamed_1 : decode cX1_alphabetNamed 1 = .ok (.istore_n 3, 1) := by decide +kernel
theorem dX1_alphabetNamed_2 : decode cX1_alphabetNamed 2 = .ok (.iload_n 3, 1) := by decide +kernel
theorem dX1_alphabetNamed_3 : decode cX1_alphabetNamed 3 = .ok (.aload_n 0, 1) := by decide +kernel
theorem dX1_alphabetNamed_4 : decode cX1_alphabetNamed 4 = .ok (.getfield 54, 3) := by decide +kernel
theorem dX1_alphabetNamed_7 : decode cX1_alphabetNamed 7 = .ok (.if_icmp .ge 22, 3) := by decide +kernel
theorem dX1_alphabetNamed_10 : decode cX1_alphabetNamed 10 = .ok (.aload_n 0, 1) := by decide +kernel
theorem dX1_alphabetNamed_11 : decode cX1_alphabetNamed 11 = .ok (.getfield 25, 3) := by decide +kernel
theorem dX1_alphabetNamed_14 : decode cX1_alphabetNamed 14 = .ok (.iload_n 3, 1) := by decide +kernel
theorem dX1_alphabetNamed_15 : decode cX1_alphabetNamed 15 = .ok (.laload, 1) := by decide +kernel
theorem dX1_alphabetNamed_16 : decode cX1_alphabetNamed 16 = .ok (.lload_n 1, 1) := by decide +kernel
theorem dX1_alphabetNamed_17 : decode cX1_alphabetNamed 17 = .ok (.lcmp, 1) := by decide +kernel
theorem dX1_alphabetNamed_18 : decode cX1_alphabetNamed 18 = .ok (.ifCond .ne 5, 3) := by decide +kernel
theorem dX1_alphabetNamed_21 : decode cX1_alphabetNamed 21 = .ok (.iload_n 3, 1) := by decide +kernel
theorem dX1_alphabetNamed_22 : decode cX1_alphabetNamed 22 = .ok (.ireturn, 1) := by decide +kernel
theorem dX1_alphabetNamed_23 : decode cX1_alphabetNamed 23 = .ok (.iinc 3 1, 3) := by decide +kernel
theorem dX1_alphabetNamed_26 : decode cX1_alphabetNamed 26 = .ok (.goto (-24), 3) := by decide +kernel
theorem dX1_alphabetNamed_29 : decode cX1_alphabetNamed 29 = .ok (.iconst (-1), 1) := by decide +kernel
theorem dX1_alphabetNamed_30 : decode cX1_alphabetNamed 30 = .ok (.ireturn, 1) := by decide +kernel
theorem dX1_copyPlanetTo_0 : decode cX1_copyPlanetTo 0 = .ok (.iload_n 1, 1) := by decide +kernel
theorem dX1_copyPlanetTo_1 : decode cX1_copyPlanetTo 1 = .ok (.ifCond .lt 21, 3) := by decide +kernel
theorem dX1_copyPlanetTo_4 : decode cX1_copyPlanetTo 4 = .ok (.iload_n 1, 1) := by decide +kernel
theorem dX1_copyPlanetTo_5 : decode cX1_copyPlanetTo 5 = .ok (.aload_n 0, 1) := by decide +kernel
theorem dX1_copyPlanetTo_6 : decode cX1_copyPlanetTo 6 = .ok (.getfield 50, 3) := by decide +kernel
theorem dX1_copyPlanetTo_9 : decode cX1_copyPlanetTo 9 = .ok (.if_icmp .ge 13, 3) := by decide +kernel
theorem dX1_copyPlanetTo_12 : decode cX1_copyPlanetTo 12 = .ok (.aload_n 2, 1) := by decide +kernel
theorem dX1_copyPlanetTo_13 : decode cX1_copyPlanetTo 13 = .ok (.aload_n 0, 1) := by decide +kernel
theorem dX1_copyPlanetTo_14 : decode cX1_copyPlanetTo 14 = .ok (.getfield 11, 3) := by decide +kernel
theorem dX1_copyPlanetTo_17 : decode cX1_copyPlanetTo 17 = .ok (.iload_n 1, 1) := by decide +kernel
theorem dX1_copyPlanetTo_18 : decode cX1_copyPlanetTo 18 = .ok (.aaload, 1) := by decide +kernel
theorem dX1_copyPlanetTo_19 : decode cX1_copyPlanetTo 19 = .ok (.invokevirtual 75, 3) := by decide +kernel
theorem dX1_copyPlanetTo_22 : decode cX1_copyPlanetTo 22 = .ok (.return_, 1) := by decide +kernel
theorem dX1_hasAlphabet_0 : decode cX1_hasAlphabet 0 = .ok (.iload_n 1, 1) := by decide +kernel
theorem dX1_hasAlphabet_1 : decode cX1_hasAlphabet 1 = .ok (.ifCond .lt 15, 3) := by decide +kernel
theorem dX1_hasAlphabet_4 : decode cX1_hasAlphabet 4 = .ok (.iload_n 1, 1) := by decide +kernel
theorem dX1_hasAlphabet_5 : decode cX1_hasAlphabet 5 = .ok (.aload_n 0, 1) := by decide +kernel
theorem dX1_hasAlphabet_6 : decode cX1_hasAlphabet 6 = .ok (.getfield 54, 3) := by decide +kernel
theorem dX1_hasAlphabet_9 : decode cX1_hasAlphabet 9 = .ok (.if_icmp .ge 7, 3) := by decide +kernel
theorem dX1_hasAlphabet_12 : decode cX1_hasAlphabet 12 = .ok (.iconst 1, 1) := by decide +kernel
theorem dX1_hasAlphabet_13 : decode cX1_hasAlphabet 13 = .ok (.goto 4, 3) := by decide +kernel
theorem dX1_hasAlphabet_16 : decode cX1_hasAlphabet 16 = .ok (.iconst 0, 1) := by decide +kernel
theorem dX1_hasAlphabet_17 : decode cX1_hasAlphabet 17 = .ok (.ireturn, 1) := by decide +kernel
theorem dX1_lettersOf_0 : decode cX1_lettersOf 0 = .ok (.aload_n 0, 1) := by decide +kernel
theorem dX1_lettersOf_1 : decode cX1_lettersOf 1 = .ok (.iload_n 1, 1) := by decide +kernel
theorem dX1_lettersOf_2 : decode cX1_lettersOf 2 = .ok (.invokevirtual 78, 3) := by decide +kernel
theorem dX1_lettersOf_5 : decode cX1_lettersOf 5 = .ok (.ifCond .eq 15, 3) := by decide +kernel
theorem dX1_lettersOf_8 : decode cX1_lettersOf 8 = .ok (.aload_n 0, 1) := by decide +kernel
theorem dX1_lettersOf_9 : decode cX1_lettersOf 9 = .ok (.getfield 21, 3) := by decide +kernel
theorem dX1_lettersOf_12 : decode cX1_lettersOf 12 = .ok (.iload_n 1, 1) := by decide +kernel
theorem dX1_lettersOf_13 : decode cX1_lettersOf 13 = .ok (.aaload, 1) := by decide +kernel
theorem dX1_lettersOf_14 : decode cX1_lettersOf 14 = .ok (.invokevirtual 82, 3) := by decide +kernel
theorem dX1_lettersOf_17 : decode cX1_lettersOf 17 = .ok (.goto 4, 3) := by decide +kernel
theorem dX1_lettersOf_20 : decode cX1_lettersOf 20 = .ok (.iconst 0, 1) := by decide +kernel
theorem dX1_lettersOf_21 : decode cX1_lettersOf 21 = .ok (.ireturn, 1) := by decide +kernel
theorem dX1_letterOf_0 : decode cX1_letterOf 0 = .ok (.aload_n 0, 1) := by decide +kernel
theorem dX1_letterOf_1 : decode cX1_letterOf 1 = .ok (.iload_n 1, 1) := by decide +kernel
theorem dX1_letterOf_2 : decode cX1_letterOf 2 = .ok (.invokevirtual 78, 3) := by decide +kernel
theorem dX1_letterOf_5 : decode cX1_letterOf 5 = .ok (.ifCond .eq 16, 3) := by decide +kernel
theorem dX1_letterOf_8 : decode cX1_letterOf 8 = .ok (.aload_n 0, 1) := by decide +kernel
theorem dX1_letterOf_9 : decode cX1_letterOf 9 = .ok (.getfield 21, 3) := by decide +kernel
theorem dX1_letterOf_12 : decode cX1_letterOf 12 = .ok (.iload_n 1, 1) := by decide +kernel
theorem dX1_letterOf_13 : decode cX1_letterOf 13 = .ok (.aaload, 1) := by decide +kernel
theorem dX1_letterOf_14 : decode cX1_letterOf 14 = .ok (.iload_n 2, 1) := by decide +kernel
theorem dX1_letterOf_15 : decode cX1_letterOf 15 = .ok (.invokevirtual 83, 3) := by decide +kernel
theorem dX1_letterOf_18 : decode cX1_letterOf 18 = .ok (.goto 4, 3) := by decide +kernel
theorem dX1_letterOf_21 : decode cX1_letterOf 21 = .ok (.iconst 0, 1) := by decide +kernel
theorem dX1_letterOf_22 : decode cX1_letterOf 22 = .ok (.ireturn, 1) := by decide +kernel
theorem dX1_numberOf_0 : decode cX1_numberOf 0 = .ok (.aload_n 0, 1) := by decide +kernel
theorem dX1_numberOf_1 : decode cX1_numberOf 1 = .ok (.iload_n 1, 1) := by decide +kernel
theorem dX1_numberOf_2 : decode cX1_numberOf 2 = .ok (.invokevirtual 78, 3) := by decide +kernel
theorem dX1_numberOf_5 : decode cX1_numberOf 5 = .ok (.ifCond .eq 16, 3) := by decide +kernel
theorem dX1_numberOf_8 : decode cX1_numberOf 8 = .ok (.aload_n 0, 1) := by decide +kernel
theorem dX1_numberOf_9 : decode cX1_numberOf 9 = .ok (.getfield 21, 3) := by decide +kernel
theorem dX1_numberOf_12 : decode cX1_numberOf 12 = .ok (.iload_n 1, 1) := by decide +kernel
theorem dX1_numberOf_13 : decode cX1_numberOf 13 = .ok (.aaload, 1) := by decide +kernel
theorem dX1_numberOf_14 : decode cX1_numberOf 14 = .ok (.iload_n 2, 1) := by decide +kernel
theorem dX1_numberOf_15 : decode cX1_numberOf 15 = .ok (.invokevirtual 87, 3) := by decide +kernel
theorem dX1_numberOf_18 : decode cX1_numberOf 18 = .ok (.goto 4, 3) := by decide +kernel
theorem dX1_numberOf_21 : decode cX1_numberOf 21 = .ok (.iconst (-1), 1) := by decide +kernel
theorem dX1_numberOf_22 : decode cX1_numberOf 22 = .ok (.ireturn, 1) := by decide +kernel
theorem dX1_holds_0 : decode cX1_holds 0 = .ok (.aload_n 0, 1) := by decide +kernel
theorem dX1_holds_1 : decode cX1_holds 1 = .ok (.iload_n 1, 1) := by decide +kernel
theorem dX1_holds_2 : decode cX1_holds 2 = .ok (.invokevirtual 90, 3) := by decide +kernel
theorem dX1_holds_5 : decode cX1_holds 5 = .ok (.ifCond .eq 30, 3) := by decide +kernel
theorem dX1_holds_8 : decode cX1_holds 8 = .ok (.aload_n 0, 1) := by decide +kernel
theorem dX1_holds_9 : decode cX1_holds 9 = .ok (.getfield 31, 3) := by decide +kernel
theorem dX1_holds_12 : decode cX1_holds 12 = .ok (.aload_n 0, 1) := by decide +kernel
theorem dX1_holds_13 : decode cX1_holds 13 = .ok (.getfield 35, 3) := by decide +kernel
theorem dX1_holds_16 : decode cX1_holds 16 = .ok (.iload_n 1, 1) := by decide +kernel
theorem dX1_holds_17 : decode cX1_holds 17 = .ok (.iaload, 1) := by decide +kernel
theorem dX1_holds_18 : decode cX1_holds 18 = .ok (.aload_n 0, 1) := by decide +kernel
theorem dX1_holds_19 : decode cX1_holds 19 = .ok (.getfield 39, 3) := by decide +kernel
theorem dX1_holds_22 : decode cX1_holds 22 = .ok (.iload_n 1, 1) := by decide +kernel
theorem dX1_holds_23 : decode cX1_holds 23 = .ok (.iaload, 1) := by decide +kernel
theorem dX1_holds_24 : decode cX1_holds 24 = .ok (.aload_n 2, 1) := by decide +kernel
theorem dX1_holds_25 : decode cX1_holds 25 = .ok (.invokevirtual 93, 3) := by decide +kernel
theorem dX1_holds_28 : decode cX1_holds 28 = .ok (.ifCond .eq 7, 3) := by decide +kernel
theorem dX1_holds_31 : decode cX1_holds 31 = .ok (.iconst 1, 1) := by decide +kernel
theorem dX1_holds_32 : decode cX1_holds 32 = .ok (.goto 4, 3) := by decide +kernel
theorem dX1_holds_35 : decode cX1_holds 35 = .ok (.iconst 0, 1) := by decide +kernel
theorem dX1_holds_36 : decode cX1_holds 36 = .ok (.ireturn, 1) := by decide +kernel
theorem dX1_sumOf_0 : decode cX1_sumOf 0 = .ok (.aload_n 0, 1) := by decide +kernel
theorem dX1_sumOf_1 : decode cX1_sumOf 1 = .ok (.iload_n 1, 1) := by decide +kernel
theorem dX1_sumOf_2 : decode cX1_sumOf 2 = .ok (.invokevirtual 90, 3) := by decide +kernel
theorem dX1_sumOf_5 : decode cX1_sumOf 5 = .ok (.ifCond .eq 26, 3) := by decide +kernel
theorem dX1_sumOf_8 : decode cX1_sumOf 8 = .ok (.aload_n 0, 1) := by decide +kernel
theorem dX1_sumOf_9 : decode cX1_sumOf 9 = .ok (.getfield 31, 3) := by decide +kernel
theorem dX1_sumOf_12 : decode cX1_sumOf 12 = .ok (.aload_n 0, 1) := by decide +kernel
theorem dX1_sumOf_13 : decode cX1_sumOf 13 = .ok (.getfield 39, 3) := by decide +kernel
theorem dX1_sumOf_16 : decode cX1_sumOf 16 = .ok (.iload_n 1, 1) := by decide +kernel
theorem dX1_sumOf_17 : decode cX1_sumOf 17 = .ok (.iaload, 1) := by decide +kernel
theorem dX1_sumOf_18 : decode cX1_sumOf 18 = .ok (.aload_n 0, 1) := by decide +kernel
theorem dX1_sumOf_19 : decode cX1_sumOf 19 = .ok (.getfield 42, 3) := by decide +kernel
theorem dX1_sumOf_22 : decode cX1_sumOf 22 = .ok (.iload_n 1, 1) := by decide +kernel
theorem dX1_sumOf_23 : decode cX1_sumOf 23 = .ok (.iaload, 1) := by decide +kernel
theorem dX1_sumOf_24 : decode cX1_sumOf 24 = .ok (.aload_n 2, 1) := by decide +kernel
theorem dX1_sumOf_25 : decode cX1_sumOf 25 = .ok (.invokevirtual 93, 3) := by decide +kernel
theorem dX1_sumOf_28 : decode cX1_sumOf 28 = .ok (.goto 4, 3) := by decide +kernel
theorem dX1_sumOf_31 : decode cX1_sumOf 31 = .ok (.iconst 0, 1) := by decide +kernel
theorem dX1_sumOf_32 : decode cX1_sumOf 32 = .ok (.ireturn, 1) := by decide +kernel
theorem dX1_letterBy_0 : decode cX1_letterBy 0 = .ok (.aload_n 0, 1) := by decide +kernel
theorem dX1_letterBy_1 : decode cX1_letterBy 1 = .ok (.iload_n 1, 1) := by decide +kernel
theorem dX1_letterBy_2 : decode cX1_letterBy 2 = .ok (.invokevirtual 90, 3) := by decide +kernel
theorem dX1_letterBy_5 : decode cX1_letterBy 5 = .ok (.ifCond .eq 12, 3) := by decide +kernel
theorem dX1_letterBy_8 : decode cX1_letterBy 8 = .ok (.aload_n 0, 1) := by decide +kernel
theorem dX1_letterBy_9 : decode cX1_letterBy 9 = .ok (.getfield 45, 3) := by decide +kernel
theorem dX1_letterBy_12 : decode cX1_letterBy 12 = .ok (.iload_n 1, 1) := by decide +kernel
theorem dX1_letterBy_13 : decode cX1_letterBy 13 = .ok (.iaload, 1) := by decide +kernel
theorem dX1_letterBy_14 : decode cX1_letterBy 14 = .ok (.goto 4, 3) := by decide +kernel
theorem dX1_letterBy_17 : decode cX1_letterBy 17 = .ok (.iconst (-1), 1) := by decide +kernel
theorem dX1_letterBy_18 : decode cX1_letterBy 18 = .ok (.istore_n 3, 1) := by decide +kernel
theorem dX1_letterBy_19 : decode cX1_letterBy 19 = .ok (.aload_n 0, 1) := by decide +kernel
theorem dX1_letterBy_20 : decode cX1_letterBy 20 = .ok (.iload_n 3, 1) := by decide +kernel
theorem dX1_letterBy_21 : decode cX1_letterBy 21 = .ok (.invokevirtual 97, 3) := by decide +kernel
theorem dX1_letterBy_24 : decode cX1_letterBy 24 = .ok (.istore 4, 2) := by decide +kernel
theorem dX1_letterBy_26 : decode cX1_letterBy 26 = .ok (.iload 4, 2) := by decide +kernel
theorem dX1_letterBy_28 : decode cX1_letterBy 28 = .ok (.ifCond .ne 7, 3) := by decide +kernel
theorem dX1_letterBy_31 : decode cX1_letterBy 31 = .ok (.iconst 0, 1) := by decide +kernel
theorem dX1_letterBy_32 : decode cX1_letterBy 32 = .ok (.goto 14, 3) := by decide +kernel
theorem dX1_letterBy_35 : decode cX1_letterBy 35 = .ok (.aload_n 0, 1) := by decide +kernel
theorem dX1_letterBy_36 : decode cX1_letterBy 36 = .ok (.iload_n 3, 1) := by decide +kernel
theorem dX1_letterBy_37 : decode cX1_letterBy 37 = .ok (.iload_n 2, 1) := by decide +kernel
theorem dX1_letterBy_38 : decode cX1_letterBy 38 = .ok (.iload 4, 2) := by decide +kernel
theorem dX1_letterBy_40 : decode cX1_letterBy 40 = .ok (.invokestatic 100, 3) := by decide +kernel
theorem dX1_letterBy_43 : decode cX1_letterBy 43 = .ok (.invokevirtual 106, 3) := by decide +kernel
theorem dX1_letterBy_46 : decode cX1_letterBy 46 = .ok (.ireturn, 1) := by decide +kernel
theorem dX1_isRule_0 : decode cX1_isRule 0 = .ok (.iload_n 1, 1) := by decide +kernel
theorem dX1_isRule_1 : decode cX1_isRule 1 = .ok (.ifCond .lt 15, 3) := by decide +kernel
theorem dX1_isRule_4 : decode cX1_isRule 4 = .ok (.iload_n 1, 1) := by decide +kernel
theorem dX1_isRule_5 : decode cX1_isRule 5 = .ok (.aload_n 0, 1) := by decide +kernel
theorem dX1_isRule_6 : decode cX1_isRule 6 = .ok (.getfield 57, 3) := by decide +kernel
theorem dX1_isRule_9 : decode cX1_isRule 9 = .ok (.if_icmp .ge 7, 3) := by decide +kernel
theorem dX1_isRule_12 : decode cX1_isRule 12 = .ok (.iconst 1, 1) := by decide +kernel
theorem dX1_isRule_13 : decode cX1_isRule 13 = .ok (.goto 4, 3) := by decide +kernel
theorem dX1_isRule_16 : decode cX1_isRule 16 = .ok (.iconst 0, 1) := by decide +kernel
theorem dX1_isRule_17 : decode cX1_isRule 17 = .ok (.ireturn, 1) := by decide +kernel
theorem dX2_step_0 : decode cX2_step 0 = .ok (.aload_n 0, 1) := by decide +kernel
theorem dX2_step_1 : decode cX2_step 1 = .ok (.getfield 153, 3) := by decide +kernel
theorem dX2_step_4 : decode cX2_step 4 = .ok (.ireturn, 1) := by decide +kernel
theorem dX2_ofWord_0 : decode cX2_ofWord 0 = .ok (.iconst 0, 1) := by decide +kernel
theorem dX2_ofWord_1 : decode cX2_ofWord 1 = .ok (.istore_n 3, 1) := by decide +kernel
theorem dX2_ofWord_2 : decode cX2_ofWord 2 = .ok (.iload_n 3, 1) := by decide +kernel
theorem dX2_ofWord_3 : decode cX2_ofWord 3 = .ok (.getstatic 157, 3) := by decide +kernel
theorem dX2_ofWord_6 : decode cX2_ofWord 6 = .ok (.arraylength, 1) := by decide +kernel
theorem dX2_ofWord_7 : decode cX2_ofWord 7 = .ok (.if_icmp .ge 44, 3) := by decide +kernel
theorem dX2_ofWord_10 : decode cX2_ofWord 10 = .ok (.getstatic 157, 3) := by decide +kernel
theorem dX2_ofWord_13 : decode cX2_ofWord 13 = .ok (.iload_n 3, 1) := by decide +kernel
theorem dX2_ofWord_14 : decode cX2_ofWord 14 = .ok (.aaload, 1) := by decide +kernel
theorem dX2_ofWord_15 : decode cX2_ofWord 15 = .ok (.astore 4, 2) := by decide +kernel
theorem dX2_ofWord_17 : decode cX2_ofWord 17 = .ok (.aload 4, 2) := by decide +kernel
theorem dX2_ofWord_19 : decode cX2_ofWord 19 = .ok (.getfield 149, 3) := by decide +kernel
theorem dX2_ofWord_22 : decode cX2_ofWord 22 = .ok (.invokevirtual 160, 3) := by decide +kernel
theorem dX2_ofWord_25 : decode cX2_ofWord 25 = .ok (.iload_n 2, 1) := by decide +kernel
theorem dX2_ofWord_26 : decode cX2_ofWord 26 = .ok (.if_icmp .ne 19, 3) := by decide +kernel
theorem dX2_ofWord_29 : decode cX2_ofWord 29 = .ok (.aload_n 0, 1) := by decide +kernel
theorem dX2_ofWord_30 : decode cX2_ofWord 30 = .ok (.iload_n 1, 1) := by decide +kernel
theorem dX2_ofWord_31 : decode cX2_ofWord 31 = .ok (.aload 4, 2) := by decide +kernel
theorem dX2_ofWord_33 : decode cX2_ofWord 33 = .ok (.getfield 149, 3) := by decide +kernel
theorem dX2_ofWord_36 : decode cX2_ofWord 36 = .ok (.invokevirtual 166, 3) := by decide +kernel
theorem dX2_ofWord_39 : decode cX2_ofWord 39 = .ok (.ifCond .eq 6, 3) := by decide +kernel
theorem dX2_ofWord_42 : decode cX2_ofWord 42 = .ok (.aload 4, 2) := by decide +kernel
theorem dX2_ofWord_44 : decode cX2_ofWord 44 = .ok (.areturn, 1) := by decide +kernel
theorem dX2_ofWord_45 : decode cX2_ofWord 45 = .ok (.iinc 3 1, 3) := by decide +kernel
theorem dX2_ofWord_48 : decode cX2_ofWord 48 = .ok (.goto (-46), 3) := by decide +kernel
theorem dX2_ofWord_51 : decode cX2_ofWord 51 = .ok (.getstatic 10, 3) := by decide +kernel
theorem dX2_ofWord_54 : decode cX2_ofWord 54 = .ok (.areturn, 1) := by decide +kernel
theorem dX2_ofSymbol_0 : decode cX2_ofSymbol 0 = .ok (.getstatic 7, 3) := by decide +kernel
theorem dX2_ofSymbol_3 : decode cX2_ofSymbol 3 = .ok (.astore_n 2, 1) := by decide +kernel
theorem dX2_ofSymbol_4 : decode cX2_ofSymbol 4 = .ok (.iconst 0, 1) := by decide +kernel
theorem dX2_ofSymbol_5 : decode cX2_ofSymbol 5 = .ok (.istore_n 3, 1) := by decide +kernel
theorem dX2_ofSymbol_6 : decode cX2_ofSymbol 6 = .ok (.iload_n 3, 1) := by decide +kernel
theorem dX2_ofSymbol_7 : decode cX2_ofSymbol 7 = .ok (.getstatic 157, 3) := by decide +kernel
theorem dX2_ofSymbol_10 : decode cX2_ofSymbol 10 = .ok (.arraylength, 1) := by decide +kernel
theorem dX2_ofSymbol_11 : decode cX2_ofSymbol 11 = .ok (.if_icmp .ge 50, 3) := by decide +kernel
theorem dX2_ofSymbol_14 : decode cX2_ofSymbol 14 = .ok (.getstatic 157, 3) := by decide +kernel
theorem dX2_ofSymbol_17 : decode cX2_ofSymbol 17 = .ok (.iload_n 3, 1) := by decide +kernel
theorem dX2_ofSymbol_18 : decode cX2_ofSymbol 18 = .ok (.aaload, 1) := by decide +kernel
theorem dX2_ofSymbol_19 : decode cX2_ofSymbol 19 = .ok (.astore 4, 2) := by decide +kernel
theorem dX2_ofSymbol_21 : decode cX2_ofSymbol 21 = .ok (.aload 4, 2) := by decide +kernel
theorem dX2_ofSymbol_23 : decode cX2_ofSymbol 23 = .ok (.getfield 149, 3) := by decide +kernel
theorem dX2_ofSymbol_26 : decode cX2_ofSymbol 26 = .ok (.invokevirtual 160, 3) := by decide +kernel
theorem dX2_ofSymbol_29 : decode cX2_ofSymbol 29 = .ok (.aload_n 2, 1) := by decide +kernel
theorem dX2_ofSymbol_30 : decode cX2_ofSymbol 30 = .ok (.getfield 149, 3) := by decide +kernel
theorem dX2_ofSymbol_33 : decode cX2_ofSymbol 33 = .ok (.invokevirtual 160, 3) := by decide +kernel
theorem dX2_ofSymbol_36 : decode cX2_ofSymbol 36 = .ok (.if_icmp .le 19, 3) := by decide +kernel
theorem dX2_ofSymbol_39 : decode cX2_ofSymbol 39 = .ok (.aload_n 0, 1) := by decide +kernel
theorem dX2_ofSymbol_40 : decode cX2_ofSymbol 40 = .ok (.iload_n 1, 1) := by decide +kernel
theorem dX2_ofSymbol_41 : decode cX2_ofSymbol 41 = .ok (.aload 4, 2) := by decide +kernel
theorem dX2_ofSymbol_43 : decode cX2_ofSymbol 43 = .ok (.getfield 149, 3) := by decide +kernel
theorem dX2_ofSymbol_46 : decode cX2_ofSymbol 46 = .ok (.invokevirtual 166, 3) := by decide +kernel
theorem dX2_ofSymbol_49 : decode cX2_ofSymbol 49 = .ok (.ifCond .eq 6, 3) := by decide +kernel
theorem dX2_ofSymbol_52 : decode cX2_ofSymbol 52 = .ok (.aload 4, 2) := by decide +kernel
theorem dX2_ofSymbol_54 : decode cX2_ofSymbol 54 = .ok (.astore_n 2, 1) := by decide +kernel
theorem dX2_ofSymbol_55 : decode cX2_ofSymbol 55 = .ok (.iinc 3 1, 3) := by decide +kernel
theorem dX2_ofSymbol_58 : decode cX2_ofSymbol 58 = .ok (.goto (-52), 3) := by decide +kernel
theorem dX2_ofSymbol_61 : decode cX2_ofSymbol 61 = .ok (.aload_n 2, 1) := by decide +kernel
theorem dX2_ofSymbol_62 : decode cX2_ofSymbol 62 = .ok (.areturn, 1) := by decide +kernel
theorem dX2_length_0 : decode cX2_length 0 = .ok (.aload_n 0, 1) := by decide +kernel
theorem dX2_length_1 : decode cX2_length 1 = .ok (.getfield 149, 3) := by decide +kernel
theorem dX2_length_4 : decode cX2_length 4 = .ok (.invokevirtual 160, 3) := by decide +kernel
theorem dX2_length_7 : decode cX2_length 7 = .ok (.ireturn, 1) := by decide +kernel
theorem dX3_init_0 : decode cX3_init 0 = .ok (.aload_n 0, 1) := by decide +kernel
theorem dX3_init_1 : decode cX3_init 1 = .ok (.invokespecial 1, 3) := by decide +kernel
theorem dX3_init_4 : decode cX3_init 4 = .ok (.aload_n 0, 1) := by decide +kernel
theorem dX3_init_5 : decode cX3_init 5 = .ok (.sipush 600, 3) := by decide +kernel
theorem dX3_init_8 : decode cX3_init 8 = .ok (.newarray .int, 2) := by decide +kernel
theorem dX3_init_10 : decode cX3_init 10 = .ok (.putfield 9, 3) := by decide +kernel
theorem dX3_init_13 : decode cX3_init 13 = .ok (.return_, 1) := by decide +kernel
theorem dX3_size_0 : decode cX3_size 0 = .ok (.aload_n 0, 1) := by decide +kernel
theorem dX3_size_1 : decode cX3_size 1 = .ok (.getfield 13, 3) := by decide +kernel
theorem dX3_size_4 : decode cX3_size 4 = .ok (.ireturn, 1) := by decide +kernel
theorem dX3_isFull_0 : decode cX3_isFull 0 = .ok (.aload_n 0, 1) := by decide +kernel
theorem dX3_isFull_1 : decode cX3_isFull 1 = .ok (.getfield 13, 3) := by decide +kernel
theorem dX3_isFull_4 : decode cX3_isFull 4 = .ok (.sipush 600, 3) := by decide +kernel
theorem dX3_isFull_7 : decode cX3_isFull 7 = .ok (.if_icmp .lt 7, 3) := by decide +kernel
theorem dX3_isFull_10 : decode cX3_isFull 10 = .ok (.iconst 1, 1) := by decide +kernel
theorem dX3_isFull_11 : decode cX3_isFull 11 = .ok (.goto 4, 3) := by decide +kernel
theorem dX3_isFull_14 : decode cX3_isFull 14 = .ok (.iconst 0, 1) := by decide +kernel
theorem dX3_isFull_15 : decode cX3_isFull 15 = .ok (.ireturn, 1) := by decide +kernel
theorem dX3_wipe_0 : decode cX3_wipe 0 = .ok (.aload_n 0, 1) := by decide +kernel
theorem dX3_wipe_1 : decode cX3_wipe 1 = .ok (.iconst 0, 1) := by decide +kernel
theorem dX3_wipe_2 : decode cX3_wipe 2 = .ok (.putfield 13, 3) := by decide +kernel
theorem dX3_wipe_5 : decode cX3_wipe 5 = .ok (.return_, 1) := by decide +kernel
theorem dX3_append_0 : decode cX3_append 0 = .ok (.aload_n 0, 1) := by decide +kernel
theorem dX3_append_1 : decode cX3_append 1 = .ok (.invokevirtual 17, 3) := by decide +kernel
theorem dX3_append_4 : decode cX3_append 4 = .ok (.ifCond .ne 23, 3) := by decide +kernel
theorem dX3_append_7 : decode cX3_append 7 = .ok (.aload_n 0, 1) := by decide +kernel
theorem dX3_append_8 : decode cX3_append 8 = .ok (.getfield 9, 3) := by decide +kernel
theorem dX3_append_11 : decode cX3_append 11 = .ok (.aload_n 0, 1) := by decide +kernel
theorem dX3_append_12 : decode cX3_append 12 = .ok (.getfield 13, 3) := by decide +kernel
theorem dX3_append_15 : decode cX3_append 15 = .ok (.iload_n 1, 1) := by decide +kernel
theorem dX3_append_16 : decode cX3_append 16 = .ok (.iastore, 1) := by decide +kernel
theorem dX3_append_17 : decode cX3_append 17 = .ok (.aload_n 0, 1) := by decide +kernel
theorem dX3_append_18 : decode cX3_append 18 = .ok (.dup, 1) := by decide +kernel
theorem dX3_append_19 : decode cX3_append 19 = .ok (.getfield 13, 3) := by decide +kernel
theorem dX3_append_22 : decode cX3_append 22 = .ok (.iconst 1, 1) := by decide +kernel
theorem dX3_append_23 : decode cX3_append 23 = .ok (.iadd, 1) := by decide +kernel
theorem dX3_append_24 : decode cX3_append 24 = .ok (.putfield 13, 3) := by decide +kernel
theorem dX3_append_27 : decode cX3_append 27 = .ok (.return_, 1) := by decide +kernel
theorem dX3_at_0 : decode cX3_at 0 = .ok (.iload_n 1, 1) := by decide +kernel
theorem dX3_at_1 : decode cX3_at 1 = .ok (.ifCond .lt 20, 3) := by decide +kernel
theorem dX3_at_4 : decode cX3_at 4 = .ok (.iload_n 1, 1) := by decide +kernel
theorem dX3_at_5 : decode cX3_at 5 = .ok (.aload_n 0, 1) := by decide +kernel
theorem dX3_at_6 : decode cX3_at 6 = .ok (.getfield 13, 3) := by decide +kernel
theorem dX3_at_9 : decode cX3_at 9 = .ok (.if_icmp .ge 12, 3) := by decide +kernel
theorem dX3_at_12 : decode cX3_at 12 = .ok (.aload_n 0, 1) := by decide +kernel
theorem dX3_at_13 : decode cX3_at 13 = .ok (.getfield 9, 3) := by decide +kernel
theorem dX3_at_16 : decode cX3_at 16 = .ok (.iload_n 1, 1) := by decide +kernel
theorem dX3_at_17 : decode cX3_at 17 = .ok (.iaload, 1) := by decide +kernel
theorem dX3_at_18 : decode cX3_at 18 = .ok (.goto 4, 3) := by decide +kernel
theorem dX3_at_21 : decode cX3_at 21 = .ok (.iconst 0, 1) := by decide +kernel
theorem dX3_at_22 : decode cX3_at 22 = .ok (.ireturn, 1) := by decide +kernel
theorem dX3_copyFrom_0 : decode cX3_copyFrom 0 = .ok (.aload_n 1, 1) := by decide +kernel
theorem dX3_copyFrom_1 : decode cX3_copyFrom 1 = .ok (.getfield 9, 3) := by decide +kernel
theorem dX3_copyFrom_4 : decode cX3_copyFrom 4 = .ok (.iconst 0, 1) := by decide +kernel
theorem dX3_copyFrom_5 : decode cX3_copyFrom 5 = .ok (.aload_n 0, 1) := by decide +kernel
theorem dX3_copyFrom_6 : decode cX3_copyFrom 6 = .ok (.getfield 9, 3) := by decide +kernel
theorem dX3_copyFrom_9 : decode cX3_copyFrom 9 = .ok (.iconst 0, 1) := by decide +kernel
theorem dX3_copyFrom_10 : decode cX3_copyFrom 10 = .ok (.aload_n 1, 1) := by decide +kernel
theorem dX3_copyFrom_11 : decode cX3_copyFrom 11 = .ok (.getfield 13, 3) := by decide +kernel
theorem dX3_copyFrom_14 : decode cX3_copyFrom 14 = .ok (.invokestatic 21, 3) := by decide +kernel
theorem dX3_copyFrom_17 : decode cX3_copyFrom 17 = .ok (.aload_n 0, 1) := by decide +kernel
theorem dX3_copyFrom_18 : decode cX3_copyFrom 18 = .ok (.aload_n 1, 1) := by decide +kernel
theorem dX3_copyFrom_19 : decode cX3_copyFrom 19 = .ok (.getfield 13, 3) := by decide +kernel
theorem dX3_copyFrom_22 : decode cX3_copyFrom 22 = .ok (.putfield 13, 3) := by decide +kernel
theorem dX3_copyFrom_25 : decode cX3_copyFrom 25 = .ok (.return_, 1) := by decide +kernel
theorem dX3_placeOf_0 : decode cX3_placeOf 0 = .ok (.aload_n 1, 1) := by decide +kernel
theorem dX3_placeOf_1 : decode cX3_placeOf 1 = .ok (.invokevirtual 27, 3) := by decide +kernel
theorem dX3_placeOf_4 : decode cX3_placeOf 4 = .ok (.ifCond .ne 5, 3) := by decide +kernel
theorem dX3_placeOf_7 : decode cX3_placeOf 7 = .ok (.iconst (-1), 1) := by decide +kernel
theorem dX3_placeOf_8 : decode cX3_placeOf 8 = .ok (.ireturn, 1) := by decide +kernel
theorem dX3_placeOf_9 : decode cX3_placeOf 9 = .ok (.iload_n 2, 1) := by decide +kernel
theorem dX3_placeOf_10 : decode cX3_placeOf 10 = .ok (.istore_n 3, 1) := by decide +kernel
theorem dX3_placeOf_11 : decode cX3_placeOf 11 = .ok (.iload_n 3, 1) := by decide +kernel
theorem dX3_placeOf_12 : decode cX3_placeOf 12 = .ok (.aload_n 1, 1) := by decide +kernel
theorem dX3_placeOf_13 : decode cX3_placeOf 13 = .ok (.invokevirtual 27, 3) := by decide +kernel
theorem dX3_placeOf_16 : decode cX3_placeOf 16 = .ok (.iadd, 1) := by decide +kernel
theorem dX3_placeOf_17 : decode cX3_placeOf 17 = .ok (.aload_n 0, 1) := by decide +kernel
theorem dX3_placeOf_18 : decode cX3_placeOf 18 = .ok (.getfield 13, 3) := by decide +kernel
theorem dX3_placeOf_21 : decode cX3_placeOf 21 = .ok (.if_icmp .gt 20, 3) := by decide +kernel
theorem dX3_placeOf_24 : decode cX3_placeOf 24 = .ok (.aload_n 0, 1) := by decide +kernel
theorem dX3_placeOf_25 : decode cX3_placeOf 25 = .ok (.iload_n 3, 1) := by decide +kernel
theorem dX3_placeOf_26 : decode cX3_placeOf 26 = .ok (.aload_n 1, 1) := by decide +kernel
theorem dX3_placeOf_27 : decode cX3_placeOf 27 = .ok (.invokevirtual 32, 3) := by decide +kernel
theorem dX3_placeOf_30 : decode cX3_placeOf 30 = .ok (.ifCond .eq 5, 3) := by decide +kernel
theorem dX3_placeOf_33 : decode cX3_placeOf 33 = .ok (.iload_n 3, 1) := by decide +kernel
theorem dX3_placeOf_34 : decode cX3_placeOf 34 = .ok (.ireturn, 1) := by decide +kernel
theorem dX3_placeOf_35 : decode cX3_placeOf 35 = .ok (.iinc 3 1, 3) := by decide +kernel
theorem dX3_placeOf_38 : decode cX3_placeOf 38 = .ok (.goto (-27), 3) := by decide +kernel
theorem dX3_placeOf_41 : decode cX3_placeOf 41 = .ok (.iconst (-1), 1) := by decide +kernel
theorem dX3_placeOf_42 : decode cX3_placeOf 42 = .ok (.ireturn, 1) := by decide +kernel
theorem dX3_isAt_0 : decode cX3_isAt 0 = .ok (.iconst 0, 1) := by decide +kernel
theorem dX3_isAt_1 : decode cX3_isAt 1 = .ok (.istore_n 3, 1) := by decide +kernel
theorem dX3_isAt_2 : decode cX3_isAt 2 = .ok (.iload_n 3, 1) := by decide +kernel
theorem dX3_isAt_3 : decode cX3_isAt 3 = .ok (.aload_n 2, 1) := by decide +kernel
theorem dX3_isAt_4 : decode cX3_isAt 4 = .ok (.invokevirtual 27, 3) := by decide +kernel
theorem dX3_isAt_7 : decode cX3_isAt 7 = .ok (.if_icmp .ge 26, 3) := by decide +kernel
theorem dX3_isAt_10 : decode cX3_isAt 10 = .ok (.aload_n 0, 1) := by decide +kernel
theorem dX3_isAt_11 : decode cX3_isAt 11 = .ok (.iload_n 1, 1) := by decide +kernel
theorem dX3_isAt_12 : decode cX3_isAt 12 = .ok (.iload_n 3, 1) := by decide +kernel
theorem dX3_isAt_13 : decode cX3_isAt 13 = .ok (.iadd, 1) := by decide +kernel
theorem dX3_isAt_14 : decode cX3_isAt 14 = .ok (.invokevirtual 36, 3) := by decide +kernel
theorem dX3_isAt_17 : decode cX3_isAt 17 = .ok (.aload_n 2, 1) := by decide +kernel
theorem dX3_isAt_18 : decode cX3_isAt 18 = .ok (.iload_n 3, 1) := by decide +kernel
theorem dX3_isAt_19 : decode cX3_isAt 19 = .ok (.invokevirtual 40, 3) := by decide +kernel
theorem dX3_isAt_22 : decode cX3_isAt 22 = .ok (.if_icmp .eq 5, 3) := by decide +kernel
theorem dX3_isAt_25 : decode cX3_isAt 25 = .ok (.iconst 0, 1) := by decide +kernel
theorem dX3_isAt_26 : decode cX3_isAt 26 = .ok (.ireturn, 1) := by decide +kernel
theorem dX3_isAt_27 : decode cX3_isAt 27 = .ok (.iinc 3 1, 3) := by decide +kernel
theorem dX3_isAt_30 : decode cX3_isAt 30 = .ok (.goto (-28), 3) := by decide +kernel
theorem dX3_isAt_33 : decode cX3_isAt 33 = .ok (.iconst 1, 1) := by decide +kernel
theorem dX3_isAt_34 : decode cX3_isAt 34 = .ok (.ireturn, 1) := by decide +kernel
theorem dX3_exchange_0 : decode cX3_exchange 0 = .ok (.iconst 0, 1) := by decide +kernel
theorem dX3_exchange_1 : decode cX3_exchange 1 = .ok (.istore 4, 2) := by decide +kernel
theorem dX3_exchange_3 : decode cX3_exchange 3 = .ok (.iconst 0, 1) := by decide +kernel
theorem dX3_exchange_4 : decode cX3_exchange 4 = .ok (.istore 5, 2) := by decide +kernel
theorem dX3_exchange_6 : decode cX3_exchange 6 = .ok (.iload 5, 2) := by decide +kernel
theorem dX3_exchange_8 : decode cX3_exchange 8 = .ok (.aload_n 0, 1) := by decide +kernel
theorem dX3_exchange_9 : decode cX3_exchange 9 = .ok (.getfield 13, 3) := by decide +kernel
theorem dX3_exchange_12 : decode cX3_exchange 12 = .ok (.if_icmp .ge 78, 3) := by decide +kernel
theorem dX3_exchange_15 : decode cX3_exchange 15 = .ok (.aload_n 1, 1) := by decide +kernel
theorem dX3_exchange_16 : decode cX3_exchange 16 = .ok (.iload_n 2, 1) := by decide +kernel
theorem dX3_exchange_17 : decode cX3_exchange 17 = .ok (.aload_n 0, 1) := by decide +kernel
theorem dX3_exchange_18 : decode cX3_exchange 18 = .ok (.getfield 9, 3) := by decide +kernel
theorem dX3_exchange_21 : decode cX3_exchange 21 = .ok (.iload 5, 2) := by decide +kernel
theorem dX3_exchange_23 : decode cX3_exchange 23 = .ok (.iaload, 1) := by decide +kernel
theorem dX3_exchange_24 : decode cX3_exchange 24 = .ok (.invokevirtual 41, 3) := by decide +kernel
theorem dX3_exchange_27 : decode cX3_exchange 27 = .ok (.istore 6, 2) := by decide +kernel
theorem dX3_exchange_29 : decode cX3_exchange 29 = .ok (.iload 6, 2) := by decide +kernel
theorem dX3_exchange_31 : decode cX3_exchange 31 = .ok (.ifCond .lt 53, 3) := by decide +kernel
theorem dX3_exchange_34 : decode cX3_exchange 34 = .ok (.iload 6, 2) := by decide +kernel
theorem dX3_exchange_36 : decode cX3_exchange 36 = .ok (.aload_n 1, 1) := by decide +kernel
theorem dX3_exchange_37 : decode cX3_exchange 37 = .ok (.iload_n 3, 1) := by decide +kernel
theorem dX3_exchange_38 : decode cX3_exchange 38 = .ok (.invokevirtual 47, 3) := by decide +kernel
theorem dX3_exchange_41 : decode cX3_exchange 41 = .ok (.if_icmp .ge 43, 3) := by decide +kernel
theorem dX3_exchange_44 : decode cX3_exchange 44 = .ok (.aload_n 1, 1) := by decide +kernel
theorem dX3_exchange_45 : decode cX3_exchange 45 = .ok (.iload_n 3, 1) := by decide +kernel
theorem dX3_exchange_46 : decode cX3_exchange 46 = .ok (.iload 6, 2) := by decide +kernel
theorem dX3_exchange_48 : decode cX3_exchange 48 = .ok (.invokevirtual 50, 3) := by decide +kernel
theorem dX3_exchange_51 : decode cX3_exchange 51 = .ok (.istore 7, 2) := by decide +kernel
theorem dX3_exchange_53 : decode cX3_exchange 53 = .ok (.iload 4, 2) := by decide +kernel
theorem dX3_exchange_55 : decode cX3_exchange 55 = .ok (.iload 7, 2) := by decide +kernel
theorem dX3_exchange_57 : decode cX3_exchange 57 = .ok (.aload_n 0, 1) := by decide +kernel
theorem dX3_exchange_58 : decode cX3_exchange 58 = .ok (.getfield 9, 3) := by decide +kernel
theorem dX3_exchange_61 : decode cX3_exchange 61 = .ok (.iload 5, 2) := by decide +kernel
theorem dX3_exchange_63 : decode cX3_exchange 63 = .ok (.iaload, 1) := by decide +kernel
theorem dX3_exchange_64 : decode cX3_exchange 64 = .ok (.if_icmp .ne 7, 3) := by decide +kernel
theorem dX3_exchange_67 : decode cX3_exchange 67 = .ok (.iconst 0, 1) := by decide +kernel
theorem dX3_exchange_68 : decode cX3_exchange 68 = .ok (.goto 4, 3) := by decide +kernel
theorem dX3_exchange_71 : decode cX3_exchange 71 = .ok (.iconst 1, 1) := by decide +kernel
theorem dX3_exchange_72 : decode cX3_exchange 72 = .ok (.iadd, 1) := by decide +kernel
theorem dX3_exchange_73 : decode cX3_exchange 73 = .ok (.istore 4, 2) := by decide +kernel
theorem dX3_exchange_75 : decode cX3_exchange 75 = .ok (.aload_n 0, 1) := by decide +kernel
theorem dX3_exchange_76 : decode cX3_exchange 76 = .ok (.getfield 9, 3) := by decide +kernel
theorem dX3_exchange_79 : decode cX3_exchange 79 = .ok (.iload 5, 2) := by decide +kernel
theorem dX3_exchange_81 : decode cX3_exchange 81 = .ok (.iload 7, 2) := by decide +kernel
theorem dX3_exchange_83 : decode cX3_exchange 83 = .ok (.iastore, 1) := by decide +kernel
theorem dX3_exchange_84 : decode cX3_exchange 84 = .ok (.iinc 5 1, 3) := by decide +kernel
theorem dX3_exchange_87 : decode cX3_exchange 87 = .ok (.goto (-81), 3) := by decide +kernel
theorem dX3_exchange_90 : decode cX3_exchange 90 = .ok (.iload 4, 2) := by decide +kernel
theorem dX3_exchange_92 : decode cX3_exchange 92 = .ok (.ireturn, 1) := by decide +kernel
theorem dX4_init_0 : decode cX4_init 0 = .ok (.aload_n 0, 1) := by decide +kernel
theorem dX4_init_1 : decode cX4_init 1 = .ok (.invokespecial 1, 3) := by decide +kernel
theorem dX4_init_4 : decode cX4_init 4 = .ok (.aload_n 0, 1) := by decide +kernel
theorem dX4_init_5 : decode cX4_init 5 = .ok (.iconst 1, 1) := by decide +kernel
theorem dX4_init_6 : decode cX4_init 6 = .ok (.putfield 7, 3) := by decide +kernel
theorem dX4_init_9 : decode cX4_init 9 = .ok (.return_, 1) := by decide +kernel
theorem dX4_tell_0 : decode cX4_tell 0 = .ok (.aload_n 0, 1) := by decide +kernel
theorem dX4_tell_1 : decode cX4_tell 1 = .ok (.iload_n 1, 1) := by decide +kernel
theorem dX4_tell_2 : decode cX4_tell 2 = .ok (.putfield 13, 3) := by decide +kernel
theorem dX4_tell_5 : decode cX4_tell 5 = .ok (.aload_n 0, 1) := by decide +kernel
theorem dX4_tell_6 : decode cX4_tell 6 = .ok (.iload_n 2, 1) := by decide +kernel
theorem dX4_tell_7 : decode cX4_tell 7 = .ok (.putfield 16, 3) := by decide +kernel
theorem dX4_tell_10 : decode cX4_tell 10 = .ok (.aload_n 0, 1) := by decide +kernel
theorem dX4_tell_11 : decode cX4_tell 11 = .ok (.iload 4, 2) := by decide +kernel
theorem dX4_tell_13 : decode cX4_tell 13 = .ok (.putfield 19, 3) := by decide +kernel
theorem dX4_tell_16 : decode cX4_tell 16 = .ok (.aload_n 0, 1) := by decide +kernel
theorem dX4_tell_17 : decode cX4_tell 17 = .ok (.iload 5, 2) := by decide +kernel
theorem dX4_tell_19 : decode cX4_tell 19 = .ok (.putfield 7, 3) := by decide +kernel
theorem dX4_tell_22 : decode cX4_tell 22 = .ok (.aload_n 0, 1) := by decide +kernel
theorem dX4_tell_23 : decode cX4_tell 23 = .ok (.iconst 0, 1) := by decide +kernel
theorem dX4_tell_24 : decode cX4_tell 24 = .ok (.putfield 22, 3) := by decide +kernel
theorem dX4_tell_27 : decode cX4_tell 27 = .ok (.aload_n 0, 1) := by decide +kernel
theorem dX4_tell_28 : decode cX4_tell 28 = .ok (.iload_n 3, 1) := by decide +kernel
theorem dX4_tell_29 : decode cX4_tell 29 = .ok (.invokevirtual 25, 3) := by decide +kernel
theorem dX4_tell_32 : decode cX4_tell 32 = .ok (.return_, 1) := by decide +kernel
theorem dX4_copyFrom_0 : decode cX4_copyFrom 0 = .ok (.aload_n 0, 1) := by decide +kernel
theorem dX4_copyFrom_1 : decode cX4_copyFrom 1 = .ok (.aload_n 1, 1) := by decide +kernel
theorem dX4_copyFrom_2 : decode cX4_copyFrom 2 = .ok (.getfield 13, 3) := by decide +kernel
theorem dX4_copyFrom_5 : decode cX4_copyFrom 5 = .ok (.putfield 13, 3) := by decide +kernel
theorem dX4_copyFrom_8 : decode cX4_copyFrom 8 = .ok (.aload_n 0, 1) := by decide +kernel
theorem dX4_copyFrom_9 : decode cX4_copyFrom 9 = .ok (.aload_n 1, 1) := by decide +kernel
theorem dX4_copyFrom_10 : decode cX4_copyFrom 10 = .ok (.getfield 16, 3) := by decide +kernel
theorem dX4_copyFrom_13 : decode cX4_copyFrom 13 = .ok (.putfield 16, 3) := by decide +kernel
theorem dX4_copyFrom_16 : decode cX4_copyFrom 16 = .ok (.aload_n 0, 1) := by decide +kernel
theorem dX4_copyFrom_17 : decode cX4_copyFrom 17 = .ok (.aload_n 1, 1) := by decide +kernel
theorem dX4_copyFrom_18 : decode cX4_copyFrom 18 = .ok (.getfield 19, 3) := by decide +kernel
theorem dX4_copyFrom_21 : decode cX4_copyFrom 21 = .ok (.putfield 19, 3) := by decide +kernel
theorem dX4_copyFrom_24 : decode cX4_copyFrom 24 = .ok (.aload_n 0, 1) := by decide +kernel
theorem dX4_copyFrom_25 : decode cX4_copyFrom 25 = .ok (.aload_n 1, 1) := by decide +kernel
theorem dX4_copyFrom_26 : decode cX4_copyFrom 26 = .ok (.getfield 7, 3) := by decide +kernel
theorem dX4_copyFrom_29 : decode cX4_copyFrom 29 = .ok (.putfield 7, 3) := by decide +kernel
theorem dX4_copyFrom_32 : decode cX4_copyFrom 32 = .ok (.aload_n 0, 1) := by decide +kernel
theorem dX4_copyFrom_33 : decode cX4_copyFrom 33 = .ok (.aload_n 1, 1) := by decide +kernel
theorem dX4_copyFrom_34 : decode cX4_copyFrom 34 = .ok (.getfield 29, 3) := by decide +kernel
theorem dX4_copyFrom_37 : decode cX4_copyFrom 37 = .ok (.putfield 29, 3) := by decide +kernel
theorem dX4_copyFrom_40 : decode cX4_copyFrom 40 = .ok (.aload_n 0, 1) := by decide +kernel
theorem dX4_copyFrom_41 : decode cX4_copyFrom 41 = .ok (.aload_n 1, 1) := by decide +kernel
theorem dX4_copyFrom_42 : decode cX4_copyFrom 42 = .ok (.getfield 32, 3) := by decide +kernel
theorem dX4_copyFrom_45 : decode cX4_copyFrom 45 = .ok (.putfield 32, 3) := by decide +kernel
theorem dX4_copyFrom_48 : decode cX4_copyFrom 48 = .ok (.aload_n 0, 1) := by decide +kernel
theorem dX4_copyFrom_49 : decode cX4_copyFrom 49 = .ok (.aload_n 1, 1) := by decide +kernel
theorem dX4_copyFrom_50 : decode cX4_copyFrom 50 = .ok (.getfield 22, 3) := by decide +kernel
theorem dX4_copyFrom_53 : decode cX4_copyFrom 53 = .ok (.putfield 22, 3) := by decide +kernel
theorem dX4_copyFrom_56 : decode cX4_copyFrom 56 = .ok (.return_, 1) := by decide +kernel
theorem dX4_putAt_0 : decode cX4_putAt 0 = .ok (.aload_n 0, 1) := by decide +kernel
theorem dX4_putAt_1 : decode cX4_putAt 1 = .ok (.iload_n 1, 1) := by decide +kernel
theorem dX4_putAt_2 : decode cX4_putAt 2 = .ok (.putfield 29, 3) := by decide +kernel
theorem dX4_putAt_5 : decode cX4_putAt 5 = .ok (.aload_n 0, 1) := by decide +kernel
theorem dX4_putAt_6 : decode cX4_putAt 6 = .ok (.iload_n 1, 1) := by decide +kernel
theorem dX4_putAt_7 : decode cX4_putAt 7 = .ok (.putfield 32, 3) := by decide +kernel
theorem dX4_putAt_10 : decode cX4_putAt 10 = .ok (.return_, 1) := by decide +kernel
theorem dX4_rail_0 : decode cX4_rail 0 = .ok (.aload_n 0, 1) := by decide +kernel
theorem dX4_rail_1 : decode cX4_rail 1 = .ok (.getfield 13, 3) := by decide +kernel
theorem dX4_rail_4 : decode cX4_rail 4 = .ok (.ireturn, 1) := by decide +kernel
theorem dX4_angle_0 : decode cX4_angle 0 = .ok (.aload_n 0, 1) := by decide +kernel
theorem dX4_angle_1 : decode cX4_angle 1 = .ok (.getfield 29, 3) := by decide +kernel
theorem dX4_angle_4 : decode cX4_angle 4 = .ok (.ireturn, 1) := by decide +kernel
theorem dX4_angleBefore_0 : decode cX4_angleBefore 0 = .ok (.aload_n 0, 1) := by decide +kernel
theorem dX4_angleBefore_1 : decode cX4_angleBefore 1 = .ok (.getfield 32, 3) := by decide +kernel
theorem dX4_angleBefore_4 : decode cX4_angleBefore 4 = .ok (.ireturn, 1) := by decide +kernel
theorem dX4_lap_0 : decode cX4_lap 0 = .ok (.aload_n 0, 1) := by decide +kernel
theorem dX4_lap_1 : decode cX4_lap 1 = .ok (.getfield 22, 3) := by decide +kernel
theorem dX4_lap_4 : decode cX4_lap 4 = .ok (.ireturn, 1) := by decide +kernel
theorem dX4_fact_0 : decode cX4_fact 0 = .ok (.iload_n 1, 1) := by decide +kernel
theorem dX4_fact_1 : decode cX4_fact 1 = .ok (.tableswitch 69 0 5 #[39, 44, 49, 54, 59, 64], 39) := by decide +kernel
theorem dX4_fact_40 : decode cX4_fact 40 = .ok (.aload_n 0, 1) := by decide +kernel
theorem dX4_fact_41 : decode cX4_fact 41 = .ok (.getfield 13, 3) := by decide +kernel
theorem dX4_fact_44 : decode cX4_fact 44 = .ok (.ireturn, 1) := by decide +kernel
theorem dX4_fact_45 : decode cX4_fact 45 = .ok (.aload_n 0, 1) := by decide +kernel
theorem dX4_fact_46 : decode cX4_fact 46 = .ok (.getfield 16, 3) := by decide +kernel
theorem dX4_fact_49 : decode cX4_fact 49 = .ok (.ireturn, 1) := by decide +kernel
theorem dX4_fact_50 : decode cX4_fact 50 = .ok (.aload_n 0, 1) := by decide +kernel
theorem dX4_fact_51 : decode cX4_fact 51 = .ok (.getfield 29, 3) := by decide +kernel
theorem dX4_fact_54 : decode cX4_fact 54 = .ok (.ireturn, 1) := by decide +kernel
theorem dX4_fact_55 : decode cX4_fact 55 = .ok (.aload_n 0, 1) := by decide +kernel
theorem dX4_fact_56 : decode cX4_fact 56 = .ok (.getfield 22, 3) := by decide +kernel
theorem dX4_fact_59 : decode cX4_fact 59 = .ok (.ireturn, 1) := by decide +kernel
theorem dX4_fact_60 : decode cX4_fact 60 = .ok (.aload_n 0, 1) := by decide +kernel
theorem dX4_fact_61 : decode cX4_fact 61 = .ok (.getfield 19, 3) := by decide +kernel
theorem dX4_fact_64 : decode cX4_fact 64 = .ok (.ireturn, 1) := by decide +kernel
theorem dX4_fact_65 : decode cX4_fact 65 = .ok (.aload_n 0, 1) := by decide +kernel
theorem dX4_fact_66 : decode cX4_fact 66 = .ok (.getfield 7, 3) := by decide +kernel
theorem dX4_fact_69 : decode cX4_fact 69 = .ok (.ireturn, 1) := by decide +kernel
theorem dX4_fact_70 : decode cX4_fact 70 = .ok (.aload_n 0, 1) := by decide +kernel
theorem dX4_fact_71 : decode cX4_fact 71 = .ok (.iload_n 2, 1) := by decide +kernel
theorem dX4_fact_72 : decode cX4_fact 72 = .ok (.invokevirtual 35, 3) := by decide +kernel
theorem dX4_fact_75 : decode cX4_fact 75 = .ok (.ifCond .eq 7, 3) := by decide +kernel
theorem dX4_fact_78 : decode cX4_fact 78 = .ok (.iconst 1, 1) := by decide +kernel
theorem dX4_fact_79 : decode cX4_fact 79 = .ok (.goto 4, 3) := by decide +kernel
theorem dX4_fact_82 : decode cX4_fact 82 = .ok (.iconst 0, 1) := by decide +kernel
theorem dX4_fact_83 : decode cX4_fact 83 = .ok (.ireturn, 1) := by decide +kernel
theorem dX4_isRetro_0 : decode cX4_isRetro 0 = .ok (.aload_n 0, 1) := by decide +kernel
theorem dX4_isRetro_1 : decode cX4_isRetro 1 = .ok (.getfield 7, 3) := by decide +kernel
theorem dX4_isRetro_4 : decode cX4_isRetro 4 = .ok (.ifCond .le 20, 3) := by decide +kernel
theorem dX4_isRetro_7 : decode cX4_isRetro 7 = .ok (.iload_n 1, 1) := by decide +kernel
theorem dX4_isRetro_8 : decode cX4_isRetro 8 = .ok (.aload_n 0, 1) := by decide +kernel
theorem dX4_isRetro_9 : decode cX4_isRetro 9 = .ok (.getfield 7, 3) := by decide +kernel
theorem dX4_isRetro_12 : decode cX4_isRetro 12 = .ok (.irem, 1) := by decide +kernel
theorem dX4_isRetro_13 : decode cX4_isRetro 13 = .ok (.aload_n 0, 1) := by decide +kernel
theorem dX4_isRetro_14 : decode cX4_isRetro 14 = .ok (.getfield 19, 3) := by decide +kernel
theorem dX4_isRetro_17 : decode cX4_isRetro 17 = .ok (.if_icmp .ge 7, 3) := by decide +kernel
theorem dX4_isRetro_20 : decode cX4_isRetro 20 = .ok (.iconst 1, 1) := by decide +kernel
theorem dX4_isRetro_21 : decode cX4_isRetro 21 = .ok (.goto 4, 3) := by decide +kernel
theorem dX4_isRetro_24 : decode cX4_isRetro 24 = .ok (.iconst 0, 1) := by decide +kernel
theorem dX4_isRetro_25 : decode cX4_isRetro 25 = .ok (.ireturn, 1) := by decide +kernel
theorem dX4_turn_0 : decode cX4_turn 0 = .ok (.aload_n 0, 1) := by decide +kernel
theorem dX4_turn_1 : decode cX4_turn 1 = .ok (.aload_n 0, 1) := by decide +kernel
theorem dX4_turn_2 : decode cX4_turn 2 = .ok (.getfield 29, 3) := by decide +kernel
theorem dX4_turn_5 : decode cX4_turn 5 = .ok (.putfield 32, 3) := by decide +kernel
theorem dX4_turn_8 : decode cX4_turn 8 = .ok (.aload_n 0, 1) := by decide +kernel
theorem dX4_turn_9 : decode cX4_turn 9 = .ok (.dup, 1) := by decide +kernel
theorem dX4_turn_10 : decode cX4_turn 10 = .ok (.getfield 29, 3) := by decide +kernel
theorem dX4_turn_13 : decode cX4_turn 13 = .ok (.aload_n 0, 1) := by decide +kernel
theorem dX4_turn_14 : decode cX4_turn 14 = .ok (.iload_n 1, 1) := by decide +kernel
theorem dX4_turn_15 : decode cX4_turn 15 = .ok (.invokevirtual 35, 3) := by decide +kernel
theorem dX4_turn_18 : decode cX4_turn 18 = .ok (.ifCond .eq 11, 3) := by decide +kernel
theorem dX4_turn_21 : decode cX4_turn 21 = .ok (.aload_n 0, 1) := by decide +kernel
theorem dX4_turn_22 : decode cX4_turn 22 = .ok (.getfield 16, 3) := by decide +kernel
theorem dX4_turn_25 : decode cX4_turn 25 = .ok (.ineg, 1) := by decide +kernel
theorem dX4_turn_26 : decode cX4_turn 26 = .ok (.goto 7, 3) := by decide +kernel
theorem dX4_turn_29 : decode cX4_turn 29 = .ok (.aload_n 0, 1) := by decide +kernel
theorem dX4_turn_30 : decode cX4_turn 30 = .ok (.getfield 16, 3) := by decide +kernel
theorem dX4_turn_33 : decode cX4_turn 33 = .ok (.iadd, 1) := by decide +kernel
theorem dX4_turn_34 : decode cX4_turn 34 = .ok (.putfield 29, 3) := by decide +kernel
theorem dX4_turn_37 : decode cX4_turn 37 = .ok (.aload_n 0, 1) := by decide +kernel
theorem dX4_turn_38 : decode cX4_turn 38 = .ok (.getfield 29, 3) := by decide +kernel
theorem dX4_turn_41 : decode cX4_turn 41 = .ok (.sipush 360, 3) := by decide +kernel
theorem dX4_turn_44 : decode cX4_turn 44 = .ok (.if_icmp .lt 28, 3) := by decide +kernel
theorem dX4_turn_47 : decode cX4_turn 47 = .ok (.aload_n 0, 1) := by decide +kernel
theorem dX4_turn_48 : decode cX4_turn 48 = .ok (.dup, 1) := by decide +kernel
theorem dX4_turn_49 : decode cX4_turn 49 = .ok (.getfield 29, 3) := by decide +kernel
theorem dX4_turn_52 : decode cX4_turn 52 = .ok (.sipush 360, 3) := by decide +kernel
theorem dX4_turn_55 : decode cX4_turn 55 = .ok (.isub, 1) := by decide +kernel
theorem dX4_turn_56 : decode cX4_turn 56 = .ok (.putfield 29, 3) := by decide +kernel
theorem dX4_turn_59 : decode cX4_turn 59 = .ok (.aload_n 0, 1) := by decide +kernel
theorem dX4_turn_60 : decode cX4_turn 60 = .ok (.dup, 1) := by decide +kernel
theorem dX4_turn_61 : decode cX4_turn 61 = .ok (.getfield 22, 3) := by decide +kernel
theorem dX4_turn_64 : decode cX4_turn 64 = .ok (.iconst 1, 1) := by decide +kernel
theorem dX4_turn_65 : decode cX4_turn 65 = .ok (.iadd, 1) := by decide +kernel
theorem dX4_turn_66 : decode cX4_turn 66 = .ok (.putfield 22, 3) := by decide +kernel
theorem dX4_turn_69 : decode cX4_turn 69 = .ok (.goto 32, 3) := by decide +kernel
theorem dX4_turn_72 : decode cX4_turn 72 = .ok (.aload_n 0, 1) := by decide +kernel
theorem dX4_turn_73 : decode cX4_turn 73 = .ok (.getfield 29, 3) := by decide +kernel
theorem dX4_turn_76 : decode cX4_turn 76 = .ok (.ifCond .ge 25, 3) := by decide +kernel
theorem dX4_turn_79 : decode cX4_turn 79 = .ok (.aload_n 0, 1) := by decide +kernel
theorem dX4_turn_80 : decode cX4_turn 80 = .ok (.dup, 1) := by decide +kernel
theorem dX4_turn_81 : decode cX4_turn 81 = .ok (.getfield 29, 3) := by decide +kernel
theorem dX4_turn_84 : decode cX4_turn 84 = .ok (.sipush 360, 3) := by decide +kernel
theorem dX4_turn_87 : decode cX4_turn 87 = .ok (.iadd, 1) := by decide +kernel
theorem dX4_turn_88 : decode cX4_turn 88 = .ok (.putfield 29, 3) := by decide +kernel
theorem dX4_turn_91 : decode cX4_turn 91 = .ok (.aload_n 0, 1) := by decide +kernel
theorem dX4_turn_92 : decode cX4_turn 92 = .ok (.dup, 1) := by decide +kernel
theorem dX4_turn_93 : decode cX4_turn 93 = .ok (.getfield 22, 3) := by decide +kernel
theorem dX4_turn_96 : decode cX4_turn 96 = .ok (.iconst 1, 1) := by decide +kernel
theorem dX4_turn_97 : decode cX4_turn 97 = .ok (.isub, 1) := by decide +kernel
theorem dX4_turn_98 : decode cX4_turn 98 = .ok (.putfield 22, 3) := by decide +kernel
theorem dX4_turn_101 : decode cX4_turn 101 = .ok (.return_, 1) := by decide +kernel
theorem dX4_shortest_0 : decode cX4_shortest 0 = .ok (.iload_n 0, 1) := by decide +kernel
theorem dX4_shortest_1 : decode cX4_shortest 1 = .ok (.sipush 360, 3) := by decide +kernel
theorem dX4_shortest_4 : decode cX4_shortest 4 = .ok (.irem, 1) := by decide +kernel
theorem dX4_shortest_5 : decode cX4_shortest 5 = .ok (.istore_n 1, 1) := by decide +kernel
theorem dX4_shortest_6 : decode cX4_shortest 6 = .ok (.iload_n 1, 1) := by decide +kernel
theorem dX4_shortest_7 : decode cX4_shortest 7 = .ok (.sipush 180, 3) := by decide +kernel
theorem dX4_shortest_10 : decode cX4_shortest 10 = .ok (.if_icmp .le 9, 3) := by decide +kernel
theorem dX4_shortest_13 : decode cX4_shortest 13 = .ok (.iload_n 1, 1) := by decide +kernel
theorem dX4_shortest_14 : decode cX4_shortest 14 = .ok (.sipush 360, 3) := by decide +kernel
theorem dX4_shortest_17 : decode cX4_shortest 17 = .ok (.isub, 1) := by decide +kernel
theorem dX4_shortest_18 : decode cX4_shortest 18 = .ok (.ireturn, 1) := by decide +kernel
theorem dX4_shortest_19 : decode cX4_shortest 19 = .ok (.iload_n 1, 1) := by decide +kernel
theorem dX4_shortest_20 : decode cX4_shortest 20 = .ok (.sipush (-180), 3) := by decide +kernel
theorem dX4_shortest_23 : decode cX4_shortest 23 = .ok (.if_icmp .gt 11, 3) := by decide +kernel
theorem dX4_shortest_26 : decode cX4_shortest 26 = .ok (.iload_n 1, 1) := by decide +kernel
theorem dX4_shortest_27 : decode cX4_shortest 27 = .ok (.sipush 360, 3) := by decide +kernel
theorem dX4_shortest_30 : decode cX4_shortest 30 = .ok (.iadd, 1) := by decide +kernel
theorem dX4_shortest_31 : decode cX4_shortest 31 = .ok (.goto 4, 3) := by decide +kernel
theorem dX4_shortest_34 : decode cX4_shortest 34 = .ok (.iload_n 1, 1) := by decide +kernel
theorem dX4_shortest_35 : decode cX4_shortest 35 = .ok (.ireturn, 1) := by decide +kernel
theorem dX5_init_0 : decode cX5_init 0 = .ok (.aload_n 0, 1) := by decide +kernel
theorem dX5_init_1 : decode cX5_init 1 = .ok (.invokespecial 3, 3) := by decide +kernel
theorem dX5_init_4 : decode cX5_init 4 = .ok (.aload_n 0, 1) := by decide +kernel
theorem dX5_init_5 : decode cX5_init 5 = .ok (.sipush 400, 3) := by decide +kernel
theorem dX5_init_8 : decode cX5_init 8 = .ok (.newarray .int, 2) := by decide +kernel
theorem dX5_init_10 : decode cX5_init 10 = .ok (.putfield 11, 3) := by decide +kernel
theorem dX5_init_13 : decode cX5_init 13 = .ok (.aload_n 0, 1) := by decide +kernel
theorem dX5_init_14 : decode cX5_init 14 = .ok (.sipush 400, 3) := by decide +kernel
theorem dX5_init_17 : decode cX5_init 17 = .ok (.newarray .int, 2) := by decide +kernel
theorem dX5_init_19 : decode cX5_init 19 = .ok (.putfield 15, 3) := by decide +kernel
theorem dX5_init_22 : decode cX5_init 22 = .ok (.aload_n 0, 1) := by decide +kernel
theorem dX5_init_23 : decode cX5_init 23 = .ok (.sipush 400, 3) := by decide +kernel
theorem dX5_init_26 : decode cX5_init 26 = .ok (.newarray .int, 2) := by decide +kernel
theorem dX5_init_28 : decode cX5_init 28 = .ok (.putfield 18, 3) := by decide +kernel
theorem dX5_init_31 : decode cX5_init 31 = .ok (.aload_n 0, 1) := by decide +kernel
theorem dX5_init_32 : decode cX5_init 32 = .ok (.sipush 400, 3) := by decide +kernel
theorem dX5_init_35 : decode cX5_init 35 = .ok (.newarray .int, 2) := by decide +kernel
theorem dX5_init_37 : decode cX5_init 37 = .ok (.putfield 21, 3) := by decide +kernel
theorem dX5_init_40 : decode cX5_init 40 = .ok (.return_, 1) := by decide +kernel
theorem dX5_isComparison_0 : decode cX5_isComparison 0 = .ok (.iload_n 0, 1) := by decide +kernel
theorem dX5_isComparison_1 : decode cX5_isComparison 1 = .ok (.bipush 20, 2) := by decide +kernel
theorem dX5_isComparison_3 : decode cX5_isComparison 3 = .ok (.if_icmp .lt 13, 3) := by decide +kernel
theorem dX5_isComparison_6 : decode cX5_isComparison 6 = .ok (.iload_n 0, 1) := by decide +kernel
theorem dX5_isComparison_7 : decode cX5_isComparison 7 = .ok (.bipush 24, 2) := by decide +kernel
theorem dX5_isComparison_9 : decode cX5_isComparison 9 = .ok (.if_icmp .gt 7, 3) := by decide +kernel
theorem dX5_isComparison_12 : decode cX5_isComparison 12 = .ok (.iconst 1, 1) := by decide +kernel
theorem dX5_isComparison_13 : decode cX5_isComparison 13 = .ok (.goto 4, 3) := by decide +kernel
theorem dX5_isComparison_16 : decode cX5_isComparison 16 = .ok (.iconst 0, 1) := by decide +kernel
theorem dX5_isComparison_17 : decode cX5_isComparison 17 = .ok (.ireturn, 1) := by decide +kernel
theorem dX5_isProduct_0 : decode cX5_isProduct 0 = .ok (.iload_n 0, 1) := by decide +kernel
theorem dX5_isProduct_1 : decode cX5_isProduct 1 = .ok (.bipush 17, 2) := by decide +kernel
theorem dX5_isProduct_3 : decode cX5_isProduct 3 = .ok (.if_icmp .lt 13, 3) := by decide +kernel
theorem dX5_isProduct_6 : decode cX5_isProduct 6 = .ok (.iload_n 0, 1) := by decide +kernel
theorem dX5_isProduct_7 : decode cX5_isProduct 7 = .ok (.bipush 19, 2) := by decide +kernel
theorem dX5_isProduct_9 : decode cX5_isProduct 9 = .ok (.if_icmp .gt 7, 3) := by decide +kernel
theorem dX5_isProduct_12 : decode cX5_isProduct 12 = .ok (.iconst 1, 1) := by decide +kernel
theorem dX5_isProduct_13 : decode cX5_isProduct 13 = .ok (.goto 4, 3) := by decide +kernel
theorem dX5_isProduct_16 : decode cX5_isProduct 16 = .ok (.iconst 0, 1) := by decide +kernel
theorem dX5_isProduct_17 : decode cX5_isProduct 17 = .ok (.ireturn, 1) := by decide +kernel
theorem dX5_empty_0 : decode cX5_empty 0 = .ok (.aload_n 0, 1) := by decide +kernel
theorem dX5_empty_1 : decode cX5_empty 1 = .ok (.iconst 0, 1) := by decide +kernel
theorem dX5_empty_2 : decode cX5_empty 2 = .ok (.putfield 24, 3) := by decide +kernel
theorem dX5_empty_5 : decode cX5_empty 5 = .ok (.return_, 1) := by decide +kernel
theorem dX5_size_0 : decode cX5_size 0 = .ok (.aload_n 0, 1) := by decide +kernel
theorem dX5_size_1 : decode cX5_size 1 = .ok (.getfield 24, 3) := by decide +kernel
theorem dX5_size_4 : decode cX5_size 4 = .ok (.ireturn, 1) := by decide +kernel
theorem dX5_add_0 : decode cX5_add 0 = .ok (.aload_n 0, 1) := by decide +kernel
theorem dX5_add_1 : decode cX5_add 1 = .ok (.getfield 24, 3) := by decide +kernel
theorem dX5_add_4 : decode cX5_add 4 = .ok (.sipush 400, 3) := by decide +kernel
theorem dX5_add_7 : decode cX5_add 7 = .ok (.if_icmp .ge 43, 3) := by decide +kernel
theorem dX5_add_10 : decode cX5_add 10 = .ok (.aload_n 0, 1) := by decide +kernel
theorem dX5_add_11 : decode cX5_add 11 = .ok (.getfield 11, 3) := by decide +kernel
theorem dX5_add_14 : decode cX5_add 14 = .ok (.aload_n 0, 1) := by decide +kernel
theorem dX5_add_15 : decode cX5_add 15 = .ok (.getfield 24, 3) := by decide +kernel
theorem dX5_add_18 : decode cX5_add 18 = .ok (.iload_n 1, 1) := by decide +kernel
theorem dX5_add_19 : decode cX5_add 19 = .ok (.iastore, 1) := by decide +kernel
theorem dX5_add_20 : decode cX5_add 20 = .ok (.aload_n 0, 1) := by decide +kernel
theorem dX5_add_21 : decode cX5_add 21 = .ok (.getfield 15, 3) := by decide +kernel
theorem dX5_add_24 : decode cX5_add 24 = .ok (.aload_n 0, 1) := by decide +kernel
theorem dX5_add_25 : decode cX5_add 25 = .ok (.getfield 24, 3) := by decide +kernel
theorem dX5_add_28 : decode cX5_add 28 = .ok (.iload_n 2, 1) := by decide +kernel
theorem dX5_add_29 : decode cX5_add 29 = .ok (.iastore, 1) := by decide +kernel
theorem dX5_add_30 : decode cX5_add 30 = .ok (.aload_n 0, 1) := by decide +kernel
theorem dX5_add_31 : decode cX5_add 31 = .ok (.getfield 18, 3) := by decide +kernel
theorem dX5_add_34 : decode cX5_add 34 = .ok (.aload_n 0, 1) := by decide +kernel
theorem dX5_add_35 : decode cX5_add 35 = .ok (.getfield 24, 3) := by decide +kernel
theorem dX5_add_38 : decode cX5_add 38 = .ok (.iload_n 3, 1) := by decide +kernel
theorem dX5_add_39 : decode cX5_add 39 = .ok (.iastore, 1) := by decide +kernel
theorem dX5_add_40 : decode cX5_add 40 = .ok (.aload_n 0, 1) := by decide +kernel
theorem dX5_add_41 : decode cX5_add 41 = .ok (.dup, 1) := by decide +kernel
theorem dX5_add_42 : decode cX5_add 42 = .ok (.getfield 24, 3) := by decide +kernel
theorem dX5_add_45 : decode cX5_add 45 = .ok (.iconst 1, 1) := by decide +kernel
theorem dX5_add_46 : decode cX5_add 46 = .ok (.iadd, 1) := by decide +kernel
theorem dX5_add_47 : decode cX5_add 47 = .ok (.putfield 24, 3) := by decide +kernel
theorem dX5_add_50 : decode cX5_add 50 = .ok (.return_, 1) := by decide +kernel
theorem dX5_reckon_0 : decode cX5_reckon 0 = .ok (.aload_n 0, 1) := by decide +kernel
theorem dX5_reckon_1 : decode cX5_reckon 1 = .ok (.iconst 0, 1) := by decide +kernel
theorem dX5_reckon_2 : decode cX5_reckon 2 = .ok (.putfield 28, 3) := by decide +kernel
theorem dX5_reckon_5 : decode cX5_reckon 5 = .ok (.iload_n 1, 1) := by decide +kernel
theorem dX5_reckon_6 : decode cX5_reckon 6 = .ok (.iconst 0, 1) := by decide +kernel
theorem dX5_reckon_7 : decode cX5_reckon 7 = .ok (.invokestatic 31, 3) := by decide +kernel
theorem dX5_reckon_10 : decode cX5_reckon 10 = .ok (.istore 4, 2) := by decide +kernel
theorem dX5_reckon_12 : decode cX5_reckon 12 = .ok (.iload 4, 2) := by decide +kernel
theorem dX5_reckon_14 : decode cX5_reckon 14 = .ok (.iload_n 2, 1) := by decide +kernel
theorem dX5_reckon_15 : decode cX5_reckon 15 = .ok (.if_icmp .ge 105, 3) := by decide +kernel
theorem dX5_reckon_18 : decode cX5_reckon 18 = .ok (.iload 4, 2) := by decide +kernel
theorem dX5_reckon_20 : decode cX5_reckon 20 = .ok (.aload_n 0, 1) := by decide +kernel
theorem dX5_reckon_21 : decode cX5_reckon 21 = .ok (.getfield 24, 3) := by decide +kernel
theorem dX5_reckon_24 : decode cX5_reckon 24 = .ok (.if_icmp .ge 96, 3) := by decide +kernel
theorem dX5_reckon_27 : decode cX5_reckon 27 = .ok (.aload_n 0, 1) := by decide +kernel
theorem dX5_reckon_28 : decode cX5_reckon 28 = .ok (.getfield 11, 3) := by decide +kernel
theorem dX5_reckon_31 : decode cX5_reckon 31 = .ok (.iload 4, 2) := by decide +kernel
theorem dX5_reckon_33 : decode cX5_reckon 33 = .ok (.iaload, 1) := by decide +kernel
theorem dX5_reckon_34 : decode cX5_reckon 34 = .ok (.istore 5, 2) := by decide +kernel
theorem dX5_reckon_36 : decode cX5_reckon 36 = .ok (.iload 5, 2) := by decide +kernel
theorem dX5_reckon_38 : decode cX5_reckon 38 = .ok (.bipush 9, 2) := by decide +kernel
theorem dX5_reckon_40 : decode cX5_reckon 40 = .ok (.if_icmp .ge 30, 3) := by decide +kernel
theorem dX5_reckon_43 : decode cX5_reckon 43 = .ok (.aload_n 0, 1) := by decide +kernel
theorem dX5_reckon_44 : decode cX5_reckon 44 = .ok (.iload 5, 2) := by decide +kernel
theorem dX5_reckon_46 : decode cX5_reckon 46 = .ok (.aload_n 0, 1) := by decide +kernel
theorem dX5_reckon_47 : decode cX5_reckon 47 = .ok (.getfield 15, 3) := by decide +kernel
theorem dX5_reckon_50 : decode cX5_reckon 50 = .ok (.iload 4, 2) := by decide +kernel
theorem dX5_reckon_52 : decode cX5_reckon 52 = .ok (.iaload, 1) := by decide +kernel
theorem dX5_reckon_53 : decode cX5_reckon 53 = .ok (.aload_n 0, 1) := by decide +kernel
theorem dX5_reckon_54 : decode cX5_reckon 54 = .ok (.getfield 18, 3) := by decide +kernel
theorem dX5_reckon_57 : decode cX5_reckon 57 = .ok (.iload 4, 2) := by decide +kernel
theorem dX5_reckon_59 : decode cX5_reckon 59 = .ok (.iaload, 1) := by decide +kernel
theorem dX5_reckon_60 : decode cX5_reckon 60 = .ok (.aload_n 3, 1) := by decide +kernel
theorem dX5_reckon_61 : decode cX5_reckon 61 = .ok (.invokestatic 37, 3) := by decide +kernel
theorem dX5_reckon_64 : decode cX5_reckon 64 = .ok (.invokevirtual 41, 3) := by decide +kernel
theorem dX5_reckon_67 : decode cX5_reckon 67 = .ok (.goto 47, 3) := by decide +kernel
theorem dX5_reckon_70 : decode cX5_reckon 70 = .ok (.iload 5, 2) := by decide +kernel
theorem dX5_reckon_72 : decode cX5_reckon 72 = .ok (.bipush 11, 2) := by decide +kernel
theorem dX5_reckon_74 : decode cX5_reckon 74 = .ok (.if_icmp .ge 19, 3) := by decide +kernel
theorem dX5_reckon_77 : decode cX5_reckon 77 = .ok (.aload_n 0, 1) := by decide +kernel
theorem dX5_reckon_78 : decode cX5_reckon 78 = .ok (.iload 5, 2) := by decide +kernel
theorem dX5_reckon_80 : decode cX5_reckon 80 = .ok (.aload_n 0, 1) := by decide +kernel
theorem dX5_reckon_81 : decode cX5_reckon 81 = .ok (.invokevirtual 45, 3) := by decide +kernel
theorem dX5_reckon_84 : decode cX5_reckon 84 = .ok (.invokestatic 49, 3) := by decide +kernel
theorem dX5_reckon_87 : decode cX5_reckon 87 = .ok (.invokevirtual 41, 3) := by decide +kernel
theorem dX5_reckon_90 : decode cX5_reckon 90 = .ok (.goto 24, 3) := by decide +kernel
theorem dX5_reckon_93 : decode cX5_reckon 93 = .ok (.aload_n 0, 1) := by decide +kernel
theorem dX5_reckon_94 : decode cX5_reckon 94 = .ok (.invokevirtual 45, 3) := by decide +kernel
theorem dX5_reckon_97 : decode cX5_reckon 97 = .ok (.istore 6, 2) := by decide +kernel
theorem dX5_reckon_99 : decode cX5_reckon 99 = .ok (.aload_n 0, 1) := by decide +kernel
theorem dX5_reckon_100 : decode cX5_reckon 100 = .ok (.iload 5, 2) := by decide +kernel
theorem dX5_reckon_102 : decode cX5_reckon 102 = .ok (.aload_n 0, 1) := by decide +kernel
theorem dX5_reckon_103 : decode cX5_reckon 103 = .ok (.invokevirtual 45, 3) := by decide +kernel
theorem dX5_reckon_106 : decode cX5_reckon 106 = .ok (.iload 6, 2) := by decide +kernel
theorem dX5_reckon_108 : decode cX5_reckon 108 = .ok (.invokestatic 52, 3) := by decide +kernel
theorem dX5_reckon_111 : decode cX5_reckon 111 = .ok (.invokevirtual 41, 3) := by decide +kernel
theorem dX5_reckon_114 : decode cX5_reckon 114 = .ok (.iinc 4 1, 3) := by decide +kernel
theorem dX5_reckon_117 : decode cX5_reckon 117 = .ok (.goto (-105), 3) := by decide +kernel
theorem dX5_reckon_120 : decode cX5_reckon 120 = .ok (.aload_n 0, 1) := by decide +kernel
theorem dX5_reckon_121 : decode cX5_reckon 121 = .ok (.invokevirtual 45, 3) := by decide +kernel
theorem dX5_reckon_124 : decode cX5_reckon 124 = .ok (.ireturn, 1) := by decide +kernel
theorem dX5_push_0 : decode cX5_push 0 = .ok (.aload_n 0, 1) := by decide +kernel
theorem dX5_push_1 : decode cX5_push 1 = .ok (.getfield 28, 3) := by decide +kernel
theorem dX5_push_4 : decode cX5_push 4 = .ok (.sipush 400, 3) := by decide +kernel
theorem dX5_push_7 : decode cX5_push 7 = .ok (.if_icmp .ge 23, 3) := by decide +kernel
theorem dX5_push_10 : decode cX5_push 10 = .ok (.aload_n 0, 1) := by decide +kernel
theorem dX5_push_11 : decode cX5_push 11 = .ok (.getfield 21, 3) := by decide +kernel
theorem dX5_push_14 : decode cX5_push 14 = .ok (.aload_n 0, 1) := by decide +kernel
theorem dX5_push_15 : decode cX5_push 15 = .ok (.getfield 28, 3) := by decide +kernel
theorem dX5_push_18 : decode cX5_push 18 = .ok (.iload_n 1, 1) := by decide +kernel
theorem dX5_push_19 : decode cX5_push 19 = .ok (.iastore, 1) := by decide +kernel
theorem dX5_push_20 : decode cX5_push 20 = .ok (.aload_n 0, 1) := by decide +kernel
theorem dX5_push_21 : decode cX5_push 21 = .ok (.dup, 1) := by decide +kernel
theorem dX5_push_22 : decode cX5_push 22 = .ok (.getfield 28, 3) := by decide +kernel
theorem dX5_push_25 : decode cX5_push 25 = .ok (.iconst 1, 1) := by decide +kernel
theorem dX5_push_26 : decode cX5_push 26 = .ok (.iadd, 1) := by decide +kernel
theorem dX5_push_27 : decode cX5_push 27 = .ok (.putfield 28, 3) := by decide +kernel
theorem dX5_push_30 : decode cX5_push 30 = .ok (.return_, 1) := by decide +kernel
theorem dX5_pop_0 : decode cX5_pop 0 = .ok (.aload_n 0, 1) := by decide +kernel
theorem dX5_pop_1 : decode cX5_pop 1 = .ok (.getfield 28, 3) := by decide +kernel
theorem dX5_pop_4 : decode cX5_pop 4 = .ok (.ifCond .ne 5, 3) := by decide +kernel
theorem dX5_pop_7 : decode cX5_pop 7 = .ok (.iconst 0, 1) := by decide +kernel
theorem dX5_pop_8 : decode cX5_pop 8 = .ok (.ireturn, 1) := by decide +kernel
theorem dX5_pop_9 : decode cX5_pop 9 = .ok (.aload_n 0, 1) := by decide +kernel
theorem dX5_pop_10 : decode cX5_pop 10 = .ok (.dup, 1) := by decide +kernel
theorem dX5_pop_11 : decode cX5_pop 11 = .ok (.getfield 28, 3) := by decide +kernel
theorem dX5_pop_14 : decode cX5_pop 14 = .ok (.iconst 1, 1) := by decide +kernel
theorem dX5_pop_15 : decode cX5_pop 15 = .ok (.isub, 1) := by decide +kernel
theorem dX5_pop_16 : decode cX5_pop 16 = .ok (.putfield 28, 3) := by decide +kernel
theorem dX5_pop_19 : decode cX5_pop 19 = .ok (.aload_n 0, 1) := by decide +kernel
theorem dX5_pop_20 : decode cX5_pop 20 = .ok (.getfield 21, 3) := by decide +kernel
theorem dX5_pop_23 : decode cX5_pop 23 = .ok (.aload_n 0, 1) := by decide +kernel
theorem dX5_pop_24 : decode cX5_pop 24 = .ok (.getfield 28, 3) := by decide +kernel
theorem dX5_pop_27 : decode cX5_pop 27 = .ok (.iaload, 1) := by decide +kernel
theorem dX5_pop_28 : decode cX5_pop 28 = .ok (.ireturn, 1) := by decide +kernel
theorem dX5_asked_0 : decode cX5_asked 0 = .ok (.iload_n 0, 1) := by decide +kernel
theorem dX5_asked_1 : decode cX5_asked 1 = .ok (.tableswitch 118 0 7 #[47, 49, 54, 62, 68, 74, 81, 90], 47) := by decide +kernel
theorem dX5_asked_48 : decode cX5_asked 48 = .ok (.iload_n 1, 1) := by decide +kernel
theorem dX5_asked_49 : decode cX5_asked 49 = .ok (.ireturn, 1) := by decide +kernel
theorem dX5_asked_50 : decode cX5_asked 50 = .ok (.aload_n 3, 1) := by decide +kernel
theorem dX5_asked_51 : decode cX5_asked 51 = .ok (.invokevirtual 56, 3) := by decide +kernel
theorem dX5_asked_54 : decode cX5_asked 54 = .ok (.ireturn, 1) := by decide +kernel
theorem dX5_asked_55 : decode cX5_asked 55 = .ok (.aload_n 3, 1) := by decide +kernel
theorem dX5_asked_56 : decode cX5_asked 56 = .ok (.invokevirtual 61, 3) := by decide +kernel
theorem dX5_asked_59 : decode cX5_asked 59 = .ok (.invokevirtual 65, 3) := by decide +kernel
theorem dX5_asked_62 : decode cX5_asked 62 = .ok (.ireturn, 1) := by decide +kernel
theorem dX5_asked_63 : decode cX5_asked 63 = .ok (.aload_n 3, 1) := by decide +kernel
theorem dX5_asked_64 : decode cX5_asked 64 = .ok (.iload_n 1, 1) := by decide +kernel
theorem dX5_asked_65 : decode cX5_asked 65 = .ok (.invokevirtual 69, 3) := by decide +kernel
theorem dX5_asked_68 : decode cX5_asked 68 = .ok (.ireturn, 1) := by decide +kernel
theorem dX5_asked_69 : decode cX5_asked 69 = .ok (.aload_n 3, 1) := by decide +kernel
theorem dX5_asked_70 : decode cX5_asked 70 = .ok (.iload_n 1, 1) := by decide +kernel
theorem dX5_asked_71 : decode cX5_asked 71 = .ok (.invokevirtual 73, 3) := by decide +kernel
theorem dX5_asked_74 : decode cX5_asked 74 = .ok (.ireturn, 1) := by decide +kernel
theorem dX5_asked_75 : decode cX5_asked 75 = .ok (.aload_n 3, 1) := by decide +kernel
theorem dX5_asked_76 : decode cX5_asked 76 = .ok (.iload_n 1, 1) := by decide +kernel
theorem dX5_asked_77 : decode cX5_asked 77 = .ok (.iload_n 2, 1) := by decide +kernel
theorem dX5_asked_78 : decode cX5_asked 78 = .ok (.invokevirtual 76, 3) := by decide +kernel
theorem dX5_asked_81 : decode cX5_asked 81 = .ok (.ireturn, 1) := by decide +kernel
theorem dX5_asked_82 : decode cX5_asked 82 = .ok (.aload_n 3, 1) := by decide +kernel
theorem dX5_asked_83 : decode cX5_asked 83 = .ok (.iload_n 1, 1) := by decide +kernel
theorem dX5_asked_84 : decode cX5_asked 84 = .ok (.invokevirtual 79, 3) := by decide +kernel
theorem dX5_asked_87 : decode cX5_asked 87 = .ok (.invokestatic 83, 3) := by decide +kernel
theorem dX5_asked_90 : decode cX5_asked 90 = .ok (.ireturn, 1) := by decide +kernel
theorem dX5_asked_91 : decode cX5_asked 91 = .ok (.aload_n 3, 1) := by decide +kernel
theorem dX5_asked_92 : decode cX5_asked 92 = .ok (.iload_n 1, 1) := by decide +kernel
theorem dX5_asked_93 : decode cX5_asked 93 = .ok (.iload_n 2, 1) := by decide +kernel
theorem dX5_asked_94 : decode cX5_asked 94 = .ok (.invokevirtual 87, 3) := by decide +kernel
theorem dX5_asked_97 : decode cX5_asked 97 = .ok (.ifCond .eq 17, 3) := by decide +kernel
theorem dX5_asked_100 : decode cX5_asked 100 = .ok (.aload_n 3, 1) := by decide +kernel
theorem dX5_asked_101 : decode cX5_asked 101 = .ok (.iload_n 1, 1) := by decide +kernel
theorem dX5_asked_102 : decode cX5_asked 102 = .ok (.iload_n 2, 1) := by decide +kernel
theorem dX5_asked_103 : decode cX5_asked 103 = .ok (.iconst 0, 1) := by decide +kernel
theorem dX5_asked_104 : decode cX5_asked 104 = .ok (.invokevirtual 91, 3) := by decide +kernel
theorem dX5_asked_107 : decode cX5_asked 107 = .ok (.ifCond .eq 7, 3) := by decide +kernel
theorem dX5_asked_110 : decode cX5_asked 110 = .ok (.iconst 1, 1) := by decide +kernel
theorem dX5_asked_111 : decode cX5_asked 111 = .ok (.goto 4, 3) := by decide +kernel
theorem dX5_asked_114 : decode cX5_asked 114 = .ok (.iconst 0, 1) := by decide +kernel
theorem dX5_asked_115 : decode cX5_asked 115 = .ok (.invokestatic 83, 3) := by decide +kernel
theorem dX5_asked_118 : decode cX5_asked 118 = .ok (.ireturn, 1) := by decide +kernel
theorem dX5_asked_119 : decode cX5_asked 119 = .ok (.aload_n 3, 1) := by decide +kernel
theorem dX5_asked_120 : decode cX5_asked 120 = .ok (.iload_n 1, 1) := by decide +kernel
theorem dX5_asked_121 : decode cX5_asked 121 = .ok (.iload_n 2, 1) := by decide +kernel
theorem dX5_asked_122 : decode cX5_asked 122 = .ok (.iconst 1, 1) := by decide +kernel
theorem dX5_asked_123 : decode cX5_asked 123 = .ok (.invokevirtual 91, 3) := by decide +kernel
theorem dX5_asked_126 : decode cX5_asked 126 = .ok (.invokestatic 83, 3) := by decide +kernel
theorem dX5_asked_129 : decode cX5_asked 129 = .ok (.ireturn, 1) := by decide +kernel
theorem dX5_turned_0 : decode cX5_turned 0 = .ok (.iload_n 0, 1) := by decide +kernel
theorem dX5_turned_1 : decode cX5_turned 1 = .ok (.bipush 9, 2) := by decide +kernel
theorem dX5_turned_3 : decode cX5_turned 3 = .ok (.if_icmp .ne 8, 3) := by decide +kernel
theorem dX5_turned_6 : decode cX5_turned 6 = .ok (.iload_n 1, 1) := by decide +kernel
theorem dX5_turned_7 : decode cX5_turned 7 = .ok (.ineg, 1) := by decide +kernel
theorem dX5_turned_8 : decode cX5_turned 8 = .ok (.goto 15, 3) := by decide +kernel
theorem dX5_turned_11 : decode cX5_turned 11 = .ok (.iload_n 1, 1) := by decide +kernel
theorem dX5_turned_12 : decode cX5_turned 12 = .ok (.ifCond .ne 7, 3) := by decide +kernel
theorem dX5_turned_15 : decode cX5_turned 15 = .ok (.iconst 1, 1) := by decide +kernel
theorem dX5_turned_16 : decode cX5_turned 16 = .ok (.goto 4, 3) := by decide +kernel
theorem dX5_turned_19 : decode cX5_turned 19 = .ok (.iconst 0, 1) := by decide +kernel
theorem dX5_turned_20 : decode cX5_turned 20 = .ok (.invokestatic 83, 3) := by decide +kernel
theorem dX5_turned_23 : decode cX5_turned 23 = .ok (.ireturn, 1) := by decide +kernel
theorem dX5_joined_0 : decode cX5_joined 0 = .ok (.iload_n 0, 1) := by decide +kernel
theorem dX5_joined_1 : decode cX5_joined 1 = .ok (.tableswitch 179 11 23 #[67, 71, 75, 81, 87, 91, 95, 99, 111, 123, 137, 151, 165], 67) := by decide +kernel
theorem dX5_joined_68 : decode cX5_joined 68 = .ok (.iload_n 1, 1) := by decide +kernel
theorem dX5_joined_69 : decode cX5_joined 69 = .ok (.iload_n 2, 1) := by decide +kernel
theorem dX5_joined_70 : decode cX5_joined 70 = .ok (.iand, 1) := by decide +kernel
theorem dX5_joined_71 : decode cX5_joined 71 = .ok (.ireturn, 1) := by decide +kernel
theorem dX5_joined_72 : decode cX5_joined 72 = .ok (.iload_n 1, 1) := by decide +kernel
theorem dX5_joined_73 : decode cX5_joined 73 = .ok (.iload_n 2, 1) := by decide +kernel
theorem dX5_joined_74 : decode cX5_joined 74 = .ok (.ior, 1) := by decide +kernel
theorem dX5_joined_75 : decode cX5_joined 75 = .ok (.ireturn, 1) := by decide +kernel
theorem dX5_joined_76 : decode cX5_joined 76 = .ok (.iload_n 1, 1) := by decide +kernel
theorem dX5_joined_77 : decode cX5_joined 77 = .ok (.iload_n 2, 1) := by decide +kernel
theorem dX5_joined_78 : decode cX5_joined 78 = .ok (.invokestatic 95, 3) := by decide +kernel
theorem dX5_joined_81 : decode cX5_joined 81 = .ok (.ireturn, 1) := by decide +kernel
theorem dX5_joined_82 : decode cX5_joined 82 = .ok (.iload_n 1, 1) := by decide +kernel
theorem dX5_joined_83 : decode cX5_joined 83 = .ok (.iload_n 2, 1) := by decide +kernel
theorem dX5_joined_84 : decode cX5_joined 84 = .ok (.invokestatic 31, 3) := by decide +kernel
theorem dX5_joined_87 : decode cX5_joined 87 = .ok (.ireturn, 1) := by decide +kernel
theorem dX5_joined_88 : decode cX5_joined 88 = .ok (.iload_n 1, 1) := by decide +kernel
theorem dX5_joined_89 : decode cX5_joined 89 = .ok (.iload_n 2, 1) := by decide +kernel
theorem dX5_joined_90 : decode cX5_joined 90 = .ok (.iadd, 1) := by decide +kernel
theorem dX5_joined_91 : decode cX5_joined 91 = .ok (.ireturn, 1) := by decide +kernel
theorem dX5_joined_92 : decode cX5_joined 92 = .ok (.iload_n 1, 1) := by decide +kernel
theorem dX5_joined_93 : decode cX5_joined 93 = .ok (.iload_n 2, 1) := by decide +kernel
theorem dX5_joined_94 : decode cX5_joined 94 = .ok (.isub, 1) := by decide +kernel
theorem dX5_joined_95 : decode cX5_joined 95 = .ok (.ireturn, 1) := by decide +kernel
theorem dX5_joined_96 : decode cX5_joined 96 = .ok (.iload_n 1, 1) := by decide +kernel
theorem dX5_joined_97 : decode cX5_joined 97 = .ok (.iload_n 2, 1) := by decide +kernel
theorem dX5_joined_98 : decode cX5_joined 98 = .ok (.imul, 1) := by decide +kernel
theorem dX5_joined_99 : decode cX5_joined 99 = .ok (.ireturn, 1) := by decide +kernel
theorem dX5_joined_100 : decode cX5_joined 100 = .ok (.iload_n 2, 1) := by decide +kernel
theorem dX5_joined_101 : decode cX5_joined 101 = .ok (.ifCond .ne 7, 3) := by decide +kernel
theorem dX5_joined_104 : decode cX5_joined 104 = .ok (.iconst 0, 1) := by decide +kernel
theorem dX5_joined_105 : decode cX5_joined 105 = .ok (.goto 6, 3) := by decide +kernel
theorem dX5_joined_108 : decode cX5_joined 108 = .ok (.iload_n 1, 1) := by decide +kernel
theorem dX5_joined_109 : decode cX5_joined 109 = .ok (.iload_n 2, 1) := by decide +kernel
theorem dX5_joined_110 : decode cX5_joined 110 = .ok (.idiv, 1) := by decide +kernel
theorem dX5_joined_111 : decode cX5_joined 111 = .ok (.ireturn, 1) := by decide +kernel
theorem dX5_joined_112 : decode cX5_joined 112 = .ok (.iload_n 2, 1) := by decide +kernel
theorem dX5_joined_113 : decode cX5_joined 113 = .ok (.ifCond .ne 7, 3) := by decide +kernel
theorem dX5_joined_116 : decode cX5_joined 116 = .ok (.iconst 0, 1) := by decide +kernel
theorem dX5_joined_117 : decode cX5_joined 117 = .ok (.goto 6, 3) := by decide +kernel
theorem dX5_joined_120 : decode cX5_joined 120 = .ok (.iload_n 1, 1) := by decide +kernel
theorem dX5_joined_121 : decode cX5_joined 121 = .ok (.iload_n 2, 1) := by decide +kernel
theorem dX5_joined_122 : decode cX5_joined 122 = .ok (.irem, 1) := by decide +kernel
theorem dX5_joined_123 : decode cX5_joined 123 = .ok (.ireturn, 1) := by decide +kernel
theorem dX5_joined_124 : decode cX5_joined 124 = .ok (.iload_n 1, 1) := by decide +kernel
theorem dX5_joined_125 : decode cX5_joined 125 = .ok (.iload_n 2, 1) := by decide +kernel
theorem dX5_joined_126 : decode cX5_joined 126 = .ok (.if_icmp .ge 7, 3) := by decide +kernel
theorem dX5_joined_129 : decode cX5_joined 129 = .ok (.iconst 1, 1) := by decide +kernel
theorem dX5_joined_130 : decode cX5_joined 130 = .ok (.goto 4, 3) := by decide +kernel
theorem dX5_joined_133 : decode cX5_joined 133 = .ok (.iconst 0, 1) := by decide +kernel
theorem dX5_joined_134 : decode cX5_joined 134 = .ok (.invokestatic 83, 3) := by decide +kernel
theorem dX5_joined_137 : decode cX5_joined 137 = .ok (.ireturn, 1) := by decide +kernel
theorem dX5_joined_138 : decode cX5_joined 138 = .ok (.iload_n 1, 1) := by decide +kernel
theorem dX5_joined_139 : decode cX5_joined 139 = .ok (.iload_n 2, 1) := by decide +kernel
theorem dX5_joined_140 : decode cX5_joined 140 = .ok (.if_icmp .le 7, 3) := by decide +kernel
theorem dX5_joined_143 : decode cX5_joined 143 = .ok (.iconst 1, 1) := by decide +kernel
theorem dX5_joined_144 : decode cX5_joined 144 = .ok (.goto 4, 3) := by decide +kernel
theorem dX5_joined_147 : decode cX5_joined 147 = .ok (.iconst 0, 1) := by decide +kernel
theorem dX5_joined_148 : decode cX5_joined 148 = .ok (.invokestatic 83, 3) := by decide +kernel
theorem dX5_joined_151 : decode cX5_joined 151 = .ok (.ireturn, 1) := by decide +kernel
theorem dX5_joined_152 : decode cX5_joined 152 = .ok (.iload_n 1, 1) := by decide +kernel
theorem dX5_joined_153 : decode cX5_joined 153 = .ok (.iload_n 2, 1) := by decide +kernel
theorem dX5_joined_154 : decode cX5_joined 154 = .ok (.if_icmp .ne 7, 3) := by decide +kernel
theorem dX5_joined_157 : decode cX5_joined 157 = .ok (.iconst 1, 1) := by decide +kernel
theorem dX5_joined_158 : decode cX5_joined 158 = .ok (.goto 4, 3) := by decide +kernel
theorem dX5_joined_161 : decode cX5_joined 161 = .ok (.iconst 0, 1) := by decide +kernel
theorem dX5_joined_162 : decode cX5_joined 162 = .ok (.invokestatic 83, 3) := by decide +kernel
theorem dX5_joined_165 : decode cX5_joined 165 = .ok (.ireturn, 1) := by decide +kernel
theorem dX5_joined_166 : decode cX5_joined 166 = .ok (.iload_n 1, 1) := by decide +kernel
theorem dX5_joined_167 : decode cX5_joined 167 = .ok (.iload_n 2, 1) := by decide +kernel
theorem dX5_joined_168 : decode cX5_joined 168 = .ok (.if_icmp .gt 7, 3) := by decide +kernel
theorem dX5_joined_171 : decode cX5_joined 171 = .ok (.iconst 1, 1) := by decide +kernel
theorem dX5_joined_172 : decode cX5_joined 172 = .ok (.goto 4, 3) := by decide +kernel
theorem dX5_joined_175 : decode cX5_joined 175 = .ok (.iconst 0, 1) := by decide +kernel
theorem dX5_joined_176 : decode cX5_joined 176 = .ok (.invokestatic 83, 3) := by decide +kernel
theorem dX5_joined_179 : decode cX5_joined 179 = .ok (.ireturn, 1) := by decide +kernel
theorem dX5_joined_180 : decode cX5_joined 180 = .ok (.iload_n 1, 1) := by decide +kernel
theorem dX5_joined_181 : decode cX5_joined 181 = .ok (.iload_n 2, 1) := by decide +kernel
theorem dX5_joined_182 : decode cX5_joined 182 = .ok (.if_icmp .lt 7, 3) := by decide +kernel
theorem dX5_joined_185 : decode cX5_joined 185 = .ok (.iconst 1, 1) := by decide +kernel
theorem dX5_joined_186 : decode cX5_joined 186 = .ok (.goto 4, 3) := by decide +kernel
theorem dX5_joined_189 : decode cX5_joined 189 = .ok (.iconst 0, 1) := by decide +kernel
theorem dX5_joined_190 : decode cX5_joined 190 = .ok (.invokestatic 83, 3) := by decide +kernel
theorem dX5_joined_193 : decode cX5_joined 193 = .ok (.ireturn, 1) := by decide +kernel
theorem dX5_truth_0 : decode cX5_truth 0 = .ok (.iload_n 0, 1) := by decide +kernel
theorem dX5_truth_1 : decode cX5_truth 1 = .ok (.ifCond .eq 7, 3) := by decide +kernel
theorem dX5_truth_4 : decode cX5_truth 4 = .ok (.iconst 1, 1) := by decide +kernel
theorem dX5_truth_5 : decode cX5_truth 5 = .ok (.goto 4, 3) := by decide +kernel
theorem dX5_truth_8 : decode cX5_truth 8 = .ok (.iconst 0, 1) := by decide +kernel
theorem dX5_truth_9 : decode cX5_truth 9 = .ok (.ireturn, 1) := by decide +kernel
theorem dX6_init_0 : decode cX6_init 0 = .ok (.aload_n 0, 1) := by decide +kernel
theorem dX6_init_1 : decode cX6_init 1 = .ok (.invokespecial 1, 3) := by decide +kernel
theorem dX6_init_4 : decode cX6_init 4 = .ok (.aload_n 0, 1) := by decide +kernel
theorem dX6_init_5 : decode cX6_init 5 = .ok (.new 7, 3) := by decide +kernel
theorem dX6_init_8 : decode cX6_init 8 = .ok (.dup, 1) := by decide +kernel
theorem dX6_init_9 : decode cX6_init 9 = .ok (.invokespecial 9, 3) := by decide +kernel
theorem dX6_init_12 : decode cX6_init 12 = .ok (.putfield 10, 3) := by decide +kernel
theorem dX6_init_15 : decode cX6_init 15 = .ok (.aload_n 0, 1) := by decide +kernel
theorem dX6_init_16 : decode cX6_init 16 = .ok (.new 16, 3) := by decide +kernel
theorem dX6_init_19 : decode cX6_init 19 = .ok (.dup, 1) := by decide +kernel
theorem dX6_init_20 : decode cX6_init 20 = .ok (.aload_n 1, 1) := by decide +kernel
theorem dX6_init_21 : decode cX6_init 21 = .ok (.invokespecial 18, 3) := by decide +kernel
theorem dX6_init_24 : decode cX6_init 24 = .ok (.putfield 21, 3) := by decide +kernel
theorem dX6_init_27 : decode cX6_init 27 = .ok (.aload_n 0, 1) := by decide +kernel
theorem dX6_init_28 : decode cX6_init 28 = .ok (.aload_n 2, 1) := by decide +kernel
theorem dX6_init_29 : decode cX6_init 29 = .ok (.putfield 25, 3) := by decide +kernel
theorem dX6_init_32 : decode cX6_init 32 = .ok (.return_, 1) := by decide +kernel
theorem dX6_placeOfError_0 : decode cX6_placeOfError 0 = .ok (.aload_n 0, 1) := by decide +kernel
theorem dX6_placeOfError_1 : decode cX6_placeOfError 1 = .ok (.getfield 29, 3) := by decide +kernel
theorem dX6_placeOfError_4 : decode cX6_placeOfError 4 = .ok (.ireturn, 1) := by decide +kernel
theorem dX6_readInto_0 : decode cX6_readInto 0 = .ok (.aload_n 0, 1) := by decide +kernel
theorem dX6_readInto_1 : decode cX6_readInto 1 = .ok (.aload_n 1, 1) := by decide +kernel
theorem dX6_readInto_2 : decode cX6_readInto 2 = .ok (.putfield 25, 3) := by decide +kernel
theorem dX6_readInto_5 : decode cX6_readInto 5 = .ok (.aload_n 0, 1) := by decide +kernel
theorem dX6_readInto_6 : decode cX6_readInto 6 = .ok (.getfield 25, 3) := by decide +kernel
theorem dX6_readInto_9 : decode cX6_readInto 9 = .ok (.invokevirtual 33, 3) := by decide +kernel
theorem dX6_readInto_12 : decode cX6_readInto 12 = .ok (.aload_n 0, 1) := by decide +kernel
theorem dX6_readInto_13 : decode cX6_readInto 13 = .ok (.getfield 21, 3) := by decide +kernel
theorem dX6_readInto_16 : decode cX6_readInto 16 = .ok (.invokevirtual 38, 3) := by decide +kernel
theorem dX6_readInto_19 : decode cX6_readInto 19 = .ok (.aload_n 0, 1) := by decide +kernel
theorem dX6_readInto_20 : decode cX6_readInto 20 = .ok (.iconst 0, 1) := by decide +kernel
theorem dX6_readInto_21 : decode cX6_readInto 21 = .ok (.putfield 41, 3) := by decide +kernel
theorem dX6_readInto_24 : decode cX6_readInto 24 = .ok (.aload_n 0, 1) := by decide +kernel
theorem dX6_readInto_25 : decode cX6_readInto 25 = .ok (.iconst (-1), 1) := by decide +kernel
theorem dX6_readInto_26 : decode cX6_readInto 26 = .ok (.putfield 29, 3) := by decide +kernel
theorem dX6_readInto_29 : decode cX6_readInto 29 = .ok (.iconst 1, 1) := by decide +kernel
theorem dX6_readInto_30 : decode cX6_readInto 30 = .ok (.istore_n 2, 1) := by decide +kernel
theorem dX6_readInto_31 : decode cX6_readInto 31 = .ok (.iconst 0, 1) := by decide +kernel
theorem dX6_readInto_32 : decode cX6_readInto 32 = .ok (.istore_n 3, 1) := by decide +kernel
theorem dX6_readInto_33 : decode cX6_readInto 33 = .ok (.iload_n 3, 1) := by decide +kernel
theorem dX6_readInto_34 : decode cX6_readInto 34 = .ok (.sipush 400, 3) := by decide +kernel
theorem dX6_readInto_37 : decode cX6_readInto 37 = .ok (.if_icmp .ge 94, 3) := by decide +kernel
theorem dX6_readInto_40 : decode cX6_readInto 40 = .ok (.iload_n 2, 1) := by decide +kernel
theorem dX6_readInto_41 : decode cX6_readInto 41 = .ok (.ifCond .eq 90, 3) := by decide +kernel
theorem dX6_readInto_44 : decode cX6_readInto 44 = .ok (.aload_n 0, 1) := by decide +kernel
theorem dX6_readInto_45 : decode cX6_readInto 45 = .ok (.getfield 21, 3) := by decide +kernel
theorem dX6_readInto_48 : decode cX6_readInto 48 = .ok (.getstatic 44, 3) := by decide +kernel
theorem dX6_readInto_51 : decode cX6_readInto 51 = .ok (.invokevirtual 50, 3) := by decide +kernel
theorem dX6_readInto_54 : decode cX6_readInto 54 = .ok (.ifCond .ne 77, 3) := by decide +kernel
theorem dX6_readInto_57 : decode cX6_readInto 57 = .ok (.aload_n 0, 1) := by decide +kernel
theorem dX6_readInto_58 : decode cX6_readInto 58 = .ok (.getfield 21, 3) := by decide +kernel
theorem dX6_readInto_61 : decode cX6_readInto 61 = .ok (.getstatic 54, 3) := by decide +kernel
theorem dX6_readInto_64 : decode cX6_readInto 64 = .ok (.invokevirtual 50, 3) := by decide +kernel
theorem dX6_readInto_67 : decode cX6_readInto 67 = .ok (.ifCond .eq 11, 3) := by decide +kernel
theorem dX6_readInto_70 : decode cX6_readInto 70 = .ok (.aload_n 0, 1) := by decide +kernel
theorem dX6_readInto_71 : decode cX6_readInto 71 = .ok (.invokevirtual 57, 3) := by decide +kernel
theorem dX6_readInto_74 : decode cX6_readInto 74 = .ok (.istore_n 2, 1) := by decide +kernel
theorem dX6_readInto_75 : decode cX6_readInto 75 = .ok (.goto 50, 3) := by decide +kernel
theorem dX6_readInto_78 : decode cX6_readInto 78 = .ok (.aload_n 0, 1) := by decide +kernel
theorem dX6_readInto_79 : decode cX6_readInto 79 = .ok (.getfield 21, 3) := by decide +kernel
theorem dX6_readInto_82 : decode cX6_readInto 82 = .ok (.getstatic 61, 3) := by decide +kernel
theorem dX6_readInto_85 : decode cX6_readInto 85 = .ok (.invokevirtual 50, 3) := by decide +kernel
theorem dX6_readInto_88 : decode cX6_readInto 88 = .ok (.ifCond .eq 11, 3) := by decide +kernel
theorem dX6_readInto_91 : decode cX6_readInto 91 = .ok (.aload_n 0, 1) := by decide +kernel
theorem dX6_readInto_92 : decode cX6_readInto 92 = .ok (.invokevirtual 64, 3) := by decide +kernel
theorem dX6_readInto_95 : decode cX6_readInto 95 = .ok (.istore_n 2, 1) := by decide +kernel
theorem dX6_readInto_96 : decode cX6_readInto 96 = .ok (.goto 29, 3) := by decide +kernel
theorem dX6_readInto_99 : decode cX6_readInto 99 = .ok (.aload_n 0, 1) := by decide +kernel
theorem dX6_readInto_100 : decode cX6_readInto 100 = .ok (.getfield 21, 3) := by decide +kernel
theorem dX6_readInto_103 : decode cX6_readInto 103 = .ok (.getstatic 67, 3) := by decide +kernel
theorem dX6_readInto_106 : decode cX6_readInto 106 = .ok (.invokevirtual 50, 3) := by decide +kernel
theorem dX6_readInto_109 : decode cX6_readInto 109 = .ok (.ifCond .eq 14, 3) := by decide +kernel
theorem dX6_readInto_112 : decode cX6_readInto 112 = .ok (.aload_n 0, 1) := by decide +kernel
theorem dX6_readInto_113 : decode cX6_readInto 113 = .ok (.invokevirtual 70, 3) := by decide +kernel
theorem dX6_readInto_116 : decode cX6_readInto 116 = .ok (.ifCond .eq 7, 3) := by decide +kernel
theorem dX6_readInto_119 : decode cX6_readInto 119 = .ok (.iconst 1, 1) := by decide +kernel
theorem dX6_readInto_120 : decode cX6_readInto 120 = .ok (.goto 4, 3) := by decide +kernel
theorem dX6_readInto_123 : decode cX6_readInto 123 = .ok (.iconst 0, 1) := by decide +kernel
theorem dX6_readInto_124 : decode cX6_readInto 124 = .ok (.istore_n 2, 1) := by decide +kernel
theorem dX6_readInto_125 : decode cX6_readInto 125 = .ok (.iinc 3 1, 3) := by decide +kernel
theorem dX6_readInto_128 : decode cX6_readInto 128 = .ok (.goto (-95), 3) := by decide +kernel
theorem dX6_readInto_131 : decode cX6_readInto 131 = .ok (.iload_n 2, 1) := by decide +kernel
theorem dX6_readInto_132 : decode cX6_readInto 132 = .ok (.ifCond .eq 16, 3) := by decide +kernel
theorem dX6_readInto_135 : decode cX6_readInto 135 = .ok (.aload_n 0, 1) := by decide +kernel
theorem dX6_readInto_136 : decode cX6_readInto 136 = .ok (.getfield 21, 3) := by decide +kernel
theorem dX6_readInto_139 : decode cX6_readInto 139 = .ok (.getstatic 44, 3) := by decide +kernel
theorem dX6_readInto_142 : decode cX6_readInto 142 = .ok (.invokevirtual 50, 3) := by decide +kernel
theorem dX6_readInto_145 : decode cX6_readInto 145 = .ok (.ifCond .ne 19, 3) := by decide +kernel
theorem dX6_readInto_148 : decode cX6_readInto 148 = .ok (.aload_n 0, 1) := by decide +kernel
theorem dX6_readInto_149 : decode cX6_readInto 149 = .ok (.iconst 1, 1) := by decide +kernel
theorem dX6_readInto_150 : decode cX6_readInto 150 = .ok (.putfield 41, 3) := by decide +kernel
theorem dX6_readInto_153 : decode cX6_readInto 153 = .ok (.aload_n 0, 1) := by decide +kernel
theorem dX6_readInto_154 : decode cX6_readInto 154 = .ok (.aload_n 0, 1) := by decide +kernel
theorem dX6_readInto_155 : decode cX6_readInto 155 = .ok (.getfield 21, 3) := by decide +kernel
theorem dX6_readInto_158 : decode cX6_readInto 158 = .ok (.invokevirtual 73, 3) := by decide +kernel
theorem dX6_readInto_161 : decode cX6_readInto 161 = .ok (.putfield 29, 3) := by decide +kernel
theorem dX6_readInto_164 : decode cX6_readInto 164 = .ok (.aload_n 0, 1) := by decide +kernel
theorem dX6_readInto_165 : decode cX6_readInto 165 = .ok (.getfield 41, 3) := by decide +kernel
theorem dX6_readInto_168 : decode cX6_readInto 168 = .ok (.ireturn, 1) := by decide +kernel
theorem dX6_blame_0 : decode cX6_blame 0 = .ok (.aload_n 0, 1) := by decide +kernel
theorem dX6_blame_1 : decode cX6_blame 1 = .ok (.getfield 41, 3) := by decide +kernel
theorem dX6_blame_4 : decode cX6_blame 4 = .ok (.ifCond .ne 13, 3) := by decide +kernel
theorem dX6_blame_7 : decode cX6_blame 7 = .ok (.aload_n 0, 1) := by decide +kernel
theorem dX6_blame_8 : decode cX6_blame 8 = .ok (.iload_n 1, 1) := by decide +kernel
theorem dX6_blame_9 : decode cX6_blame 9 = .ok (.putfield 41, 3) := by decide +kernel
theorem dX6_blame_12 : decode cX6_blame 12 = .ok (.aload_n 0, 1) := by decide +kernel
theorem dX6_blame_13 : decode cX6_blame 13 = .ok (.iload_n 2, 1) := by decide +kernel
theorem dX6_blame_14 : decode cX6_blame 14 = .ok (.putfield 29, 3) := by decide +kernel
theorem dX6_blame_17 : decode cX6_blame 17 = .ok (.return_, 1) := by decide +kernel
theorem dX6_takeDeeper_0 : decode cX6_takeDeeper 0 = .ok (.iload_n 2, 1) := by decide +kernel
theorem dX6_takeDeeper_1 : decode cX6_takeDeeper 1 = .ok (.bipush 8, 2) := by decide +kernel
theorem dX6_takeDeeper_3 : decode cX6_takeDeeper 3 = .ok (.if_icmp .ge 18, 3) := by decide +kernel
theorem dX6_takeDeeper_6 : decode cX6_takeDeeper 6 = .ok (.aload_n 0, 1) := by decide +kernel
theorem dX6_takeDeeper_7 : decode cX6_takeDeeper 7 = .ok (.getfield 21, 3) := by decide +kernel
theorem dX6_takeDeeper_10 : decode cX6_takeDeeper 10 = .ok (.aload_n 1, 1) := by decide +kernel
theorem dX6_takeDeeper_11 : decode cX6_takeDeeper 11 = .ok (.invokevirtual 77, 3) := by decide +kernel
theorem dX6_takeDeeper_14 : decode cX6_takeDeeper 14 = .ok (.ifCond .eq 7, 3) := by decide +kernel
theorem dX6_takeDeeper_17 : decode cX6_takeDeeper 17 = .ok (.iconst 1, 1) := by decide +kernel
theorem dX6_takeDeeper_18 : decode cX6_takeDeeper 18 = .ok (.goto 4, 3) := by decide +kernel
theorem dX6_takeDeeper_21 : decode cX6_takeDeeper 21 = .ok (.iconst 0, 1) := by decide +kernel
theorem dX6_takeDeeper_22 : decode cX6_takeDeeper 22 = .ok (.ireturn, 1) := by decide +kernel
theorem dX6_write_0 : decode cX6_write 0 = .ok (.aload_n 0, 1) := by decide +kernel
theorem dX6_write_1 : decode cX6_write 1 = .ok (.getfield 25, 3) := by decide +kernel
theorem dX6_write_4 : decode cX6_write 4 = .ok (.invokevirtual 80, 3) := by decide +kernel
theorem dX6_write_7 : decode cX6_write 7 = .ok (.iload_n 1, 1) := by decide +kernel
theorem dX6_write_8 : decode cX6_write 8 = .ok (.iload_n 2, 1) := by decide +kernel
theorem dX6_write_9 : decode cX6_write 9 = .ok (.iload_n 3, 1) := by decide +kernel
theorem dX6_write_10 : decode cX6_write 10 = .ok (.invokevirtual 84, 3) := by decide +kernel
theorem dX6_write_13 : decode cX6_write 13 = .ok (.iconst 1, 1) := by decide +kernel
theorem dX6_write_14 : decode cX6_write 14 = .ok (.ireturn, 1) := by decide +kernel
theorem dX6_readPlanet_0 : decode cX6_readPlanet 0 = .ok (.aload_n 0, 1) := by decide +kernel
theorem dX6_readPlanet_1 : decode cX6_readPlanet 1 = .ok (.getfield 21, 3) := by decide +kernel
theorem dX6_readPlanet_4 : decode cX6_readPlanet 4 = .ok (.getstatic 54, 3) := by decide +kernel
theorem dX6_readPlanet_7 : decode cX6_readPlanet 7 = .ok (.invokevirtual 77, 3) := by decide +kernel
theorem dX6_readPlanet_10 : decode cX6_readPlanet 10 = .ok (.ifCond .eq 16, 3) := by decide +kernel
theorem dX6_readPlanet_13 : decode cX6_readPlanet 13 = .ok (.aload_n 0, 1) := by decide +kernel
theorem dX6_readPlanet_14 : decode cX6_readPlanet 14 = .ok (.getfield 21, 3) := by decide +kernel
theorem dX6_readPlanet_17 : decode cX6_readPlanet 17 = .ok (.getstatic 90, 3) := by decide +kernel
theorem dX6_readPlanet_20 : decode cX6_readPlanet 20 = .ok (.invokevirtual 50, 3) := by decide +kernel
theorem dX6_readPlanet_23 : decode cX6_readPlanet 23 = .ok (.ifCond .ne 5, 3) := by decide +kernel
theorem dX6_readPlanet_26 : decode cX6_readPlanet 26 = .ok (.iconst 0, 1) := by decide +kernel
theorem dX6_readPlanet_27 : decode cX6_readPlanet 27 = .ok (.ireturn, 1) := by decide +kernel
theorem dX6_readPlanet_28 : decode cX6_readPlanet 28 = .ok (.aload_n 0, 1) := by decide +kernel
theorem dX6_readPlanet_29 : decode cX6_readPlanet 29 = .ok (.getfield 21, 3) := by decide +kernel
theorem dX6_readPlanet_32 : decode cX6_readPlanet 32 = .ok (.invokevirtual 93, 3) := by decide +kernel
theorem dX6_readPlanet_35 : decode cX6_readPlanet 35 = .ok (.lstore_n 1, 1) := by decide +kernel
theorem dX6_readPlanet_36 : decode cX6_readPlanet 36 = .ok (.aload_n 0, 1) := by decide +kernel
theorem dX6_readPlanet_37 : decode cX6_readPlanet 37 = .ok (.aload_n 0, 1) := by decide +kernel
theorem dX6_readPlanet_38 : decode cX6_readPlanet 38 = .ok (.getfield 25, 3) := by decide +kernel
theorem dX6_readPlanet_41 : decode cX6_readPlanet 41 = .ok (.lload_n 1, 1) := by decide +kernel
theorem dX6_readPlanet_42 : decode cX6_readPlanet 42 = .ok (.invokevirtual 97, 3) := by decide +kernel
theorem dX6_readPlanet_45 : decode cX6_readPlanet 45 = .ok (.aload_n 0, 1) := by decide +kernel
theorem dX6_readPlanet_46 : decode cX6_readPlanet 46 = .ok (.getfield 25, 3) := by decide +kernel
theorem dX6_readPlanet_49 : decode cX6_readPlanet 49 = .ok (.invokevirtual 101, 3) := by decide +kernel
theorem dX6_readPlanet_52 : decode cX6_readPlanet 52 = .ok (.bipush 8, 2) := by decide +kernel
theorem dX6_readPlanet_54 : decode cX6_readPlanet 54 = .ok (.if_icmp .ge 7, 3) := by decide +kernel
theorem dX6_readPlanet_57 : decode cX6_readPlanet 57 = .ok (.iconst 1, 1) := by decide +kernel
theorem dX6_readPlanet_58 : decode cX6_readPlanet 58 = .ok (.goto 4, 3) := by decide +kernel
theorem dX6_readPlanet_61 : decode cX6_readPlanet 61 = .ok (.iconst 0, 1) := by decide +kernel
theorem dX6_readPlanet_62 : decode cX6_readPlanet 62 = .ok (.invokevirtual 104, 3) := by decide +kernel
theorem dX6_readPlanet_65 : decode cX6_readPlanet 65 = .ok (.aload_n 0, 1) := by decide +kernel
theorem dX6_readPlanet_66 : decode cX6_readPlanet 66 = .ok (.getfield 21, 3) := by decide +kernel
theorem dX6_readPlanet_69 : decode cX6_readPlanet 69 = .ok (.getstatic 90, 3) := by decide +kernel
theorem dX6_readPlanet_72 : decode cX6_readPlanet 72 = .ok (.invokevirtual 77, 3) := by decide +kernel
theorem dX6_readPlanet_75 : decode cX6_readPlanet 75 = .ok (.ifCond .eq 26, 3) := by decide +kernel
theorem dX6_readPlanet_78 : decode cX6_readPlanet 78 = .ok (.aload_n 0, 1) := by decide +kernel
theorem dX6_readPlanet_79 : decode cX6_readPlanet 79 = .ok (.getfield 21, 3) := by decide +kernel
theorem dX6_readPlanet_82 : decode cX6_readPlanet 82 = .ok (.getstatic 108, 3) := by decide +kernel
theorem dX6_readPlanet_85 : decode cX6_readPlanet 85 = .ok (.invokevirtual 77, 3) := by decide +kernel
theorem dX6_readPlanet_88 : decode cX6_readPlanet 88 = .ok (.ifCond .eq 13, 3) := by decide +kernel
theorem dX6_readPlanet_91 : decode cX6_readPlanet 91 = .ok (.aload_n 0, 1) := by decide +kernel
theorem dX6_readPlanet_92 : decode cX6_readPlanet 92 = .ok (.iconst 1, 1) := by decide +kernel
theorem dX6_readPlanet_93 : decode cX6_readPlanet 93 = .ok (.bipush 20, 2) := by decide +kernel
theorem dX6_readPlanet_95 : decode cX6_readPlanet 95 = .ok (.invokevirtual 111, 3) := by decide +kernel
theorem dX6_readPlanet_98 : decode cX6_readPlanet 98 = .ok (.ifCond .ne 5, 3) := by decide +kernel
theorem dX6_readPlanet_101 : decode cX6_readPlanet 101 = .ok (.iconst 0, 1) := by decide +kernel
theorem dX6_readPlanet_102 : decode cX6_readPlanet 102 = .ok (.ireturn, 1) := by decide +kernel
theorem dX6_readPlanet_103 : decode cX6_readPlanet 103 = .ok (.aload_n 0, 1) := by decide +kernel
theorem dX6_readPlanet_104 : decode cX6_readPlanet 104 = .ok (.getfield 115, 3) := by decide +kernel
theorem dX6_readPlanet_107 : decode cX6_readPlanet 107 = .ok (.istore_n 3, 1) := by decide +kernel
theorem dX6_readPlanet_108 : decode cX6_readPlanet 108 = .ok (.aload_n 0, 1) := by decide +kernel
theorem dX6_readPlanet_109 : decode cX6_readPlanet 109 = .ok (.getfield 21, 3) := by decide +kernel
theorem dX6_readPlanet_112 : decode cX6_readPlanet 112 = .ok (.getstatic 118, 3) := by decide +kernel
theorem dX6_readPlanet_115 : decode cX6_readPlanet 115 = .ok (.invokevirtual 77, 3) := by decide +kernel
theorem dX6_readPlanet_118 : decode cX6_readPlanet 118 = .ok (.ifCond .eq 13, 3) := by decide +kernel
theorem dX6_readPlanet_121 : decode cX6_readPlanet 121 = .ok (.aload_n 0, 1) := by decide +kernel
theorem dX6_readPlanet_122 : decode cX6_readPlanet 122 = .ok (.iconst 1, 1) := by decide +kernel
theorem dX6_readPlanet_123 : decode cX6_readPlanet 123 = .ok (.bipush 60, 2) := by decide +kernel
theorem dX6_readPlanet_125 : decode cX6_readPlanet 125 = .ok (.invokevirtual 111, 3) := by decide +kernel
theorem dX6_readPlanet_128 : decode cX6_readPlanet 128 = .ok (.ifCond .ne 5, 3) := by decide +kernel
theorem dX6_readPlanet_131 : decode cX6_readPlanet 131 = .ok (.iconst 0, 1) := by decide +kernel
theorem dX6_readPlanet_132 : decode cX6_readPlanet 132 = .ok (.ireturn, 1) := by decide +kernel
theorem dX6_readPlanet_133 : decode cX6_readPlanet 133 = .ok (.aload_n 0, 1) := by decide +kernel
theorem dX6_readPlanet_134 : decode cX6_readPlanet 134 = .ok (.getfield 115, 3) := by decide +kernel
theorem dX6_readPlanet_137 : decode cX6_readPlanet 137 = .ok (.istore 4, 2) := by decide +kernel
theorem dX6_readPlanet_139 : decode cX6_readPlanet 139 = .ok (.iconst 0, 1) := by decide +kernel
theorem dX6_readPlanet_140 : decode cX6_readPlanet 140 = .ok (.istore 5, 2) := by decide +kernel
theorem dX6_readPlanet_142 : decode cX6_readPlanet 142 = .ok (.aload_n 0, 1) := by decide +kernel
theorem dX6_readPlanet_143 : decode cX6_readPlanet 143 = .ok (.getfield 21, 3) := by decide +kernel
theorem dX6_readPlanet_146 : decode cX6_readPlanet 146 = .ok (.getstatic 121, 3) := by decide +kernel
theorem dX6_readPlanet_149 : decode cX6_readPlanet 149 = .ok (.invokevirtual 50, 3) := by decide +kernel
theorem dX6_readPlanet_152 : decode cX6_readPlanet 152 = .ok (.ifCond .eq 35, 3) := by decide +kernel
theorem dX6_readPlanet_155 : decode cX6_readPlanet 155 = .ok (.aload_n 0, 1) := by decide +kernel
theorem dX6_readPlanet_156 : decode cX6_readPlanet 156 = .ok (.getfield 21, 3) := by decide +kernel
theorem dX6_readPlanet_159 : decode cX6_readPlanet 159 = .ok (.getstatic 121, 3) := by decide +kernel
theorem dX6_readPlanet_162 : decode cX6_readPlanet 162 = .ok (.invokevirtual 77, 3) := by decide +kernel
theorem dX6_readPlanet_165 : decode cX6_readPlanet 165 = .ok (.ifCond .eq 14, 3) := by decide +kernel
theorem dX6_readPlanet_168 : decode cX6_readPlanet 168 = .ok (.aload_n 0, 1) := by decide +kernel
theorem dX6_readPlanet_169 : decode cX6_readPlanet 169 = .ok (.iconst 0, 1) := by decide +kernel
theorem dX6_readPlanet_170 : decode cX6_readPlanet 170 = .ok (.sipush 359, 3) := by decide +kernel
theorem dX6_readPlanet_173 : decode cX6_readPlanet 173 = .ok (.invokevirtual 111, 3) := by decide +kernel
theorem dX6_readPlanet_176 : decode cX6_readPlanet 176 = .ok (.ifCond .ne 5, 3) := by decide +kernel
theorem dX6_readPlanet_179 : decode cX6_readPlanet 179 = .ok (.iconst 0, 1) := by decide +kernel
theorem dX6_readPlanet_180 : decode cX6_readPlanet 180 = .ok (.ireturn, 1) := by decide +kernel
theorem dX6_readPlanet_181 : decode cX6_readPlanet 181 = .ok (.aload_n 0, 1) := by decide +kernel
theorem dX6_readPlanet_182 : decode cX6_readPlanet 182 = .ok (.getfield 115, 3) := by decide +kernel
theorem dX6_readPlanet_185 : decode cX6_readPlanet 185 = .ok (.istore 5, 2) := by decide +kernel
theorem dX6_readPlanet_187 : decode cX6_readPlanet 187 = .ok (.iconst 0, 1) := by decide +kernel
theorem dX6_readPlanet_188 : decode cX6_readPlanet 188 = .ok (.istore 6, 2) := by decide +kernel
theorem dX6_readPlanet_190 : decode cX6_readPlanet 190 = .ok (.iconst 1, 1) := by decide +kernel
theorem dX6_readPlanet_191 : decode cX6_readPlanet 191 = .ok (.istore 7, 2) := by decide +kernel
theorem dX6_readPlanet_193 : decode cX6_readPlanet 193 = .ok (.aload_n 0, 1) := by decide +kernel
theorem dX6_readPlanet_194 : decode cX6_readPlanet 194 = .ok (.getfield 21, 3) := by decide +kernel
theorem dX6_readPlanet_197 : decode cX6_readPlanet 197 = .ok (.getstatic 126, 3) := by decide +kernel
theorem dX6_readPlanet_200 : decode cX6_readPlanet 200 = .ok (.invokevirtual 50, 3) := by decide +kernel
theorem dX6_readPlanet_203 : decode cX6_readPlanet 203 = .ok (.ifCond .eq 68, 3) := by decide +kernel
theorem dX6_readPlanet_206 : decode cX6_readPlanet 206 = .ok (.aload_n 0, 1) := by decide +kernel
theorem dX6_readPlanet_207 : decode cX6_readPlanet 207 = .ok (.getfield 21, 3) := by decide +kernel
theorem dX6_readPlanet_210 : decode cX6_readPlanet 210 = .ok (.getstatic 126, 3) := by decide +kernel
theorem dX6_readPlanet_213 : decode cX6_readPlanet 213 = .ok (.invokevirtual 77, 3) := by decide +kernel
theorem dX6_readPlanet_216 : decode cX6_readPlanet 216 = .ok (.ifCond .eq 13, 3) := by decide +kernel
theorem dX6_readPlanet_219 : decode cX6_readPlanet 219 = .ok (.aload_n 0, 1) := by decide +kernel
theorem dX6_readPlanet_220 : decode cX6_readPlanet 220 = .ok (.iconst 0, 1) := by decide +kernel
theorem dX6_readPlanet_221 : decode cX6_readPlanet 221 = .ok (.bipush 29, 2) := by decide +kernel
theorem dX6_readPlanet_223 : decode cX6_readPlanet 223 = .ok (.invokevirtual 111, 3) := by decide +kernel
theorem dX6_readPlanet_226 : decode cX6_readPlanet 226 = .ok (.ifCond .ne 5, 3) := by decide +kernel
theorem dX6_readPlanet_229 : decode cX6_readPlanet 229 = .ok (.iconst 0, 1) := by decide +kernel
theorem dX6_readPlanet_230 : decode cX6_readPlanet 230 = .ok (.ireturn, 1) := by decide +kernel
theorem dX6_readPlanet_231 : decode cX6_readPlanet 231 = .ok (.aload_n 0, 1) := by decide +kernel
theorem dX6_readPlanet_232 : decode cX6_readPlanet 232 = .ok (.getfield 115, 3) := by decide +kernel
theorem dX6_readPlanet_235 : decode cX6_readPlanet 235 = .ok (.istore 6, 2) := by decide +kernel
theorem dX6_readPlanet_237 : decode cX6_readPlanet 237 = .ok (.aload_n 0, 1) := by decide +kernel
theorem dX6_readPlanet_238 : decode cX6_readPlanet 238 = .ok (.getfield 21, 3) := by decide +kernel
theorem dX6_readPlanet_241 : decode cX6_readPlanet 241 = .ok (.getstatic 129, 3) := by decide +kernel
theorem dX6_readPlanet_244 : decode cX6_readPlanet 244 = .ok (.invokevirtual 77, 3) := by decide +kernel
theorem dX6_readPlanet_247 : decode cX6_readPlanet 247 = .ok (.ifCond .eq 16, 3) := by decide +kernel
theorem dX6_readPlanet_250 : decode cX6_readPlanet 250 = .ok (.aload_n 0, 1) := by decide +kernel
theorem dX6_readPlanet_251 : decode cX6_readPlanet 251 = .ok (.iload 6, 2) := by decide +kernel
theorem dX6_readPlanet_253 : decode cX6_readPlanet 253 = .ok (.iconst 1, 1) := by decide +kernel
theorem dX6_readPlanet_254 : decode cX6_readPlanet 254 = .ok (.iadd, 1) := by decide +kernel
theorem dX6_readPlanet_255 : decode cX6_readPlanet 255 = .ok (.bipush 60, 2) := by decide +kernel
theorem dX6_readPlanet_257 : decode cX6_readPlanet 257 = .ok (.invokevirtual 111, 3) := by decide +kernel
theorem dX6_readPlanet_260 : decode cX6_readPlanet 260 = .ok (.ifCond .ne 5, 3) := by decide +kernel
theorem dX6_readPlanet_263 : decode cX6_readPlanet 263 = .ok (.iconst 0, 1) := by decide +kernel
theorem dX6_readPlanet_264 : decode cX6_readPlanet 264 = .ok (.ireturn, 1) := by decide +kernel
theorem dX6_readPlanet_265 : decode cX6_readPlanet 265 = .ok (.aload_n 0, 1) := by decide +kernel
theorem dX6_readPlanet_266 : decode cX6_readPlanet 266 = .ok (.getfield 115, 3) := by decide +kernel
theorem dX6_readPlanet_269 : decode cX6_readPlanet 269 = .ok (.istore 7, 2) := by decide +kernel
theorem dX6_readPlanet_271 : decode cX6_readPlanet 271 = .ok (.aload_n 0, 1) := by decide +kernel
theorem dX6_readPlanet_272 : decode cX6_readPlanet 272 = .ok (.getfield 25, 3) := by decide +kernel
theorem dX6_readPlanet_275 : decode cX6_readPlanet 275 = .ok (.lload_n 1, 1) := by decide +kernel
theorem dX6_readPlanet_276 : decode cX6_readPlanet 276 = .ok (.iload_n 3, 1) := by decide +kernel
theorem dX6_readPlanet_277 : decode cX6_readPlanet 277 = .ok (.iload 4, 2) := by decide +kernel
theorem dX6_readPlanet_279 : decode cX6_readPlanet 279 = .ok (.iload 5, 2) := by decide +kernel
theorem dX6_readPlanet_281 : decode cX6_readPlanet 281 = .ok (.iload 6, 2) := by decide +kernel
theorem dX6_readPlanet_283 : decode cX6_readPlanet 283 = .ok (.iload 7, 2) := by decide +kernel
theorem dX6_readPlanet_285 : decode cX6_readPlanet 285 = .ok (.invokevirtual 132, 3) := by decide +kernel
theorem dX6_readPlanet_288 : decode cX6_readPlanet 288 = .ok (.aload_n 0, 1) := by decide +kernel
theorem dX6_readPlanet_289 : decode cX6_readPlanet 289 = .ok (.getfield 21, 3) := by decide +kernel
theorem dX6_readPlanet_292 : decode cX6_readPlanet 292 = .ok (.getstatic 136, 3) := by decide +kernel
theorem dX6_readPlanet_295 : decode cX6_readPlanet 295 = .ok (.invokevirtual 77, 3) := by decide +kernel
theorem dX6_readPlanet_298 : decode cX6_readPlanet 298 = .ok (.ireturn, 1) := by decide +kernel
theorem dX6_readAlphabet_0 : decode cX6_readAlphabet 0 = .ok (.aload_n 0, 1) := by decide +kernel
theorem dX6_readAlphabet_1 : decode cX6_readAlphabet 1 = .ok (.getfield 21, 3) := by decide +kernel
theorem dX6_readAlphabet_4 : decode cX6_readAlphabet 4 = .ok (.getstatic 61, 3) := by decide +kernel
theorem dX6_readAlphabet_7 : decode cX6_readAlphabet 7 = .ok (.invokevirtual 77, 3) := by decide +kernel
theorem dX6_readAlphabet_10 : decode cX6_readAlphabet 10 = .ok (.ifCond .eq 16, 3) := by decide +kernel
theorem dX6_readAlphabet_13 : decode cX6_readAlphabet 13 = .ok (.aload_n 0, 1) := by decide +kernel
theorem dX6_readAlphabet_14 : decode cX6_readAlphabet 14 = .ok (.getfield 21, 3) := by decide +kernel
theorem dX6_readAlphabet_17 : decode cX6_readAlphabet 17 = .ok (.getstatic 90, 3) := by decide +kernel
theorem dX6_readAlphabet_20 : decode cX6_readAlphabet 20 = .ok (.invokevirtual 50, 3) := by decide +kernel
theorem dX6_readAlphabet_23 : decode cX6_readAlphabet 23 = .ok (.ifCond .ne 5, 3) := by decide +kernel
theorem dX6_readAlphabet_26 : decode cX6_readAlphabet 26 = .ok (.iconst 0, 1) := by decide +kernel
theorem dX6_readAlphabet_27 : decode cX6_readAlphabet 27 = .ok (.ireturn, 1) := by decide +kernel
theorem dX6_readAlphabet_28 : decode cX6_readAlphabet 28 = .ok (.aload_n 0, 1) := by decide +kernel
theorem dX6_readAlphabet_29 : decode cX6_readAlphabet 29 = .ok (.getfield 21, 3) := by decide +kernel
theorem dX6_readAlphabet_32 : decode cX6_readAlphabet 32 = .ok (.invokevirtual 93, 3) := by decide +kernel
theorem dX6_readAlphabet_35 : decode cX6_readAlphabet 35 = .ok (.lstore_n 1, 1) := by decide +kernel
theorem dX6_readAlphabet_36 : decode cX6_readAlphabet 36 = .ok (.aload_n 0, 1) := by decide +kernel
theorem dX6_readAlphabet_37 : decode cX6_readAlphabet 37 = .ok (.aload_n 0, 1) := by decide +kernel
theorem dX6_readAlphabet_38 : decode cX6_readAlphabet 38 = .ok (.getfield 25, 3) := by decide +kernel
theorem dX6_readAlphabet_41 : decode cX6_readAlphabet 41 = .ok (.lload_n 1, 1) := by decide +kernel
theorem dX6_readAlphabet_42 : decode cX6_readAlphabet 42 = .ok (.invokevirtual 139, 3) := by decide +kernel
theorem dX6_readAlphabet_45 : decode cX6_readAlphabet 45 = .ok (.aload_n 0, 1) := by decide +kernel
theorem dX6_readAlphabet_46 : decode cX6_readAlphabet 46 = .ok (.getfield 25, 3) := by decide +kernel
theorem dX6_readAlphabet_49 : decode cX6_readAlphabet 49 = .ok (.invokevirtual 142, 3) := by decide +kernel
theorem dX6_readAlphabet_52 : decode cX6_readAlphabet 52 = .ok (.bipush 6, 2) := by decide +kernel
theorem dX6_readAlphabet_54 : decode cX6_readAlphabet 54 = .ok (.if_icmp .ge 7, 3) := by decide +kernel
theorem dX6_readAlphabet_57 : decode cX6_readAlphabet 57 = .ok (.iconst 1, 1) := by decide +kernel
theorem dX6_readAlphabet_58 : decode cX6_readAlphabet 58 = .ok (.goto 4, 3) := by decide +kernel
theorem dX6_readAlphabet_61 : decode cX6_readAlphabet 61 = .ok (.iconst 0, 1) := by decide +kernel
theorem dX6_readAlphabet_62 : decode cX6_readAlphabet 62 = .ok (.invokevirtual 104, 3) := by decide +kernel
theorem dX6_readAlphabet_65 : decode cX6_readAlphabet 65 = .ok (.aload_n 0, 1) := by decide +kernel
theorem dX6_readAlphabet_66 : decode cX6_readAlphabet 66 = .ok (.getfield 21, 3) := by decide +kernel
theorem dX6_readAlphabet_69 : decode cX6_readAlphabet 69 = .ok (.getstatic 90, 3) := by decide +kernel
theorem dX6_readAlphabet_72 : decode cX6_readAlphabet 72 = .ok (.invokevirtual 77, 3) := by decide +kernel
theorem dX6_readAlphabet_75 : decode cX6_readAlphabet 75 = .ok (.ifCond .eq 16, 3) := by decide +kernel
theorem dX6_readAlphabet_78 : decode cX6_readAlphabet 78 = .ok (.aload_n 0, 1) := by decide +kernel
theorem dX6_readAlphabet_79 : decode cX6_readAlphabet 79 = .ok (.getfield 21, 3) := by decide +kernel
theorem dX6_readAlphabet_82 : decode cX6_readAlphabet 82 = .ok (.getstatic 90, 3) := by decide +kernel
theorem dX6_readAlphabet_85 : decode cX6_readAlphabet 85 = .ok (.invokevirtual 50, 3) := by decide +kernel
theorem dX6_readAlphabet_88 : decode cX6_readAlphabet 88 = .ok (.ifCond .ne 5, 3) := by decide +kernel
theorem dX6_readAlphabet_91 : decode cX6_readAlphabet 91 = .ok (.iconst 0, 1) := by decide +kernel
theorem dX6_readAlphabet_92 : decode cX6_readAlphabet 92 = .ok (.ireturn, 1) := by decide +kernel
theorem dX6_readAlphabet_93 : decode cX6_readAlphabet 93 = .ok (.aload_n 0, 1) := by decide +kernel
theorem dX6_readAlphabet_94 : decode cX6_readAlphabet 94 = .ok (.invokevirtual 145, 3) := by decide +kernel
theorem dX6_readAlphabet_97 : decode cX6_readAlphabet 97 = .ok (.aload_n 0, 1) := by decide +kernel
theorem dX6_readAlphabet_98 : decode cX6_readAlphabet 98 = .ok (.getfield 25, 3) := by decide +kernel
theorem dX6_readAlphabet_101 : decode cX6_readAlphabet 101 = .ok (.lload_n 1, 1) := by decide +kernel
theorem dX6_readAlphabet_102 : decode cX6_readAlphabet 102 = .ok (.aload_n 0, 1) := by decide +kernel
theorem dX6_readAlphabet_103 : decode cX6_readAlphabet 103 = .ok (.getfield 10, 3) := by decide +kernel
theorem dX6_readAlphabet_106 : decode cX6_readAlphabet 106 = .ok (.invokevirtual 148, 3) := by decide +kernel
theorem dX6_readAlphabet_109 : decode cX6_readAlphabet 109 = .ok (.aload_n 0, 1) := by decide +kernel
theorem dX6_readAlphabet_110 : decode cX6_readAlphabet 110 = .ok (.getfield 21, 3) := by decide +kernel
theorem dX6_readAlphabet_113 : decode cX6_readAlphabet 113 = .ok (.getstatic 90, 3) := by decide +kernel
theorem dX6_readAlphabet_116 : decode cX6_readAlphabet 116 = .ok (.invokevirtual 77, 3) := by decide +kernel
theorem dX6_readAlphabet_119 : decode cX6_readAlphabet 119 = .ok (.ifCond .eq 20, 3) := by decide +kernel
theorem dX6_readAlphabet_122 : decode cX6_readAlphabet 122 = .ok (.aload_n 0, 1) := by decide +kernel
theorem dX6_readAlphabet_123 : decode cX6_readAlphabet 123 = .ok (.getfield 21, 3) := by decide +kernel
theorem dX6_readAlphabet_126 : decode cX6_readAlphabet 126 = .ok (.getstatic 136, 3) := by decide +kernel
theorem dX6_readAlphabet_129 : decode cX6_readAlphabet 129 = .ok (.invokevirtual 77, 3) := by decide +kernel
theorem dX6_readAlphabet_132 : decode cX6_readAlphabet 132 = .ok (.ifCond .eq 7, 3) := by decide +kernel
theorem dX6_readAlphabet_135 : decode cX6_readAlphabet 135 = .ok (.iconst 1, 1) := by decide +kernel
theorem dX6_readAlphabet_136 : decode cX6_readAlphabet 136 = .ok (.goto 4, 3) := by decide +kernel
theorem dX6_readAlphabet_139 : decode cX6_readAlphabet 139 = .ok (.iconst 0, 1) := by decide +kernel
theorem dX6_readAlphabet_140 : decode cX6_readAlphabet 140 = .ok (.ireturn, 1) := by decide +kernel
theorem dX6_readLetters_0 : decode cX6_readLetters 0 = .ok (.aload_n 0, 1) := by decide +kernel
theorem dX6_readLetters_1 : decode cX6_readLetters 1 = .ok (.getfield 10, 3) := by decide +kernel
theorem dX6_readLetters_4 : decode cX6_readLetters 4 = .ok (.invokevirtual 152, 3) := by decide +kernel
theorem dX6_readLetters_7 : decode cX6_readLetters 7 = .ok (.iconst 0, 1) := by decide +kernel
theorem dX6_readLetters_8 : decode cX6_readLetters 8 = .ok (.istore_n 1, 1) := by decide +kernel
theorem dX6_readLetters_9 : decode cX6_readLetters 9 = .ok (.iload_n 1, 1) := by decide +kernel
theorem dX6_readLetters_10 : decode cX6_readLetters 10 = .ok (.bipush 12, 2) := by decide +kernel
theorem dX6_readLetters_12 : decode cX6_readLetters 12 = .ok (.if_icmp .ge 68, 3) := by decide +kernel
theorem dX6_readLetters_15 : decode cX6_readLetters 15 = .ok (.iload_n 1, 1) := by decide +kernel
theorem dX6_readLetters_16 : decode cX6_readLetters 16 = .ok (.aload_n 0, 1) := by decide +kernel
theorem dX6_readLetters_17 : decode cX6_readLetters 17 = .ok (.getfield 21, 3) := by decide +kernel
theorem dX6_readLetters_20 : decode cX6_readLetters 20 = .ok (.invokevirtual 153, 3) := by decide +kernel
theorem dX6_readLetters_23 : decode cX6_readLetters 23 = .ok (.if_icmp .ge 57, 3) := by decide +kernel
theorem dX6_readLetters_26 : decode cX6_readLetters 26 = .ok (.aload_n 0, 1) := by decide +kernel
theorem dX6_readLetters_27 : decode cX6_readLetters 27 = .ok (.getfield 21, 3) := by decide +kernel
theorem dX6_readLetters_30 : decode cX6_readLetters 30 = .ok (.iload_n 1, 1) := by decide +kernel
theorem dX6_readLetters_31 : decode cX6_readLetters 31 = .ok (.invokevirtual 156, 3) := by decide +kernel
theorem dX6_readLetters_34 : decode cX6_readLetters 34 = .ok (.istore_n 2, 1) := by decide +kernel
theorem dX6_readLetters_35 : decode cX6_readLetters 35 = .ok (.iload_n 2, 1) := by decide +kernel
theorem dX6_readLetters_36 : decode cX6_readLetters 36 = .ok (.invokestatic 160, 3) := by decide +kernel
theorem dX6_readLetters_39 : decode cX6_readLetters 39 = .ok (.ifCond .ne 14, 3) := by decide +kernel
theorem dX6_readLetters_42 : decode cX6_readLetters 42 = .ok (.aload_n 0, 1) := by decide +kernel
theorem dX6_readLetters_43 : decode cX6_readLetters 43 = .ok (.getfield 10, 3) := by decide +kernel
theorem dX6_readLetters_46 : decode cX6_readLetters 46 = .ok (.iload_n 2, 1) := by decide +kernel
theorem dX6_readLetters_47 : decode cX6_readLetters 47 = .ok (.invokevirtual 164, 3) := by decide +kernel
theorem dX6_readLetters_50 : decode cX6_readLetters 50 = .ok (.ifCond .lt 16, 3) := by decide +kernel
theorem dX6_readLetters_53 : decode cX6_readLetters 53 = .ok (.aload_n 0, 1) := by decide +kernel
theorem dX6_readLetters_54 : decode cX6_readLetters 54 = .ok (.bipush 7, 2) := by decide +kernel
theorem dX6_readLetters_56 : decode cX6_readLetters 56 = .ok (.aload_n 0, 1) := by decide +kernel
theorem dX6_readLetters_57 : decode cX6_readLetters 57 = .ok (.getfield 21, 3) := by decide +kernel
theorem dX6_readLetters_60 : decode cX6_readLetters 60 = .ok (.invokevirtual 73, 3) := by decide +kernel
theorem dX6_readLetters_63 : decode cX6_readLetters 63 = .ok (.invokevirtual 167, 3) := by decide +kernel
theorem dX6_readLetters_66 : decode cX6_readLetters 66 = .ok (.aload_n 0, 1) := by decide +kernel
theorem dX6_readLetters_67 : decode cX6_readLetters 67 = .ok (.getfield 10, 3) := by decide +kernel
theorem dX6_readLetters_70 : decode cX6_readLetters 70 = .ok (.iload_n 2, 1) := by decide +kernel
theorem dX6_readLetters_71 : decode cX6_readLetters 71 = .ok (.invokevirtual 171, 3) := by decide +kernel
theorem dX6_readLetters_74 : decode cX6_readLetters 74 = .ok (.iinc 1 1, 3) := by decide +kernel
theorem dX6_readLetters_77 : decode cX6_readLetters 77 = .ok (.goto (-68), 3) := by decide +kernel
theorem dX6_readLetters_80 : decode cX6_readLetters 80 = .ok (.return_, 1) := by decide +kernel
theorem dX6_readRule_0 : decode cX6_readRule 0 = .ok (.aload_n 0, 1) := by decide +kernel
theorem dX6_readRule_1 : decode cX6_readRule 1 = .ok (.getfield 25, 3) := by decide +kernel
theorem dX6_readRule_4 : decode cX6_readRule 4 = .ok (.invokevirtual 174, 3) := by decide +kernel
theorem dX6_readRule_7 : decode cX6_readRule 7 = .ok (.bipush 12, 2) := by decide +kernel
theorem dX6_readRule_9 : decode cX6_readRule 9 = .ok (.if_icmp .lt 15, 3) := by decide +kernel
theorem dX6_readRule_12 : decode cX6_readRule 12 = .ok (.aload_n 0, 1) := by decide +kernel
theorem dX6_readRule_13 : decode cX6_readRule 13 = .ok (.iconst 4, 1) := by decide +kernel
theorem dX6_readRule_14 : decode cX6_readRule 14 = .ok (.aload_n 0, 1) := by decide +kernel
theorem dX6_readRule_15 : decode cX6_readRule 15 = .ok (.getfield 21, 3) := by decide +kernel
theorem dX6_readRule_18 : decode cX6_readRule 18 = .ok (.invokevirtual 73, 3) := by decide +kernel
theorem dX6_readRule_21 : decode cX6_readRule 21 = .ok (.invokevirtual 167, 3) := by decide +kernel
theorem dX6_readRule_24 : decode cX6_readRule 24 = .ok (.aload_n 0, 1) := by decide +kernel
theorem dX6_readRule_25 : decode cX6_readRule 25 = .ok (.getfield 25, 3) := by decide +kernel
theorem dX6_readRule_28 : decode cX6_readRule 28 = .ok (.invokevirtual 80, 3) := by decide +kernel
theorem dX6_readRule_31 : decode cX6_readRule 31 = .ok (.invokevirtual 177, 3) := by decide +kernel
theorem dX6_readRule_34 : decode cX6_readRule 34 = .ok (.istore_n 1, 1) := by decide +kernel
theorem dX6_readRule_35 : decode cX6_readRule 35 = .ok (.aload_n 0, 1) := by decide +kernel
theorem dX6_readRule_36 : decode cX6_readRule 36 = .ok (.getfield 21, 3) := by decide +kernel
theorem dX6_readRule_39 : decode cX6_readRule 39 = .ok (.getstatic 67, 3) := by decide +kernel
theorem dX6_readRule_42 : decode cX6_readRule 42 = .ok (.invokevirtual 77, 3) := by decide +kernel
theorem dX6_readRule_45 : decode cX6_readRule 45 = .ok (.ifCond .eq 24, 3) := by decide +kernel
theorem dX6_readRule_48 : decode cX6_readRule 48 = .ok (.aload_n 0, 1) := by decide +kernel
theorem dX6_readRule_49 : decode cX6_readRule 49 = .ok (.iconst 0, 1) := by decide +kernel
theorem dX6_readRule_50 : decode cX6_readRule 50 = .ok (.invokevirtual 180, 3) := by decide +kernel
theorem dX6_readRule_53 : decode cX6_readRule 53 = .ok (.ifCond .eq 16, 3) := by decide +kernel
theorem dX6_readRule_56 : decode cX6_readRule 56 = .ok (.aload_n 0, 1) := by decide +kernel
theorem dX6_readRule_57 : decode cX6_readRule 57 = .ok (.getfield 21, 3) := by decide +kernel
theorem dX6_readRule_60 : decode cX6_readRule 60 = .ok (.getstatic 183, 3) := by decide +kernel
theorem dX6_readRule_63 : decode cX6_readRule 63 = .ok (.invokevirtual 77, 3) := by decide +kernel
theorem dX6_readRule_66 : decode cX6_readRule 66 = .ok (.ifCond .ne 5, 3) := by decide +kernel
theorem dX6_readRule_69 : decode cX6_readRule 69 = .ok (.iconst 0, 1) := by decide +kernel
theorem dX6_readRule_70 : decode cX6_readRule 70 = .ok (.ireturn, 1) := by decide +kernel
theorem dX6_readRule_71 : decode cX6_readRule 71 = .ok (.aload_n 0, 1) := by decide +kernel
theorem dX6_readRule_72 : decode cX6_readRule 72 = .ok (.getfield 25, 3) := by decide +kernel
theorem dX6_readRule_75 : decode cX6_readRule 75 = .ok (.invokevirtual 80, 3) := by decide +kernel
theorem dX6_readRule_78 : decode cX6_readRule 78 = .ok (.invokevirtual 177, 3) := by decide +kernel
theorem dX6_readRule_81 : decode cX6_readRule 81 = .ok (.istore_n 2, 1) := by decide +kernel
theorem dX6_readRule_82 : decode cX6_readRule 82 = .ok (.aload_n 0, 1) := by decide +kernel
theorem dX6_readRule_83 : decode cX6_readRule 83 = .ok (.iconst 0, 1) := by decide +kernel
theorem dX6_readRule_84 : decode cX6_readRule 84 = .ok (.invokevirtual 186, 3) := by decide +kernel
theorem dX6_readRule_87 : decode cX6_readRule 87 = .ok (.ifCond .eq 24, 3) := by decide +kernel
theorem dX6_readRule_90 : decode cX6_readRule 90 = .ok (.aload_n 0, 1) := by decide +kernel
theorem dX6_readRule_91 : decode cX6_readRule 91 = .ok (.getfield 21, 3) := by decide +kernel
theorem dX6_readRule_94 : decode cX6_readRule 94 = .ok (.getstatic 189, 3) := by decide +kernel
theorem dX6_readRule_97 : decode cX6_readRule 97 = .ok (.invokevirtual 77, 3) := by decide +kernel
theorem dX6_readRule_100 : decode cX6_readRule 100 = .ok (.ifCond .eq 11, 3) := by decide +kernel
theorem dX6_readRule_103 : decode cX6_readRule 103 = .ok (.aload_n 0, 1) := by decide +kernel
theorem dX6_readRule_104 : decode cX6_readRule 104 = .ok (.iconst 1, 1) := by decide +kernel
theorem dX6_readRule_105 : decode cX6_readRule 105 = .ok (.invokevirtual 192, 3) := by decide +kernel
theorem dX6_readRule_108 : decode cX6_readRule 108 = .ok (.ifCond .ne 5, 3) := by decide +kernel
theorem dX6_readRule_111 : decode cX6_readRule 111 = .ok (.iconst 0, 1) := by decide +kernel
theorem dX6_readRule_112 : decode cX6_readRule 112 = .ok (.ireturn, 1) := by decide +kernel
theorem dX6_readRule_113 : decode cX6_readRule 113 = .ok (.aload_n 0, 1) := by decide +kernel
theorem dX6_readRule_114 : decode cX6_readRule 114 = .ok (.getfield 25, 3) := by decide +kernel
theorem dX6_readRule_117 : decode cX6_readRule 117 = .ok (.iload_n 1, 1) := by decide +kernel
theorem dX6_readRule_118 : decode cX6_readRule 118 = .ok (.iload_n 2, 1) := by decide +kernel
theorem dX6_readRule_119 : decode cX6_readRule 119 = .ok (.aload_n 0, 1) := by decide +kernel
theorem dX6_readRule_120 : decode cX6_readRule 120 = .ok (.getfield 115, 3) := by decide +kernel
theorem dX6_readRule_123 : decode cX6_readRule 123 = .ok (.invokevirtual 196, 3) := by decide +kernel
theorem dX6_readRule_126 : decode cX6_readRule 126 = .ok (.aload_n 0, 1) := by decide +kernel
theorem dX6_readRule_127 : decode cX6_readRule 127 = .ok (.getfield 21, 3) := by decide +kernel
theorem dX6_readRule_130 : decode cX6_readRule 130 = .ok (.getstatic 136, 3) := by decide +kernel
theorem dX6_readRule_133 : decode cX6_readRule 133 = .ok (.invokevirtual 77, 3) := by decide +kernel
theorem dX6_readRule_136 : decode cX6_readRule 136 = .ok (.ireturn, 1) := by decide +kernel
theorem dX6_checkNewName_0 : decode cX6_checkNewName 0 = .ok (.iload_n 1, 1) := by decide +kernel
theorem dX6_checkNewName_1 : decode cX6_checkNewName 1 = .ok (.ifCond .lt 15, 3) := by decide +kernel
theorem dX6_checkNewName_4 : decode cX6_checkNewName 4 = .ok (.aload_n 0, 1) := by decide +kernel
theorem dX6_checkNewName_5 : decode cX6_checkNewName 5 = .ok (.iconst 2, 1) := by decide +kernel
theorem dX6_checkNewName_6 : decode cX6_checkNewName 6 = .ok (.aload_n 0, 1) := by decide +kernel
theorem dX6_checkNewName_7 : decode cX6_checkNewName 7 = .ok (.getfield 21, 3) := by decide +kernel
theorem dX6_checkNewName_10 : decode cX6_checkNewName 10 = .ok (.invokevirtual 73, 3) := by decide +kernel
theorem dX6_checkNewName_13 : decode cX6_checkNewName 13 = .ok (.invokevirtual 167, 3) := by decide +kernel
theorem dX6_checkNewName_16 : decode cX6_checkNewName 16 = .ok (.iload_n 2, 1) := by decide +kernel
theorem dX6_checkNewName_17 : decode cX6_checkNewName 17 = .ok (.ifCond .ne 15, 3) := by decide +kernel
theorem dX6_checkNewName_20 : decode cX6_checkNewName 20 = .ok (.aload_n 0, 1) := by decide +kernel
theorem dX6_checkNewName_21 : decode cX6_checkNewName 21 = .ok (.iconst 4, 1) := by decide +kernel
theorem dX6_checkNewName_22 : decode cX6_checkNewName 22 = .ok (.aload_n 0, 1) := by decide +kernel
theorem dX6_checkNewName_23 : decode cX6_checkNewName 23 = .ok (.getfield 21, 3) := by decide +kernel
theorem dX6_checkNewName_26 : decode cX6_checkNewName 26 = .ok (.invokevirtual 73, 3) := by decide +kernel
theorem dX6_checkNewName_29 : decode cX6_checkNewName 29 = .ok (.invokevirtual 167, 3) := by decide +kernel
theorem dX6_checkNewName_32 : decode cX6_checkNewName 32 = .ok (.return_, 1) := by decide +kernel
theorem dX6_readName_0 : decode cX6_readName 0 = .ok (.aload_n 0, 1) := by decide +kernel
theorem dX6_readName_1 : decode cX6_readName 1 = .ok (.getfield 21, 3) := by decide +kernel
theorem dX6_readName_4 : decode cX6_readName 4 = .ok (.getstatic 90, 3) := by decide +kernel
theorem dX6_readName_7 : decode cX6_readName 7 = .ok (.invokevirtual 50, 3) := by decide +kernel
theorem dX6_readName_10 : decode cX6_readName 10 = .ok (.ifCond .ne 5, 3) := by decide +kernel
theorem dX6_readName_13 : decode cX6_readName 13 = .ok (.iconst 0, 1) := by decide +kernel
theorem dX6_readName_14 : decode cX6_readName 14 = .ok (.ireturn, 1) := by decide +kernel
theorem dX6_readName_15 : decode cX6_readName 15 = .ok (.aload_n 0, 1) := by decide +kernel
theorem dX6_readName_16 : decode cX6_readName 16 = .ok (.getfield 21, 3) := by decide +kernel
theorem dX6_readName_19 : decode cX6_readName 19 = .ok (.invokevirtual 93, 3) := by decide +kernel
theorem dX6_readName_22 : decode cX6_readName 22 = .ok (.lstore_n 2, 1) := by decide +kernel
theorem dX6_readName_23 : decode cX6_readName 23 = .ok (.aload_n 0, 1) := by decide +kernel
theorem dX6_readName_24 : decode cX6_readName 24 = .ok (.iload_n 1, 1) := by decide +kernel
theorem dX6_readName_25 : decode cX6_readName 25 = .ok (.ifCond .eq 14, 3) := by decide +kernel
theorem dX6_readName_28 : decode cX6_readName 28 = .ok (.aload_n 0, 1) := by decide +kernel
theorem dX6_readName_29 : decode cX6_readName 29 = .ok (.getfield 25, 3) := by decide +kernel
theorem dX6_readName_32 : decode cX6_readName 32 = .ok (.lload_n 2, 1) := by decide +kernel
theorem dX6_readName_33 : decode cX6_readName 33 = .ok (.invokevirtual 139, 3) := by decide +kernel
theorem dX6_readName_36 : decode cX6_readName 36 = .ok (.goto 11, 3) := by decide +kernel
theorem dX6_readName_39 : decode cX6_readName 39 = .ok (.aload_n 0, 1) := by decide +kernel
theorem dX6_readName_40 : decode cX6_readName 40 = .ok (.getfield 25, 3) := by decide +kernel
theorem dX6_readName_43 : decode cX6_readName 43 = .ok (.lload_n 2, 1) := by decide +kernel
theorem dX6_readName_44 : decode cX6_readName 44 = .ok (.invokevirtual 97, 3) := by decide +kernel
theorem dX6_readName_47 : decode cX6_readName 47 = .ok (.putfield 115, 3) := by decide +kernel
theorem dX6_readName_50 : decode cX6_readName 50 = .ok (.aload_n 0, 1) := by decide +kernel
theorem dX6_readName_51 : decode cX6_readName 51 = .ok (.getfield 115, 3) := by decide +kernel
theorem dX6_readName_54 : decode cX6_readName 54 = .ok (.ifCond .ge 15, 3) := by decide +kernel
theorem dX6_readName_57 : decode cX6_readName 57 = .ok (.aload_n 0, 1) := by decide +kernel
theorem dX6_readName_58 : decode cX6_readName 58 = .ok (.iconst 3, 1) := by decide +kernel
theorem dX6_readName_59 : decode cX6_readName 59 = .ok (.aload_n 0, 1) := by decide +kernel
theorem dX6_readName_60 : decode cX6_readName 60 = .ok (.getfield 21, 3) := by decide +kernel
theorem dX6_readName_63 : decode cX6_readName 63 = .ok (.invokevirtual 73, 3) := by decide +kernel
theorem dX6_readName_66 : decode cX6_readName 66 = .ok (.invokevirtual 167, 3) := by decide +kernel
theorem dX6_readName_69 : decode cX6_readName 69 = .ok (.aload_n 0, 1) := by decide +kernel
theorem dX6_readName_70 : decode cX6_readName 70 = .ok (.getfield 21, 3) := by decide +kernel
theorem dX6_readName_73 : decode cX6_readName 73 = .ok (.getstatic 90, 3) := by decide +kernel
theorem dX6_readName_76 : decode cX6_readName 76 = .ok (.invokevirtual 77, 3) := by decide +kernel
theorem dX6_readName_79 : decode cX6_readName 79 = .ok (.ireturn, 1) := by decide +kernel
theorem dX6_readNumber_0 : decode cX6_readNumber 0 = .ok (.aload_n 0, 1) := by decide +kernel
theorem dX6_readNumber_1 : decode cX6_readNumber 1 = .ok (.getfield 21, 3) := by decide +kernel
theorem dX6_readNumber_4 : decode cX6_readNumber 4 = .ok (.getstatic 199, 3) := by decide +kernel
theorem dX6_readNumber_7 : decode cX6_readNumber 7 = .ok (.invokevirtual 50, 3) := by decide +kernel
theorem dX6_readNumber_10 : decode cX6_readNumber 10 = .ok (.ifCond .ne 5, 3) := by decide +kernel
theorem dX6_readNumber_13 : decode cX6_readNumber 13 = .ok (.iconst 0, 1) := by decide +kernel
theorem dX6_readNumber_14 : decode cX6_readNumber 14 = .ok (.ireturn, 1) := by decide +kernel
theorem dX6_readNumber_15 : decode cX6_readNumber 15 = .ok (.aload_n 0, 1) := by decide +kernel
theorem dX6_readNumber_16 : decode cX6_readNumber 16 = .ok (.aload_n 0, 1) := by decide +kernel
theorem dX6_readNumber_17 : decode cX6_readNumber 17 = .ok (.getfield 21, 3) := by decide +kernel
theorem dX6_readNumber_20 : decode cX6_readNumber 20 = .ok (.invokevirtual 202, 3) := by decide +kernel
theorem dX6_readNumber_23 : decode cX6_readNumber 23 = .ok (.putfield 115, 3) := by decide +kernel
theorem dX6_readNumber_26 : decode cX6_readNumber 26 = .ok (.aload_n 0, 1) := by decide +kernel
theorem dX6_readNumber_27 : decode cX6_readNumber 27 = .ok (.getfield 115, 3) := by decide +kernel
theorem dX6_readNumber_30 : decode cX6_readNumber 30 = .ok (.iload_n 1, 1) := by decide +kernel
theorem dX6_readNumber_31 : decode cX6_readNumber 31 = .ok (.if_icmp .lt 11, 3) := by decide +kernel
theorem dX6_readNumber_34 : decode cX6_readNumber 34 = .ok (.aload_n 0, 1) := by decide +kernel
theorem dX6_readNumber_35 : decode cX6_readNumber 35 = .ok (.getfield 115, 3) := by decide +kernel
theorem dX6_readNumber_38 : decode cX6_readNumber 38 = .ok (.iload_n 2, 1) := by decide +kernel
theorem dX6_readNumber_39 : decode cX6_readNumber 39 = .ok (.if_icmp .le 15, 3) := by decide +kernel
theorem dX6_readNumber_42 : decode cX6_readNumber 42 = .ok (.aload_n 0, 1) := by decide +kernel
theorem dX6_readNumber_43 : decode cX6_readNumber 43 = .ok (.iconst 5, 1) := by decide +kernel
theorem dX6_readNumber_44 : decode cX6_readNumber 44 = .ok (.aload_n 0, 1) := by decide +kernel
theorem dX6_readNumber_45 : decode cX6_readNumber 45 = .ok (.getfield 21, 3) := by decide +kernel
theorem dX6_readNumber_48 : decode cX6_readNumber 48 = .ok (.invokevirtual 73, 3) := by decide +kernel
theorem dX6_readNumber_51 : decode cX6_readNumber 51 = .ok (.invokevirtual 167, 3) := by decide +kernel
theorem dX6_readNumber_54 : decode cX6_readNumber 54 = .ok (.aload_n 0, 1) := by decide +kernel
theorem dX6_readNumber_55 : decode cX6_readNumber 55 = .ok (.getfield 21, 3) := by decide +kernel
theorem dX6_readNumber_58 : decode cX6_readNumber 58 = .ok (.getstatic 199, 3) := by decide +kernel
theorem dX6_readNumber_61 : decode cX6_readNumber 61 = .ok (.invokevirtual 77, 3) := by decide +kernel
theorem dX6_readNumber_64 : decode cX6_readNumber 64 = .ok (.ireturn, 1) := by decide +kernel
theorem dX6_readTest_0 : decode cX6_readTest 0 = .ok (.aload_n 0, 1) := by decide +kernel
theorem dX6_readTest_1 : decode cX6_readTest 1 = .ok (.iload_n 1, 1) := by decide +kernel
theorem dX6_readTest_2 : decode cX6_readTest 2 = .ok (.invokevirtual 205, 3) := by decide +kernel
theorem dX6_readTest_5 : decode cX6_readTest 5 = .ok (.ifCond .ne 5, 3) := by decide +kernel
theorem dX6_readTest_8 : decode cX6_readTest 8 = .ok (.iconst 0, 1) := by decide +kernel
theorem dX6_readTest_9 : decode cX6_readTest 9 = .ok (.ireturn, 1) := by decide +kernel
theorem dX6_readTest_10 : decode cX6_readTest 10 = .ok (.iconst 0, 1) := by decide +kernel
theorem dX6_readTest_11 : decode cX6_readTest 11 = .ok (.istore_n 2, 1) := by decide +kernel
theorem dX6_readTest_12 : decode cX6_readTest 12 = .ok (.iload_n 2, 1) := by decide +kernel
theorem dX6_readTest_13 : decode cX6_readTest 13 = .ok (.sipush 400, 3) := by decide +kernel
theorem dX6_readTest_16 : decode cX6_readTest 16 = .ok (.if_icmp .ge 54, 3) := by decide +kernel
theorem dX6_readTest_19 : decode cX6_readTest 19 = .ok (.aload_n 0, 1) := by decide +kernel
theorem dX6_readTest_20 : decode cX6_readTest 20 = .ok (.getfield 21, 3) := by decide +kernel
theorem dX6_readTest_23 : decode cX6_readTest 23 = .ok (.getstatic 208, 3) := by decide +kernel
theorem dX6_readTest_26 : decode cX6_readTest 26 = .ok (.invokevirtual 50, 3) := by decide +kernel
theorem dX6_readTest_29 : decode cX6_readTest 29 = .ok (.ifCond .eq 41, 3) := by decide +kernel
theorem dX6_readTest_32 : decode cX6_readTest 32 = .ok (.aload_n 0, 1) := by decide +kernel
theorem dX6_readTest_33 : decode cX6_readTest 33 = .ok (.getfield 21, 3) := by decide +kernel
theorem dX6_readTest_36 : decode cX6_readTest 36 = .ok (.getstatic 208, 3) := by decide +kernel
theorem dX6_readTest_39 : decode cX6_readTest 39 = .ok (.invokevirtual 77, 3) := by decide +kernel
theorem dX6_readTest_42 : decode cX6_readTest 42 = .ok (.ifCond .eq 11, 3) := by decide +kernel
theorem dX6_readTest_45 : decode cX6_readTest 45 = .ok (.aload_n 0, 1) := by decide +kernel
theorem dX6_readTest_46 : decode cX6_readTest 46 = .ok (.iload_n 1, 1) := by decide +kernel
theorem dX6_readTest_47 : decode cX6_readTest 47 = .ok (.invokevirtual 205, 3) := by decide +kernel
theorem dX6_readTest_50 : decode cX6_readTest 50 = .ok (.ifCond .ne 5, 3) := by decide +kernel
theorem dX6_readTest_53 : decode cX6_readTest 53 = .ok (.iconst 0, 1) := by decide +kernel
theorem dX6_readTest_54 : decode cX6_readTest 54 = .ok (.ireturn, 1) := by decide +kernel
theorem dX6_readTest_55 : decode cX6_readTest 55 = .ok (.aload_n 0, 1) := by decide +kernel
theorem dX6_readTest_56 : decode cX6_readTest 56 = .ok (.bipush 12, 2) := by decide +kernel
theorem dX6_readTest_58 : decode cX6_readTest 58 = .ok (.iconst 0, 1) := by decide +kernel
theorem dX6_readTest_59 : decode cX6_readTest 59 = .ok (.iconst 0, 1) := by decide +kernel
theorem dX6_readTest_60 : decode cX6_readTest 60 = .ok (.invokevirtual 211, 3) := by decide +kernel
theorem dX6_readTest_63 : decode cX6_readTest 63 = .ok (.pop, 1) := by decide +kernel
theorem dX6_readTest_64 : decode cX6_readTest 64 = .ok (.iinc 2 1, 3) := by decide +kernel
theorem dX6_readTest_67 : decode cX6_readTest 67 = .ok (.goto (-55), 3) := by decide +kernel
theorem dX6_readTest_70 : decode cX6_readTest 70 = .ok (.iconst 1, 1) := by decide +kernel
theorem dX6_readTest_71 : decode cX6_readTest 71 = .ok (.ireturn, 1) := by decide +kernel
theorem dX6_readBoth_0 : decode cX6_readBoth 0 = .ok (.aload_n 0, 1) := by decide +kernel
theorem dX6_readBoth_1 : decode cX6_readBoth 1 = .ok (.iload_n 1, 1) := by decide +kernel
theorem dX6_readBoth_2 : decode cX6_readBoth 2 = .ok (.invokevirtual 215, 3) := by decide +kernel
theorem dX6_readBoth_5 : decode cX6_readBoth 5 = .ok (.ifCond .ne 5, 3) := by decide +kernel
theorem dX6_readBoth_8 : decode cX6_readBoth 8 = .ok (.iconst 0, 1) := by decide +kernel
theorem dX6_readBoth_9 : decode cX6_readBoth 9 = .ok (.ireturn, 1) := by decide +kernel
theorem dX6_readBoth_10 : decode cX6_readBoth 10 = .ok (.iconst 0, 1) := by decide +kernel
theorem dX6_readBoth_11 : decode cX6_readBoth 11 = .ok (.istore_n 2, 1) := by decide +kernel
theorem dX6_readBoth_12 : decode cX6_readBoth 12 = .ok (.iload_n 2, 1) := by decide +kernel
theorem dX6_readBoth_13 : decode cX6_readBoth 13 = .ok (.sipush 400, 3) := by decide +kernel
theorem dX6_readBoth_16 : decode cX6_readBoth 16 = .ok (.if_icmp .ge 54, 3) := by decide +kernel
theorem dX6_readBoth_19 : decode cX6_readBoth 19 = .ok (.aload_n 0, 1) := by decide +kernel
theorem dX6_readBoth_20 : decode cX6_readBoth 20 = .ok (.getfield 21, 3) := by decide +kernel
theorem dX6_readBoth_23 : decode cX6_readBoth 23 = .ok (.getstatic 218, 3) := by decide +kernel
theorem dX6_readBoth_26 : decode cX6_readBoth 26 = .ok (.invokevirtual 50, 3) := by decide +kernel
theorem dX6_readBoth_29 : decode cX6_readBoth 29 = .ok (.ifCond .eq 41, 3) := by decide +kernel
theorem dX6_readBoth_32 : decode cX6_readBoth 32 = .ok (.aload_n 0, 1) := by decide +kernel
theorem dX6_readBoth_33 : decode cX6_readBoth 33 = .ok (.getfield 21, 3) := by decide +kernel
theorem dX6_readBoth_36 : decode cX6_readBoth 36 = .ok (.getstatic 218, 3) := by decide +kernel
theorem dX6_readBoth_39 : decode cX6_readBoth 39 = .ok (.invokevirtual 77, 3) := by decide +kernel
theorem dX6_readBoth_42 : decode cX6_readBoth 42 = .ok (.ifCond .eq 11, 3) := by decide +kernel
theorem dX6_readBoth_45 : decode cX6_readBoth 45 = .ok (.aload_n 0, 1) := by decide +kernel
theorem dX6_readBoth_46 : decode cX6_readBoth 46 = .ok (.iload_n 1, 1) := by decide +kernel
theorem dX6_readBoth_47 : decode cX6_readBoth 47 = .ok (.invokevirtual 215, 3) := by decide +kernel
theorem dX6_readBoth_50 : decode cX6_readBoth 50 = .ok (.ifCond .ne 5, 3) := by decide +kernel
theorem dX6_readBoth_53 : decode cX6_readBoth 53 = .ok (.iconst 0, 1) := by decide +kernel
theorem dX6_readBoth_54 : decode cX6_readBoth 54 = .ok (.ireturn, 1) := by decide +kernel
theorem dX6_readBoth_55 : decode cX6_readBoth 55 = .ok (.aload_n 0, 1) := by decide +kernel
theorem dX6_readBoth_56 : decode cX6_readBoth 56 = .ok (.bipush 11, 2) := by decide +kernel
theorem dX6_readBoth_58 : decode cX6_readBoth 58 = .ok (.iconst 0, 1) := by decide +kernel
theorem dX6_readBoth_59 : decode cX6_readBoth 59 = .ok (.iconst 0, 1) := by decide +kernel
theorem dX6_readBoth_60 : decode cX6_readBoth 60 = .ok (.invokevirtual 211, 3) := by decide +kernel
theorem dX6_readBoth_63 : decode cX6_readBoth 63 = .ok (.pop, 1) := by decide +kernel
theorem dX6_readBoth_64 : decode cX6_readBoth 64 = .ok (.iinc 2 1, 3) := by decide +kernel
theorem dX6_readBoth_67 : decode cX6_readBoth 67 = .ok (.goto (-55), 3) := by decide +kernel
theorem dX6_readBoth_70 : decode cX6_readBoth 70 = .ok (.iconst 1, 1) := by decide +kernel
theorem dX6_readBoth_71 : decode cX6_readBoth 71 = .ok (.ireturn, 1) := by decide +kernel
theorem dX6_readSingle_0 : decode cX6_readSingle 0 = .ok (.aload_n 0, 1) := by decide +kernel
theorem dX6_readSingle_1 : decode cX6_readSingle 1 = .ok (.getfield 21, 3) := by decide +kernel
theorem dX6_readSingle_4 : decode cX6_readSingle 4 = .ok (.getstatic 221, 3) := by decide +kernel
theorem dX6_readSingle_7 : decode cX6_readSingle 7 = .ok (.invokevirtual 50, 3) := by decide +kernel
theorem dX6_readSingle_10 : decode cX6_readSingle 10 = .ok (.ifCond .eq 41, 3) := by decide +kernel
theorem dX6_readSingle_13 : decode cX6_readSingle 13 = .ok (.aload_n 0, 1) := by decide +kernel
theorem dX6_readSingle_14 : decode cX6_readSingle 14 = .ok (.getstatic 221, 3) := by decide +kernel
theorem dX6_readSingle_17 : decode cX6_readSingle 17 = .ok (.iload_n 1, 1) := by decide +kernel
theorem dX6_readSingle_18 : decode cX6_readSingle 18 = .ok (.invokevirtual 224, 3) := by decide +kernel
theorem dX6_readSingle_21 : decode cX6_readSingle 21 = .ok (.ifCond .eq 28, 3) := by decide +kernel
theorem dX6_readSingle_24 : decode cX6_readSingle 24 = .ok (.aload_n 0, 1) := by decide +kernel
theorem dX6_readSingle_25 : decode cX6_readSingle 25 = .ok (.iload_n 1, 1) := by decide +kernel
theorem dX6_readSingle_26 : decode cX6_readSingle 26 = .ok (.iconst 1, 1) := by decide +kernel
theorem dX6_readSingle_27 : decode cX6_readSingle 27 = .ok (.iadd, 1) := by decide +kernel
theorem dX6_readSingle_28 : decode cX6_readSingle 28 = .ok (.invokevirtual 215, 3) := by decide +kernel
theorem dX6_readSingle_31 : decode cX6_readSingle 31 = .ok (.ifCond .eq 18, 3) := by decide +kernel
theorem dX6_readSingle_34 : decode cX6_readSingle 34 = .ok (.aload_n 0, 1) := by decide +kernel
theorem dX6_readSingle_35 : decode cX6_readSingle 35 = .ok (.bipush 10, 2) := by decide +kernel
theorem dX6_readSingle_37 : decode cX6_readSingle 37 = .ok (.iconst 0, 1) := by decide +kernel
theorem dX6_readSingle_38 : decode cX6_readSingle 38 = .ok (.iconst 0, 1) := by decide +kernel
theorem dX6_readSingle_39 : decode cX6_readSingle 39 = .ok (.invokevirtual 211, 3) := by decide +kernel
theorem dX6_readSingle_42 : decode cX6_readSingle 42 = .ok (.ifCond .eq 7, 3) := by decide +kernel
theorem dX6_readSingle_45 : decode cX6_readSingle 45 = .ok (.iconst 1, 1) := by decide +kernel
theorem dX6_readSingle_46 : decode cX6_readSingle 46 = .ok (.goto 4, 3) := by decide +kernel
theorem dX6_readSingle_49 : decode cX6_readSingle 49 = .ok (.iconst 0, 1) := by decide +kernel
theorem dX6_readSingle_50 : decode cX6_readSingle 50 = .ok (.ireturn, 1) := by decide +kernel
theorem dX6_readSingle_51 : decode cX6_readSingle 51 = .ok (.aload_n 0, 1) := by decide +kernel
theorem dX6_readSingle_52 : decode cX6_readSingle 52 = .ok (.getfield 21, 3) := by decide +kernel
theorem dX6_readSingle_55 : decode cX6_readSingle 55 = .ok (.getstatic 228, 3) := by decide +kernel
theorem dX6_readSingle_58 : decode cX6_readSingle 58 = .ok (.invokevirtual 50, 3) := by decide +kernel
theorem dX6_readSingle_61 : decode cX6_readSingle 61 = .ok (.ifCond .eq 43, 3) := by decide +kernel
theorem dX6_readSingle_64 : decode cX6_readSingle 64 = .ok (.aload_n 0, 1) := by decide +kernel
theorem dX6_readSingle_65 : decode cX6_readSingle 65 = .ok (.getstatic 228, 3) := by decide +kernel
theorem dX6_readSingle_68 : decode cX6_readSingle 68 = .ok (.iload_n 1, 1) := by decide +kernel
theorem dX6_readSingle_69 : decode cX6_readSingle 69 = .ok (.invokevirtual 224, 3) := by decide +kernel
theorem dX6_readSingle_72 : decode cX6_readSingle 72 = .ok (.ifCond .eq 30, 3) := by decide +kernel
theorem dX6_readSingle_75 : decode cX6_readSingle 75 = .ok (.aload_n 0, 1) := by decide +kernel
theorem dX6_readSingle_76 : decode cX6_readSingle 76 = .ok (.iload_n 1, 1) := by decide +kernel
theorem dX6_readSingle_77 : decode cX6_readSingle 77 = .ok (.iconst 1, 1) := by decide +kernel
theorem dX6_readSingle_78 : decode cX6_readSingle 78 = .ok (.iadd, 1) := by decide +kernel
theorem dX6_readSingle_79 : decode cX6_readSingle 79 = .ok (.invokevirtual 180, 3) := by decide +kernel
theorem dX6_readSingle_82 : decode cX6_readSingle 82 = .ok (.ifCond .eq 20, 3) := by decide +kernel
theorem dX6_readSingle_85 : decode cX6_readSingle 85 = .ok (.aload_n 0, 1) := by decide +kernel
theorem dX6_readSingle_86 : decode cX6_readSingle 86 = .ok (.getfield 21, 3) := by decide +kernel
theorem dX6_readSingle_89 : decode cX6_readSingle 89 = .ok (.getstatic 231, 3) := by decide +kernel
theorem dX6_readSingle_92 : decode cX6_readSingle 92 = .ok (.invokevirtual 77, 3) := by decide +kernel
theorem dX6_readSingle_95 : decode cX6_readSingle 95 = .ok (.ifCond .eq 7, 3) := by decide +kernel
theorem dX6_readSingle_98 : decode cX6_readSingle 98 = .ok (.iconst 1, 1) := by decide +kernel
theorem dX6_readSingle_99 : decode cX6_readSingle 99 = .ok (.goto 4, 3) := by decide +kernel
theorem dX6_readSingle_102 : decode cX6_readSingle 102 = .ok (.iconst 0, 1) := by decide +kernel
theorem dX6_readSingle_103 : decode cX6_readSingle 103 = .ok (.ireturn, 1) := by decide +kernel
theorem dX6_readSingle_104 : decode cX6_readSingle 104 = .ok (.aload_n 0, 1) := by decide +kernel
theorem dX6_readSingle_105 : decode cX6_readSingle 105 = .ok (.getfield 21, 3) := by decide +kernel
theorem dX6_readSingle_108 : decode cX6_readSingle 108 = .ok (.getstatic 234, 3) := by decide +kernel
theorem dX6_readSingle_111 : decode cX6_readSingle 111 = .ok (.invokevirtual 50, 3) := by decide +kernel
theorem dX6_readSingle_114 : decode cX6_readSingle 114 = .ok (.ifCond .ne 16, 3) := by decide +kernel
theorem dX6_readSingle_117 : decode cX6_readSingle 117 = .ok (.aload_n 0, 1) := by decide +kernel
theorem dX6_readSingle_118 : decode cX6_readSingle 118 = .ok (.getfield 21, 3) := by decide +kernel
theorem dX6_readSingle_121 : decode cX6_readSingle 121 = .ok (.getstatic 237, 3) := by decide +kernel
theorem dX6_readSingle_124 : decode cX6_readSingle 124 = .ok (.invokevirtual 50, 3) := by decide +kernel
theorem dX6_readSingle_127 : decode cX6_readSingle 127 = .ok (.ifCond .eq 8, 3) := by decide +kernel
theorem dX6_readSingle_130 : decode cX6_readSingle 130 = .ok (.aload_n 0, 1) := by decide +kernel
theorem dX6_readSingle_131 : decode cX6_readSingle 131 = .ok (.invokevirtual 240, 3) := by decide +kernel
theorem dX6_readSingle_134 : decode cX6_readSingle 134 = .ok (.ireturn, 1) := by decide +kernel
theorem dX6_readSingle_135 : decode cX6_readSingle 135 = .ok (.aload_n 0, 1) := by decide +kernel
theorem dX6_readSingle_136 : decode cX6_readSingle 136 = .ok (.getfield 21, 3) := by decide +kernel
theorem dX6_readSingle_139 : decode cX6_readSingle 139 = .ok (.getstatic 126, 3) := by decide +kernel
theorem dX6_readSingle_142 : decode cX6_readSingle 142 = .ok (.invokevirtual 50, 3) := by decide +kernel
theorem dX6_readSingle_145 : decode cX6_readSingle 145 = .ok (.ifCond .eq 44, 3) := by decide +kernel
theorem dX6_readSingle_148 : decode cX6_readSingle 148 = .ok (.aload_n 0, 1) := by decide +kernel
theorem dX6_readSingle_149 : decode cX6_readSingle 149 = .ok (.getfield 21, 3) := by decide +kernel
theorem dX6_readSingle_152 : decode cX6_readSingle 152 = .ok (.getstatic 126, 3) := by decide +kernel
theorem dX6_readSingle_155 : decode cX6_readSingle 155 = .ok (.invokevirtual 77, 3) := by decide +kernel
theorem dX6_readSingle_158 : decode cX6_readSingle 158 = .ok (.ifCond .eq 29, 3) := by decide +kernel
theorem dX6_readSingle_161 : decode cX6_readSingle 161 = .ok (.aload_n 0, 1) := by decide +kernel
theorem dX6_readSingle_162 : decode cX6_readSingle 162 = .ok (.iconst 0, 1) := by decide +kernel
theorem dX6_readSingle_163 : decode cX6_readSingle 163 = .ok (.invokevirtual 192, 3) := by decide +kernel
theorem dX6_readSingle_166 : decode cX6_readSingle 166 = .ok (.ifCond .eq 21, 3) := by decide +kernel
theorem dX6_readSingle_169 : decode cX6_readSingle 169 = .ok (.aload_n 0, 1) := by decide +kernel
theorem dX6_readSingle_170 : decode cX6_readSingle 170 = .ok (.bipush 6, 2) := by decide +kernel
theorem dX6_readSingle_172 : decode cX6_readSingle 172 = .ok (.aload_n 0, 1) := by decide +kernel
theorem dX6_readSingle_173 : decode cX6_readSingle 173 = .ok (.getfield 115, 3) := by decide +kernel
theorem dX6_readSingle_176 : decode cX6_readSingle 176 = .ok (.iconst 0, 1) := by decide +kernel
theorem dX6_readSingle_177 : decode cX6_readSingle 177 = .ok (.invokevirtual 211, 3) := by decide +kernel
theorem dX6_readSingle_180 : decode cX6_readSingle 180 = .ok (.ifCond .eq 7, 3) := by decide +kernel
theorem dX6_readSingle_183 : decode cX6_readSingle 183 = .ok (.iconst 1, 1) := by decide +kernel
theorem dX6_readSingle_184 : decode cX6_readSingle 184 = .ok (.goto 4, 3) := by decide +kernel
theorem dX6_readSingle_187 : decode cX6_readSingle 187 = .ok (.iconst 0, 1) := by decide +kernel
theorem dX6_readSingle_188 : decode cX6_readSingle 188 = .ok (.ireturn, 1) := by decide +kernel
theorem dX6_readSingle_189 : decode cX6_readSingle 189 = .ok (.aload_n 0, 1) := by decide +kernel
theorem dX6_readSingle_190 : decode cX6_readSingle 190 = .ok (.iload_n 1, 1) := by decide +kernel
theorem dX6_readSingle_191 : decode cX6_readSingle 191 = .ok (.invokevirtual 186, 3) := by decide +kernel
theorem dX6_readSingle_194 : decode cX6_readSingle 194 = .ok (.ifCond .ne 5, 3) := by decide +kernel
theorem dX6_readSingle_197 : decode cX6_readSingle 197 = .ok (.iconst 0, 1) := by decide +kernel
theorem dX6_readSingle_198 : decode cX6_readSingle 198 = .ok (.ireturn, 1) := by decide +kernel
theorem dX6_readSingle_199 : decode cX6_readSingle 199 = .ok (.aload_n 0, 1) := by decide +kernel
theorem dX6_readSingle_200 : decode cX6_readSingle 200 = .ok (.getfield 21, 3) := by decide +kernel
theorem dX6_readSingle_203 : decode cX6_readSingle 203 = .ok (.invokevirtual 243, 3) := by decide +kernel
theorem dX6_readSingle_206 : decode cX6_readSingle 206 = .ok (.invokevirtual 247, 3) := by decide +kernel
theorem dX6_readSingle_209 : decode cX6_readSingle 209 = .ok (.istore_n 2, 1) := by decide +kernel
theorem dX6_readSingle_210 : decode cX6_readSingle 210 = .ok (.iload_n 2, 1) := by decide +kernel
theorem dX6_readSingle_211 : decode cX6_readSingle 211 = .ok (.invokestatic 250, 3) := by decide +kernel
theorem dX6_readSingle_214 : decode cX6_readSingle 214 = .ok (.ifCond .eq 35, 3) := by decide +kernel
theorem dX6_readSingle_217 : decode cX6_readSingle 217 = .ok (.aload_n 0, 1) := by decide +kernel
theorem dX6_readSingle_218 : decode cX6_readSingle 218 = .ok (.getfield 21, 3) := by decide +kernel
theorem dX6_readSingle_221 : decode cX6_readSingle 221 = .ok (.invokevirtual 253, 3) := by decide +kernel
theorem dX6_readSingle_224 : decode cX6_readSingle 224 = .ok (.ifCond .eq 25, 3) := by decide +kernel
theorem dX6_readSingle_227 : decode cX6_readSingle 227 = .ok (.aload_n 0, 1) := by decide +kernel
theorem dX6_readSingle_228 : decode cX6_readSingle 228 = .ok (.iload_n 1, 1) := by decide +kernel
theorem dX6_readSingle_229 : decode cX6_readSingle 229 = .ok (.invokevirtual 186, 3) := by decide +kernel
theorem dX6_readSingle_232 : decode cX6_readSingle 232 = .ok (.ifCond .eq 17, 3) := by decide +kernel
theorem dX6_readSingle_235 : decode cX6_readSingle 235 = .ok (.aload_n 0, 1) := by decide +kernel
theorem dX6_readSingle_236 : decode cX6_readSingle 236 = .ok (.iload_n 2, 1) := by decide +kernel
theorem dX6_readSingle_237 : decode cX6_readSingle 237 = .ok (.iconst 0, 1) := by decide +kernel
theorem dX6_readSingle_238 : decode cX6_readSingle 238 = .ok (.iconst 0, 1) := by decide +kernel
theorem dX6_readSingle_239 : decode cX6_readSingle 239 = .ok (.invokevirtual 211, 3) := by decide +kernel
theorem dX6_readSingle_242 : decode cX6_readSingle 242 = .ok (.ifCond .eq 7, 3) := by decide +kernel
theorem dX6_readSingle_245 : decode cX6_readSingle 245 = .ok (.iconst 1, 1) := by decide +kernel
theorem dX6_readSingle_246 : decode cX6_readSingle 246 = .ok (.goto 4, 3) := by decide +kernel
theorem dX6_readSingle_249 : decode cX6_readSingle 249 = .ok (.iconst 0, 1) := by decide +kernel
theorem dX6_readSingle_250 : decode cX6_readSingle 250 = .ok (.ireturn, 1) := by decide +kernel
theorem dX6_readOfTwo_0 : decode cX6_readOfTwo 0 = .ok (.aload_n 0, 1) := by decide +kernel
theorem dX6_readOfTwo_1 : decode cX6_readOfTwo 1 = .ok (.getfield 21, 3) := by decide +kernel
theorem dX6_readOfTwo_4 : decode cX6_readOfTwo 4 = .ok (.invokevirtual 243, 3) := by decide +kernel
theorem dX6_readOfTwo_7 : decode cX6_readOfTwo 7 = .ok (.invokevirtual 247, 3) := by decide +kernel
theorem dX6_readOfTwo_10 : decode cX6_readOfTwo 10 = .ok (.istore_n 1, 1) := by decide +kernel
theorem dX6_readOfTwo_11 : decode cX6_readOfTwo 11 = .ok (.aload_n 0, 1) := by decide +kernel
theorem dX6_readOfTwo_12 : decode cX6_readOfTwo 12 = .ok (.getfield 21, 3) := by decide +kernel
theorem dX6_readOfTwo_15 : decode cX6_readOfTwo 15 = .ok (.invokevirtual 253, 3) := by decide +kernel
theorem dX6_readOfTwo_18 : decode cX6_readOfTwo 18 = .ok (.ifCond .eq 11, 3) := by decide +kernel
theorem dX6_readOfTwo_21 : decode cX6_readOfTwo 21 = .ok (.aload_n 0, 1) := by decide +kernel
theorem dX6_readOfTwo_22 : decode cX6_readOfTwo 22 = .ok (.iconst 0, 1) := by decide +kernel
theorem dX6_readOfTwo_23 : decode cX6_readOfTwo 23 = .ok (.invokevirtual 192, 3) := by decide +kernel
theorem dX6_readOfTwo_26 : decode cX6_readOfTwo 26 = .ok (.ifCond .ne 5, 3) := by decide +kernel
theorem dX6_readOfTwo_29 : decode cX6_readOfTwo 29 = .ok (.iconst 0, 1) := by decide +kernel
theorem dX6_readOfTwo_30 : decode cX6_readOfTwo 30 = .ok (.ireturn, 1) := by decide +kernel
theorem dX6_readOfTwo_31 : decode cX6_readOfTwo 31 = .ok (.aload_n 0, 1) := by decide +kernel
theorem dX6_readOfTwo_32 : decode cX6_readOfTwo 32 = .ok (.getfield 115, 3) := by decide +kernel
theorem dX6_readOfTwo_35 : decode cX6_readOfTwo 35 = .ok (.istore_n 2, 1) := by decide +kernel
theorem dX6_readOfTwo_36 : decode cX6_readOfTwo 36 = .ok (.aload_n 0, 1) := by decide +kernel
theorem dX6_readOfTwo_37 : decode cX6_readOfTwo 37 = .ok (.getfield 21, 3) := by decide +kernel
theorem dX6_readOfTwo_40 : decode cX6_readOfTwo 40 = .ok (.invokevirtual 73, 3) := by decide +kernel
theorem dX6_readOfTwo_43 : decode cX6_readOfTwo 43 = .ok (.istore_n 3, 1) := by decide +kernel
theorem dX6_readOfTwo_44 : decode cX6_readOfTwo 44 = .ok (.aload_n 0, 1) := by decide +kernel
theorem dX6_readOfTwo_45 : decode cX6_readOfTwo 45 = .ok (.iconst 0, 1) := by decide +kernel
theorem dX6_readOfTwo_46 : decode cX6_readOfTwo 46 = .ok (.invokevirtual 192, 3) := by decide +kernel
theorem dX6_readOfTwo_49 : decode cX6_readOfTwo 49 = .ok (.ifCond .ne 5, 3) := by decide +kernel
theorem dX6_readOfTwo_52 : decode cX6_readOfTwo 52 = .ok (.iconst 0, 1) := by decide +kernel
theorem dX6_readOfTwo_53 : decode cX6_readOfTwo 53 = .ok (.ireturn, 1) := by decide +kernel
theorem dX6_readOfTwo_54 : decode cX6_readOfTwo 54 = .ok (.aload_n 0, 1) := by decide +kernel
theorem dX6_readOfTwo_55 : decode cX6_readOfTwo 55 = .ok (.getfield 115, 3) := by decide +kernel
theorem dX6_readOfTwo_58 : decode cX6_readOfTwo 58 = .ok (.iload_n 2, 1) := by decide +kernel
theorem dX6_readOfTwo_59 : decode cX6_readOfTwo 59 = .ok (.if_icmp .ne 10, 3) := by decide +kernel
theorem dX6_readOfTwo_62 : decode cX6_readOfTwo 62 = .ok (.aload_n 0, 1) := by decide +kernel
theorem dX6_readOfTwo_63 : decode cX6_readOfTwo 63 = .ok (.bipush 6, 2) := by decide +kernel
theorem dX6_readOfTwo_65 : decode cX6_readOfTwo 65 = .ok (.iload_n 3, 1) := by decide +kernel
theorem dX6_readOfTwo_66 : decode cX6_readOfTwo 66 = .ok (.invokevirtual 167, 3) := by decide +kernel
theorem dX6_readOfTwo_69 : decode cX6_readOfTwo 69 = .ok (.aload_n 0, 1) := by decide +kernel
theorem dX6_readOfTwo_70 : decode cX6_readOfTwo 70 = .ok (.iload_n 1, 1) := by decide +kernel
theorem dX6_readOfTwo_71 : decode cX6_readOfTwo 71 = .ok (.iload_n 2, 1) := by decide +kernel
theorem dX6_readOfTwo_72 : decode cX6_readOfTwo 72 = .ok (.aload_n 0, 1) := by decide +kernel
theorem dX6_readOfTwo_73 : decode cX6_readOfTwo 73 = .ok (.getfield 115, 3) := by decide +kernel
theorem dX6_readOfTwo_76 : decode cX6_readOfTwo 76 = .ok (.invokevirtual 211, 3) := by decide +kernel
theorem dX6_readOfTwo_79 : decode cX6_readOfTwo 79 = .ok (.ireturn, 1) := by decide +kernel
theorem dX6_readSum_0 : decode cX6_readSum 0 = .ok (.aload_n 0, 1) := by decide +kernel
theorem dX6_readSum_1 : decode cX6_readSum 1 = .ok (.iload_n 1, 1) := by decide +kernel
theorem dX6_readSum_2 : decode cX6_readSum 2 = .ok (.invokevirtual 256, 3) := by decide +kernel
theorem dX6_readSum_5 : decode cX6_readSum 5 = .ok (.ifCond .ne 5, 3) := by decide +kernel
theorem dX6_readSum_8 : decode cX6_readSum 8 = .ok (.iconst 0, 1) := by decide +kernel
theorem dX6_readSum_9 : decode cX6_readSum 9 = .ok (.ireturn, 1) := by decide +kernel
theorem dX6_readSum_10 : decode cX6_readSum 10 = .ok (.iconst 0, 1) := by decide +kernel
theorem dX6_readSum_11 : decode cX6_readSum 11 = .ok (.istore_n 2, 1) := by decide +kernel
theorem dX6_readSum_12 : decode cX6_readSum 12 = .ok (.iload_n 2, 1) := by decide +kernel
theorem dX6_readSum_13 : decode cX6_readSum 13 = .ok (.sipush 400, 3) := by decide +kernel
theorem dX6_readSum_16 : decode cX6_readSum 16 = .ok (.if_icmp .ge 74, 3) := by decide +kernel
theorem dX6_readSum_19 : decode cX6_readSum 19 = .ok (.aload_n 0, 1) := by decide +kernel
theorem dX6_readSum_20 : decode cX6_readSum 20 = .ok (.getfield 21, 3) := by decide +kernel
theorem dX6_readSum_23 : decode cX6_readSum 23 = .ok (.getstatic 259, 3) := by decide +kernel
theorem dX6_readSum_26 : decode cX6_readSum 26 = .ok (.invokevirtual 50, 3) := by decide +kernel
theorem dX6_readSum_29 : decode cX6_readSum 29 = .ok (.ifCond .ne 16, 3) := by decide +kernel
theorem dX6_readSum_32 : decode cX6_readSum 32 = .ok (.aload_n 0, 1) := by decide +kernel
theorem dX6_readSum_33 : decode cX6_readSum 33 = .ok (.getfield 21, 3) := by decide +kernel
theorem dX6_readSum_36 : decode cX6_readSum 36 = .ok (.getstatic 262, 3) := by decide +kernel
theorem dX6_readSum_39 : decode cX6_readSum 39 = .ok (.invokevirtual 50, 3) := by decide +kernel
theorem dX6_readSum_42 : decode cX6_readSum 42 = .ok (.ifCond .eq 48, 3) := by decide +kernel
theorem dX6_readSum_45 : decode cX6_readSum 45 = .ok (.aload_n 0, 1) := by decide +kernel
theorem dX6_readSum_46 : decode cX6_readSum 46 = .ok (.getfield 21, 3) := by decide +kernel
theorem dX6_readSum_49 : decode cX6_readSum 49 = .ok (.invokevirtual 243, 3) := by decide +kernel
theorem dX6_readSum_52 : decode cX6_readSum 52 = .ok (.invokevirtual 247, 3) := by decide +kernel
theorem dX6_readSum_55 : decode cX6_readSum 55 = .ok (.istore_n 3, 1) := by decide +kernel
theorem dX6_readSum_56 : decode cX6_readSum 56 = .ok (.aload_n 0, 1) := by decide +kernel
theorem dX6_readSum_57 : decode cX6_readSum 57 = .ok (.getfield 21, 3) := by decide +kernel
theorem dX6_readSum_60 : decode cX6_readSum 60 = .ok (.invokevirtual 253, 3) := by decide +kernel
theorem dX6_readSum_63 : decode cX6_readSum 63 = .ok (.ifCond .eq 11, 3) := by decide +kernel
theorem dX6_readSum_66 : decode cX6_readSum 66 = .ok (.aload_n 0, 1) := by decide +kernel
theorem dX6_readSum_67 : decode cX6_readSum 67 = .ok (.iload_n 1, 1) := by decide +kernel
theorem dX6_readSum_68 : decode cX6_readSum 68 = .ok (.invokevirtual 256, 3) := by decide +kernel
theorem dX6_readSum_71 : decode cX6_readSum 71 = .ok (.ifCond .ne 5, 3) := by decide +kernel
theorem dX6_readSum_74 : decode cX6_readSum 74 = .ok (.iconst 0, 1) := by decide +kernel
theorem dX6_readSum_75 : decode cX6_readSum 75 = .ok (.ireturn, 1) := by decide +kernel
theorem dX6_readSum_76 : decode cX6_readSum 76 = .ok (.aload_n 0, 1) := by decide +kernel
theorem dX6_readSum_77 : decode cX6_readSum 77 = .ok (.iload_n 3, 1) := by decide +kernel
theorem dX6_readSum_78 : decode cX6_readSum 78 = .ok (.iconst 0, 1) := by decide +kernel
theorem dX6_readSum_79 : decode cX6_readSum 79 = .ok (.iconst 0, 1) := by decide +kernel
theorem dX6_readSum_80 : decode cX6_readSum 80 = .ok (.invokevirtual 211, 3) := by decide +kernel
theorem dX6_readSum_83 : decode cX6_readSum 83 = .ok (.pop, 1) := by decide +kernel
theorem dX6_readSum_84 : decode cX6_readSum 84 = .ok (.iinc 2 1, 3) := by decide +kernel
theorem dX6_readSum_87 : decode cX6_readSum 87 = .ok (.goto (-75), 3) := by decide +kernel
theorem dX6_readSum_90 : decode cX6_readSum 90 = .ok (.iconst 1, 1) := by decide +kernel
theorem dX6_readSum_91 : decode cX6_readSum 91 = .ok (.ireturn, 1) := by decide +kernel
theorem dX6_readProduct_0 : decode cX6_readProduct 0 = .ok (.aload_n 0, 1) := by decide +kernel
theorem dX6_readProduct_1 : decode cX6_readProduct 1 = .ok (.iload_n 1, 1) := by decide +kernel
theorem dX6_readProduct_2 : decode cX6_readProduct 2 = .ok (.invokevirtual 265, 3) := by decide +kernel
theorem dX6_readProduct_5 : decode cX6_readProduct 5 = .ok (.ifCond .ne 5, 3) := by decide +kernel
theorem dX6_readProduct_8 : decode cX6_readProduct 8 = .ok (.iconst 0, 1) := by decide +kernel
theorem dX6_readProduct_9 : decode cX6_readProduct 9 = .ok (.ireturn, 1) := by decide +kernel
theorem dX6_readProduct_10 : decode cX6_readProduct 10 = .ok (.iconst 0, 1) := by decide +kernel
theorem dX6_readProduct_11 : decode cX6_readProduct 11 = .ok (.istore_n 2, 1) := by decide +kernel
theorem dX6_readProduct_12 : decode cX6_readProduct 12 = .ok (.iload_n 2, 1) := by decide +kernel
theorem dX6_readProduct_13 : decode cX6_readProduct 13 = .ok (.sipush 400, 3) := by decide +kernel
theorem dX6_readProduct_16 : decode cX6_readProduct 16 = .ok (.if_icmp .ge 64, 3) := by decide +kernel
theorem dX6_readProduct_19 : decode cX6_readProduct 19 = .ok (.aload_n 0, 1) := by decide +kernel
theorem dX6_readProduct_20 : decode cX6_readProduct 20 = .ok (.getfield 21, 3) := by decide +kernel
theorem dX6_readProduct_23 : decode cX6_readProduct 23 = .ok (.invokevirtual 243, 3) := by decide +kernel
theorem dX6_readProduct_26 : decode cX6_readProduct 26 = .ok (.invokevirtual 247, 3) := by decide +kernel
theorem dX6_readProduct_29 : decode cX6_readProduct 29 = .ok (.invokestatic 268, 3) := by decide +kernel
theorem dX6_readProduct_32 : decode cX6_readProduct 32 = .ok (.ifCond .eq 48, 3) := by decide +kernel
theorem dX6_readProduct_35 : decode cX6_readProduct 35 = .ok (.aload_n 0, 1) := by decide +kernel
theorem dX6_readProduct_36 : decode cX6_readProduct 36 = .ok (.getfield 21, 3) := by decide +kernel
theorem dX6_readProduct_39 : decode cX6_readProduct 39 = .ok (.invokevirtual 243, 3) := by decide +kernel
theorem dX6_readProduct_42 : decode cX6_readProduct 42 = .ok (.invokevirtual 247, 3) := by decide +kernel
theorem dX6_readProduct_45 : decode cX6_readProduct 45 = .ok (.istore_n 3, 1) := by decide +kernel
theorem dX6_readProduct_46 : decode cX6_readProduct 46 = .ok (.aload_n 0, 1) := by decide +kernel
theorem dX6_readProduct_47 : decode cX6_readProduct 47 = .ok (.getfield 21, 3) := by decide +kernel
theorem dX6_readProduct_50 : decode cX6_readProduct 50 = .ok (.invokevirtual 253, 3) := by decide +kernel
theorem dX6_readProduct_53 : decode cX6_readProduct 53 = .ok (.ifCond .eq 11, 3) := by decide +kernel
theorem dX6_readProduct_56 : decode cX6_readProduct 56 = .ok (.aload_n 0, 1) := by decide +kernel
theorem dX6_readProduct_57 : decode cX6_readProduct 57 = .ok (.iload_n 1, 1) := by decide +kernel
theorem dX6_readProduct_58 : decode cX6_readProduct 58 = .ok (.invokevirtual 265, 3) := by decide +kernel
theorem dX6_readProduct_61 : decode cX6_readProduct 61 = .ok (.ifCond .ne 5, 3) := by decide +kernel
theorem dX6_readProduct_64 : decode cX6_readProduct 64 = .ok (.iconst 0, 1) := by decide +kernel
theorem dX6_readProduct_65 : decode cX6_readProduct 65 = .ok (.ireturn, 1) := by decide +kernel
theorem dX6_readProduct_66 : decode cX6_readProduct 66 = .ok (.aload_n 0, 1) := by decide +kernel
theorem dX6_readProduct_67 : decode cX6_readProduct 67 = .ok (.iload_n 3, 1) := by decide +kernel
theorem dX6_readProduct_68 : decode cX6_readProduct 68 = .ok (.iconst 0, 1) := by decide +kernel
theorem dX6_readProduct_69 : decode cX6_readProduct 69 = .ok (.iconst 0, 1) := by decide +kernel
theorem dX6_readProduct_70 : decode cX6_readProduct 70 = .ok (.invokevirtual 211, 3) := by decide +kernel
theorem dX6_readProduct_73 : decode cX6_readProduct 73 = .ok (.pop, 1) := by decide +kernel
theorem dX6_readProduct_74 : decode cX6_readProduct 74 = .ok (.iinc 2 1, 3) := by decide +kernel
theorem dX6_readProduct_77 : decode cX6_readProduct 77 = .ok (.goto (-65), 3) := by decide +kernel
theorem dX6_readProduct_80 : decode cX6_readProduct 80 = .ok (.iconst 1, 1) := by decide +kernel
theorem dX6_readProduct_81 : decode cX6_readProduct 81 = .ok (.ireturn, 1) := by decide +kernel
theorem dX6_readValue_0 : decode cX6_readValue 0 = .ok (.aload_n 0, 1) := by decide +kernel
theorem dX6_readValue_1 : decode cX6_readValue 1 = .ok (.getfield 21, 3) := by decide +kernel
theorem dX6_readValue_4 : decode cX6_readValue 4 = .ok (.invokevirtual 243, 3) := by decide +kernel
theorem dX6_readValue_7 : decode cX6_readValue 7 = .ok (.invokevirtual 247, 3) := by decide +kernel
theorem dX6_readValue_10 : decode cX6_readValue 10 = .ok (.istore_n 2, 1) := by decide +kernel
theorem dX6_readValue_11 : decode cX6_readValue 11 = .ok (.aload_n 0, 1) := by decide +kernel
theorem dX6_readValue_12 : decode cX6_readValue 12 = .ok (.getfield 21, 3) := by decide +kernel
theorem dX6_readValue_15 : decode cX6_readValue 15 = .ok (.getstatic 199, 3) := by decide +kernel
theorem dX6_readValue_18 : decode cX6_readValue 18 = .ok (.invokevirtual 50, 3) := by decide +kernel
theorem dX6_readValue_21 : decode cX6_readValue 21 = .ok (.ifCond .eq 35, 3) := by decide +kernel
theorem dX6_readValue_24 : decode cX6_readValue 24 = .ok (.aload_n 0, 1) := by decide +kernel
theorem dX6_readValue_25 : decode cX6_readValue 25 = .ok (.iconst 0, 1) := by decide +kernel
theorem dX6_readValue_26 : decode cX6_readValue 26 = .ok (.aload_n 0, 1) := by decide +kernel
theorem dX6_readValue_27 : decode cX6_readValue 27 = .ok (.getfield 21, 3) := by decide +kernel
theorem dX6_readValue_30 : decode cX6_readValue 30 = .ok (.invokevirtual 202, 3) := by decide +kernel
theorem dX6_readValue_33 : decode cX6_readValue 33 = .ok (.iconst 0, 1) := by decide +kernel
theorem dX6_readValue_34 : decode cX6_readValue 34 = .ok (.invokevirtual 211, 3) := by decide +kernel
theorem dX6_readValue_37 : decode cX6_readValue 37 = .ok (.ifCond .eq 17, 3) := by decide +kernel
theorem dX6_readValue_40 : decode cX6_readValue 40 = .ok (.aload_n 0, 1) := by decide +kernel
theorem dX6_readValue_41 : decode cX6_readValue 41 = .ok (.getfield 21, 3) := by decide +kernel
theorem dX6_readValue_44 : decode cX6_readValue 44 = .ok (.invokevirtual 253, 3) := by decide +kernel
theorem dX6_readValue_47 : decode cX6_readValue 47 = .ok (.ifCond .eq 7, 3) := by decide +kernel
theorem dX6_readValue_50 : decode cX6_readValue 50 = .ok (.iconst 1, 1) := by decide +kernel
theorem dX6_readValue_51 : decode cX6_readValue 51 = .ok (.goto 4, 3) := by decide +kernel
theorem dX6_readValue_54 : decode cX6_readValue 54 = .ok (.iconst 0, 1) := by decide +kernel
theorem dX6_readValue_55 : decode cX6_readValue 55 = .ok (.ireturn, 1) := by decide +kernel
theorem dX6_readValue_56 : decode cX6_readValue 56 = .ok (.aload_n 0, 1) := by decide +kernel
theorem dX6_readValue_57 : decode cX6_readValue 57 = .ok (.getfield 21, 3) := by decide +kernel
theorem dX6_readValue_60 : decode cX6_readValue 60 = .ok (.getstatic 271, 3) := by decide +kernel
theorem dX6_readValue_63 : decode cX6_readValue 63 = .ok (.invokevirtual 50, 3) := by decide +kernel
theorem dX6_readValue_66 : decode cX6_readValue 66 = .ok (.ifCond .ne 16, 3) := by decide +kernel
theorem dX6_readValue_69 : decode cX6_readValue 69 = .ok (.aload_n 0, 1) := by decide +kernel
theorem dX6_readValue_70 : decode cX6_readValue 70 = .ok (.getfield 21, 3) := by decide +kernel
theorem dX6_readValue_73 : decode cX6_readValue 73 = .ok (.getstatic 274, 3) := by decide +kernel
theorem dX6_readValue_76 : decode cX6_readValue 76 = .ok (.invokevirtual 50, 3) := by decide +kernel
theorem dX6_readValue_79 : decode cX6_readValue 79 = .ok (.ifCond .eq 29, 3) := by decide +kernel
theorem dX6_readValue_82 : decode cX6_readValue 82 = .ok (.aload_n 0, 1) := by decide +kernel
theorem dX6_readValue_83 : decode cX6_readValue 83 = .ok (.iload_n 2, 1) := by decide +kernel
theorem dX6_readValue_84 : decode cX6_readValue 84 = .ok (.iconst 0, 1) := by decide +kernel
theorem dX6_readValue_85 : decode cX6_readValue 85 = .ok (.iconst 0, 1) := by decide +kernel
theorem dX6_readValue_86 : decode cX6_readValue 86 = .ok (.invokevirtual 211, 3) := by decide +kernel
theorem dX6_readValue_89 : decode cX6_readValue 89 = .ok (.ifCond .eq 17, 3) := by decide +kernel
theorem dX6_readValue_92 : decode cX6_readValue 92 = .ok (.aload_n 0, 1) := by decide +kernel
theorem dX6_readValue_93 : decode cX6_readValue 93 = .ok (.getfield 21, 3) := by decide +kernel
theorem dX6_readValue_96 : decode cX6_readValue 96 = .ok (.invokevirtual 253, 3) := by decide +kernel
theorem dX6_readValue_99 : decode cX6_readValue 99 = .ok (.ifCond .eq 7, 3) := by decide +kernel
theorem dX6_readValue_102 : decode cX6_readValue 102 = .ok (.iconst 1, 1) := by decide +kernel
theorem dX6_readValue_103 : decode cX6_readValue 103 = .ok (.goto 4, 3) := by decide +kernel
theorem dX6_readValue_106 : decode cX6_readValue 106 = .ok (.iconst 0, 1) := by decide +kernel
theorem dX6_readValue_107 : decode cX6_readValue 107 = .ok (.ireturn, 1) := by decide +kernel
theorem dX6_readValue_108 : decode cX6_readValue 108 = .ok (.aload_n 0, 1) := by decide +kernel
theorem dX6_readValue_109 : decode cX6_readValue 109 = .ok (.getfield 21, 3) := by decide +kernel
theorem dX6_readValue_112 : decode cX6_readValue 112 = .ok (.getstatic 277, 3) := by decide +kernel
theorem dX6_readValue_115 : decode cX6_readValue 115 = .ok (.invokevirtual 50, 3) := by decide +kernel
theorem dX6_readValue_118 : decode cX6_readValue 118 = .ok (.ifCond .ne 16, 3) := by decide +kernel
theorem dX6_readValue_121 : decode cX6_readValue 121 = .ok (.aload_n 0, 1) := by decide +kernel
theorem dX6_readValue_122 : decode cX6_readValue 122 = .ok (.getfield 21, 3) := by decide +kernel
theorem dX6_readValue_125 : decode cX6_readValue 125 = .ok (.getstatic 280, 3) := by decide +kernel
theorem dX6_readValue_128 : decode cX6_readValue 128 = .ok (.invokevirtual 50, 3) := by decide +kernel
theorem dX6_readValue_131 : decode cX6_readValue 131 = .ok (.ifCond .eq 40, 3) := by decide +kernel
theorem dX6_readValue_134 : decode cX6_readValue 134 = .ok (.aload_n 0, 1) := by decide +kernel
theorem dX6_readValue_135 : decode cX6_readValue 135 = .ok (.getfield 21, 3) := by decide +kernel
theorem dX6_readValue_138 : decode cX6_readValue 138 = .ok (.invokevirtual 253, 3) := by decide +kernel
theorem dX6_readValue_141 : decode cX6_readValue 141 = .ok (.ifCond .eq 28, 3) := by decide +kernel
theorem dX6_readValue_144 : decode cX6_readValue 144 = .ok (.aload_n 0, 1) := by decide +kernel
theorem dX6_readValue_145 : decode cX6_readValue 145 = .ok (.iconst 0, 1) := by decide +kernel
theorem dX6_readValue_146 : decode cX6_readValue 146 = .ok (.invokevirtual 192, 3) := by decide +kernel
theorem dX6_readValue_149 : decode cX6_readValue 149 = .ok (.ifCond .eq 20, 3) := by decide +kernel
theorem dX6_readValue_152 : decode cX6_readValue 152 = .ok (.aload_n 0, 1) := by decide +kernel
theorem dX6_readValue_153 : decode cX6_readValue 153 = .ok (.iload_n 2, 1) := by decide +kernel
theorem dX6_readValue_154 : decode cX6_readValue 154 = .ok (.aload_n 0, 1) := by decide +kernel
theorem dX6_readValue_155 : decode cX6_readValue 155 = .ok (.getfield 115, 3) := by decide +kernel
theorem dX6_readValue_158 : decode cX6_readValue 158 = .ok (.iconst 0, 1) := by decide +kernel
theorem dX6_readValue_159 : decode cX6_readValue 159 = .ok (.invokevirtual 211, 3) := by decide +kernel
theorem dX6_readValue_162 : decode cX6_readValue 162 = .ok (.ifCond .eq 7, 3) := by decide +kernel
theorem dX6_readValue_165 : decode cX6_readValue 165 = .ok (.iconst 1, 1) := by decide +kernel
theorem dX6_readValue_166 : decode cX6_readValue 166 = .ok (.goto 4, 3) := by decide +kernel
theorem dX6_readValue_169 : decode cX6_readValue 169 = .ok (.iconst 0, 1) := by decide +kernel
theorem dX6_readValue_170 : decode cX6_readValue 170 = .ok (.ireturn, 1) := by decide +kernel
theorem dX6_readValue_171 : decode cX6_readValue 171 = .ok (.aload_n 0, 1) := by decide +kernel
theorem dX6_readValue_172 : decode cX6_readValue 172 = .ok (.getfield 21, 3) := by decide +kernel
theorem dX6_readValue_175 : decode cX6_readValue 175 = .ok (.getstatic 283, 3) := by decide +kernel
theorem dX6_readValue_178 : decode cX6_readValue 178 = .ok (.invokevirtual 50, 3) := by decide +kernel
theorem dX6_readValue_181 : decode cX6_readValue 181 = .ok (.ifCond .eq 8, 3) := by decide +kernel
theorem dX6_readValue_184 : decode cX6_readValue 184 = .ok (.aload_n 0, 1) := by decide +kernel
theorem dX6_readValue_185 : decode cX6_readValue 185 = .ok (.invokevirtual 240, 3) := by decide +kernel
theorem dX6_readValue_188 : decode cX6_readValue 188 = .ok (.ireturn, 1) := by decide +kernel
theorem dX6_readValue_189 : decode cX6_readValue 189 = .ok (.aload_n 0, 1) := by decide +kernel
theorem dX6_readValue_190 : decode cX6_readValue 190 = .ok (.getfield 21, 3) := by decide +kernel
theorem dX6_readValue_193 : decode cX6_readValue 193 = .ok (.getstatic 262, 3) := by decide +kernel
theorem dX6_readValue_196 : decode cX6_readValue 196 = .ok (.invokevirtual 50, 3) := by decide +kernel
theorem dX6_readValue_199 : decode cX6_readValue 199 = .ok (.ifCond .eq 41, 3) := by decide +kernel
theorem dX6_readValue_202 : decode cX6_readValue 202 = .ok (.aload_n 0, 1) := by decide +kernel
theorem dX6_readValue_203 : decode cX6_readValue 203 = .ok (.getstatic 262, 3) := by decide +kernel
theorem dX6_readValue_206 : decode cX6_readValue 206 = .ok (.iload_n 1, 1) := by decide +kernel
theorem dX6_readValue_207 : decode cX6_readValue 207 = .ok (.invokevirtual 224, 3) := by decide +kernel
theorem dX6_readValue_210 : decode cX6_readValue 210 = .ok (.ifCond .eq 28, 3) := by decide +kernel
theorem dX6_readValue_213 : decode cX6_readValue 213 = .ok (.aload_n 0, 1) := by decide +kernel
theorem dX6_readValue_214 : decode cX6_readValue 214 = .ok (.iload_n 1, 1) := by decide +kernel
theorem dX6_readValue_215 : decode cX6_readValue 215 = .ok (.iconst 1, 1) := by decide +kernel
theorem dX6_readValue_216 : decode cX6_readValue 216 = .ok (.iadd, 1) := by decide +kernel
theorem dX6_readValue_217 : decode cX6_readValue 217 = .ok (.invokevirtual 265, 3) := by decide +kernel
theorem dX6_readValue_220 : decode cX6_readValue 220 = .ok (.ifCond .eq 18, 3) := by decide +kernel
theorem dX6_readValue_223 : decode cX6_readValue 223 = .ok (.aload_n 0, 1) := by decide +kernel
theorem dX6_readValue_224 : decode cX6_readValue 224 = .ok (.bipush 9, 2) := by decide +kernel
theorem dX6_readValue_226 : decode cX6_readValue 226 = .ok (.iconst 0, 1) := by decide +kernel
theorem dX6_readValue_227 : decode cX6_readValue 227 = .ok (.iconst 0, 1) := by decide +kernel
theorem dX6_readValue_228 : decode cX6_readValue 228 = .ok (.invokevirtual 211, 3) := by decide +kernel
theorem dX6_readValue_231 : decode cX6_readValue 231 = .ok (.ifCond .eq 7, 3) := by decide +kernel
theorem dX6_readValue_234 : decode cX6_readValue 234 = .ok (.iconst 1, 1) := by decide +kernel
theorem dX6_readValue_235 : decode cX6_readValue 235 = .ok (.goto 4, 3) := by decide +kernel
theorem dX6_readValue_238 : decode cX6_readValue 238 = .ok (.iconst 0, 1) := by decide +kernel
theorem dX6_readValue_239 : decode cX6_readValue 239 = .ok (.ireturn, 1) := by decide +kernel
theorem dX6_readValue_240 : decode cX6_readValue 240 = .ok (.aload_n 0, 1) := by decide +kernel
theorem dX6_readValue_241 : decode cX6_readValue 241 = .ok (.getfield 21, 3) := by decide +kernel
theorem dX6_readValue_244 : decode cX6_readValue 244 = .ok (.getstatic 286, 3) := by decide +kernel
theorem dX6_readValue_247 : decode cX6_readValue 247 = .ok (.invokevirtual 50, 3) := by decide +kernel
theorem dX6_readValue_250 : decode cX6_readValue 250 = .ok (.ifCond .ne 16, 3) := by decide +kernel
theorem dX6_readValue_253 : decode cX6_readValue 253 = .ok (.aload_n 0, 1) := by decide +kernel
theorem dX6_readValue_254 : decode cX6_readValue 254 = .ok (.getfield 21, 3) := by decide +kernel
theorem dX6_readValue_257 : decode cX6_readValue 257 = .ok (.getstatic 289, 3) := by decide +kernel
theorem dX6_readValue_260 : decode cX6_readValue 260 = .ok (.invokevirtual 50, 3) := by decide +kernel
theorem dX6_readValue_263 : decode cX6_readValue 263 = .ok (.ifCond .eq 86, 3) := by decide +kernel
theorem dX6_readValue_266 : decode cX6_readValue 266 = .ok (.aload_n 0, 1) := by decide +kernel
theorem dX6_readValue_267 : decode cX6_readValue 267 = .ok (.getfield 21, 3) := by decide +kernel
theorem dX6_readValue_270 : decode cX6_readValue 270 = .ok (.invokevirtual 253, 3) := by decide +kernel
theorem dX6_readValue_273 : decode cX6_readValue 273 = .ok (.ifCond .eq 74, 3) := by decide +kernel
theorem dX6_readValue_276 : decode cX6_readValue 276 = .ok (.aload_n 0, 1) := by decide +kernel
theorem dX6_readValue_277 : decode cX6_readValue 277 = .ok (.getstatic 292, 3) := by decide +kernel
theorem dX6_readValue_280 : decode cX6_readValue 280 = .ok (.iload_n 1, 1) := by decide +kernel
theorem dX6_readValue_281 : decode cX6_readValue 281 = .ok (.invokevirtual 224, 3) := by decide +kernel
theorem dX6_readValue_284 : decode cX6_readValue 284 = .ok (.ifCond .eq 63, 3) := by decide +kernel
theorem dX6_readValue_287 : decode cX6_readValue 287 = .ok (.aload_n 0, 1) := by decide +kernel
theorem dX6_readValue_288 : decode cX6_readValue 288 = .ok (.iload_n 1, 1) := by decide +kernel
theorem dX6_readValue_289 : decode cX6_readValue 289 = .ok (.iconst 1, 1) := by decide +kernel
theorem dX6_readValue_290 : decode cX6_readValue 290 = .ok (.iadd, 1) := by decide +kernel
theorem dX6_readValue_291 : decode cX6_readValue 291 = .ok (.invokevirtual 186, 3) := by decide +kernel
theorem dX6_readValue_294 : decode cX6_readValue 294 = .ok (.ifCond .eq 53, 3) := by decide +kernel
theorem dX6_readValue_297 : decode cX6_readValue 297 = .ok (.aload_n 0, 1) := by decide +kernel
theorem dX6_readValue_298 : decode cX6_readValue 298 = .ok (.getfield 21, 3) := by decide +kernel
theorem dX6_readValue_301 : decode cX6_readValue 301 = .ok (.getstatic 295, 3) := by decide +kernel
theorem dX6_readValue_304 : decode cX6_readValue 304 = .ok (.invokevirtual 77, 3) := by decide +kernel
theorem dX6_readValue_307 : decode cX6_readValue 307 = .ok (.ifCond .eq 40, 3) := by decide +kernel
theorem dX6_readValue_310 : decode cX6_readValue 310 = .ok (.aload_n 0, 1) := by decide +kernel
theorem dX6_readValue_311 : decode cX6_readValue 311 = .ok (.iload_n 1, 1) := by decide +kernel
theorem dX6_readValue_312 : decode cX6_readValue 312 = .ok (.iconst 1, 1) := by decide +kernel
theorem dX6_readValue_313 : decode cX6_readValue 313 = .ok (.iadd, 1) := by decide +kernel
theorem dX6_readValue_314 : decode cX6_readValue 314 = .ok (.invokevirtual 186, 3) := by decide +kernel
theorem dX6_readValue_317 : decode cX6_readValue 317 = .ok (.ifCond .eq 30, 3) := by decide +kernel
theorem dX6_readValue_320 : decode cX6_readValue 320 = .ok (.aload_n 0, 1) := by decide +kernel
theorem dX6_readValue_321 : decode cX6_readValue 321 = .ok (.getfield 21, 3) := by decide +kernel
theorem dX6_readValue_324 : decode cX6_readValue 324 = .ok (.getstatic 298, 3) := by decide +kernel
theorem dX6_readValue_327 : decode cX6_readValue 327 = .ok (.invokevirtual 77, 3) := by decide +kernel
theorem dX6_readValue_330 : decode cX6_readValue 330 = .ok (.ifCond .eq 17, 3) := by decide +kernel
theorem dX6_readValue_333 : decode cX6_readValue 333 = .ok (.aload_n 0, 1) := by decide +kernel
theorem dX6_readValue_334 : decode cX6_readValue 334 = .ok (.iload_n 2, 1) := by decide +kernel
theorem dX6_readValue_335 : decode cX6_readValue 335 = .ok (.iconst 0, 1) := by decide +kernel
theorem dX6_readValue_336 : decode cX6_readValue 336 = .ok (.iconst 0, 1) := by decide +kernel
theorem dX6_readValue_337 : decode cX6_readValue 337 = .ok (.invokevirtual 211, 3) := by decide +kernel
theorem dX6_readValue_340 : decode cX6_readValue 340 = .ok (.ifCond .eq 7, 3) := by decide +kernel
theorem dX6_readValue_343 : decode cX6_readValue 343 = .ok (.iconst 1, 1) := by decide +kernel
theorem dX6_readValue_344 : decode cX6_readValue 344 = .ok (.goto 4, 3) := by decide +kernel
theorem dX6_readValue_347 : decode cX6_readValue 347 = .ok (.iconst 0, 1) := by decide +kernel
theorem dX6_readValue_348 : decode cX6_readValue 348 = .ok (.ireturn, 1) := by decide +kernel
theorem dX6_readValue_349 : decode cX6_readValue 349 = .ok (.aload_n 0, 1) := by decide +kernel
theorem dX6_readValue_350 : decode cX6_readValue 350 = .ok (.getstatic 292, 3) := by decide +kernel
theorem dX6_readValue_353 : decode cX6_readValue 353 = .ok (.iload_n 1, 1) := by decide +kernel
theorem dX6_readValue_354 : decode cX6_readValue 354 = .ok (.invokevirtual 224, 3) := by decide +kernel
theorem dX6_readValue_357 : decode cX6_readValue 357 = .ok (.ifCond .eq 30, 3) := by decide +kernel
theorem dX6_readValue_360 : decode cX6_readValue 360 = .ok (.aload_n 0, 1) := by decide +kernel
