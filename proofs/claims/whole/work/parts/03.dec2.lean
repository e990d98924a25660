theorem dX11_move_137 : decode cX11_move 137 = .ok (.goto (-125), 3) := by decide +kernel
theorem dX11_move_140 : decode cX11_move 140 = .ok (.return_, 1) := by decide +kernel
theorem dX11_pass_0 : decode cX11_pass 0 = .ok (.aload_n 0, 1) := by decide +kernel
theorem dX11_pass_1 : decode cX11_pass 1 = .ok (.invokevirtual 81, 3) := by decide +kernel
theorem dX11_pass_4 : decode cX11_pass 4 = .ok (.aload_n 0, 1) := by decide +kernel
theorem dX11_pass_5 : decode cX11_pass 5 = .ok (.getfield 44, 3) := by decide +kernel
theorem dX11_pass_8 : decode cX11_pass 8 = .ok (.istore_n 1, 1) := by decide +kernel
theorem dX11_pass_9 : decode cX11_pass 9 = .ok (.iconst 0, 1) := by decide +kernel
theorem dX11_pass_10 : decode cX11_pass 10 = .ok (.istore_n 2, 1) := by decide +kernel
theorem dX11_pass_11 : decode cX11_pass 11 = .ok (.iload_n 2, 1) := by decide +kernel
theorem dX11_pass_12 : decode cX11_pass 12 = .ok (.aload_n 0, 1) := by decide +kernel
theorem dX11_pass_13 : decode cX11_pass 13 = .ok (.getfield 3, 3) := by decide +kernel
theorem dX11_pass_16 : decode cX11_pass 16 = .ok (.getfield 51, 3) := by decide +kernel
theorem dX11_pass_19 : decode cX11_pass 19 = .ok (.getfield 84, 3) := by decide +kernel
theorem dX11_pass_22 : decode cX11_pass 22 = .ok (.if_icmp .ge 156, 3) := by decide +kernel
theorem dX11_pass_25 : decode cX11_pass 25 = .ok (.aload_n 0, 1) := by decide +kernel
theorem dX11_pass_26 : decode cX11_pass 26 = .ok (.getfield 44, 3) := by decide +kernel
theorem dX11_pass_29 : decode cX11_pass 29 = .ok (.sipush 600, 3) := by decide +kernel
theorem dX11_pass_32 : decode cX11_pass 32 = .ok (.if_icmp .ge 146, 3) := by decide +kernel
theorem dX11_pass_35 : decode cX11_pass 35 = .ok (.aload_n 0, 1) := by decide +kernel
theorem dX11_pass_36 : decode cX11_pass 36 = .ok (.aload_n 0, 1) := by decide +kernel
theorem dX11_pass_37 : decode cX11_pass 37 = .ok (.getfield 3, 3) := by decide +kernel
theorem dX11_pass_40 : decode cX11_pass 40 = .ok (.getfield 51, 3) := by decide +kernel
theorem dX11_pass_43 : decode cX11_pass 43 = .ok (.getfield 87, 3) := by decide +kernel
theorem dX11_pass_46 : decode cX11_pass 46 = .ok (.iload_n 2, 1) := by decide +kernel
theorem dX11_pass_47 : decode cX11_pass 47 = .ok (.iaload, 1) := by decide +kernel
theorem dX11_pass_48 : decode cX11_pass 48 = .ok (.aload_n 0, 1) := by decide +kernel
theorem dX11_pass_49 : decode cX11_pass 49 = .ok (.getfield 3, 3) := by decide +kernel
theorem dX11_pass_52 : decode cX11_pass 52 = .ok (.getfield 51, 3) := by decide +kernel
theorem dX11_pass_55 : decode cX11_pass 55 = .ok (.getfield 90, 3) := by decide +kernel
theorem dX11_pass_58 : decode cX11_pass 58 = .ok (.iload_n 2, 1) := by decide +kernel
theorem dX11_pass_59 : decode cX11_pass 59 = .ok (.iaload, 1) := by decide +kernel
theorem dX11_pass_60 : decode cX11_pass 60 = .ok (.invokevirtual 93, 3) := by decide +kernel
theorem dX11_pass_63 : decode cX11_pass 63 = .ok (.ifCond .ne 6, 3) := by decide +kernel
theorem dX11_pass_66 : decode cX11_pass 66 = .ok (.goto 106, 3) := by decide +kernel
theorem dX11_pass_69 : decode cX11_pass 69 = .ok (.aload_n 0, 1) := by decide +kernel
theorem dX11_pass_70 : decode cX11_pass 70 = .ok (.getfield 3, 3) := by decide +kernel
theorem dX11_pass_73 : decode cX11_pass 73 = .ok (.getfield 51, 3) := by decide +kernel
theorem dX11_pass_76 : decode cX11_pass 76 = .ok (.getfield 96, 3) := by decide +kernel
theorem dX11_pass_79 : decode cX11_pass 79 = .ok (.iload_n 2, 1) := by decide +kernel
theorem dX11_pass_80 : decode cX11_pass 80 = .ok (.iaload, 1) := by decide +kernel
theorem dX11_pass_81 : decode cX11_pass 81 = .ok (.istore_n 3, 1) := by decide +kernel
theorem dX11_pass_82 : decode cX11_pass 82 = .ok (.aload_n 0, 1) := by decide +kernel
theorem dX11_pass_83 : decode cX11_pass 83 = .ok (.getfield 28, 3) := by decide +kernel
theorem dX11_pass_86 : decode cX11_pass 86 = .ok (.aload_n 0, 1) := by decide +kernel
theorem dX11_pass_87 : decode cX11_pass 87 = .ok (.getfield 44, 3) := by decide +kernel
theorem dX11_pass_90 : decode cX11_pass 90 = .ok (.aload_n 0, 1) := by decide +kernel
theorem dX11_pass_91 : decode cX11_pass 91 = .ok (.getfield 3, 3) := by decide +kernel
theorem dX11_pass_94 : decode cX11_pass 94 = .ok (.getfield 51, 3) := by decide +kernel
theorem dX11_pass_97 : decode cX11_pass 97 = .ok (.getfield 99, 3) := by decide +kernel
theorem dX11_pass_100 : decode cX11_pass 100 = .ok (.bipush 12, 2) := by decide +kernel
theorem dX11_pass_102 : decode cX11_pass 102 = .ok (.iload_n 3, 1) := by decide +kernel
theorem dX11_pass_103 : decode cX11_pass 103 = .ok (.imul, 1) := by decide +kernel
theorem dX11_pass_104 : decode cX11_pass 104 = .ok (.aload_n 0, 1) := by decide +kernel
theorem dX11_pass_105 : decode cX11_pass 105 = .ok (.aload_n 0, 1) := by decide +kernel
theorem dX11_pass_106 : decode cX11_pass 106 = .ok (.getfield 3, 3) := by decide +kernel
theorem dX11_pass_109 : decode cX11_pass 109 = .ok (.getfield 51, 3) := by decide +kernel
theorem dX11_pass_112 : decode cX11_pass 112 = .ok (.getfield 90, 3) := by decide +kernel
theorem dX11_pass_115 : decode cX11_pass 115 = .ok (.iload_n 2, 1) := by decide +kernel
theorem dX11_pass_116 : decode cX11_pass 116 = .ok (.iaload, 1) := by decide +kernel
theorem dX11_pass_117 : decode cX11_pass 117 = .ok (.aload_n 0, 1) := by decide +kernel
theorem dX11_pass_118 : decode cX11_pass 118 = .ok (.getfield 3, 3) := by decide +kernel
theorem dX11_pass_121 : decode cX11_pass 121 = .ok (.getfield 51, 3) := by decide +kernel
theorem dX11_pass_124 : decode cX11_pass 124 = .ok (.getfield 87, 3) := by decide +kernel
theorem dX11_pass_127 : decode cX11_pass 127 = .ok (.iload_n 2, 1) := by decide +kernel
theorem dX11_pass_128 : decode cX11_pass 128 = .ok (.iconst 1, 1) := by decide +kernel
theorem dX11_pass_129 : decode cX11_pass 129 = .ok (.iadd, 1) := by decide +kernel
theorem dX11_pass_130 : decode cX11_pass 130 = .ok (.iaload, 1) := by decide +kernel
theorem dX11_pass_131 : decode cX11_pass 131 = .ok (.invokevirtual 93, 3) := by decide +kernel
theorem dX11_pass_134 : decode cX11_pass 134 = .ok (.aload_n 0, 1) := by decide +kernel
theorem dX11_pass_135 : decode cX11_pass 135 = .ok (.getfield 3, 3) := by decide +kernel
theorem dX11_pass_138 : decode cX11_pass 138 = .ok (.getfield 51, 3) := by decide +kernel
theorem dX11_pass_141 : decode cX11_pass 141 = .ok (.getfield 102, 3) := by decide +kernel
theorem dX11_pass_144 : decode cX11_pass 144 = .ok (.iload_n 3, 1) := by decide +kernel
theorem dX11_pass_145 : decode cX11_pass 145 = .ok (.iaload, 1) := by decide +kernel
theorem dX11_pass_146 : decode cX11_pass 146 = .ok (.invokestatic 105, 3) := by decide +kernel
theorem dX11_pass_149 : decode cX11_pass 149 = .ok (.iadd, 1) := by decide +kernel
theorem dX11_pass_150 : decode cX11_pass 150 = .ok (.iaload, 1) := by decide +kernel
theorem dX11_pass_151 : decode cX11_pass 151 = .ok (.iastore, 1) := by decide +kernel
theorem dX11_pass_152 : decode cX11_pass 152 = .ok (.aload_n 0, 1) := by decide +kernel
theorem dX11_pass_153 : decode cX11_pass 153 = .ok (.dup, 1) := by decide +kernel
theorem dX11_pass_154 : decode cX11_pass 154 = .ok (.getfield 44, 3) := by decide +kernel
theorem dX11_pass_157 : decode cX11_pass 157 = .ok (.iconst 1, 1) := by decide +kernel
theorem dX11_pass_158 : decode cX11_pass 158 = .ok (.iadd, 1) := by decide +kernel
theorem dX11_pass_159 : decode cX11_pass 159 = .ok (.putfield 44, 3) := by decide +kernel
theorem dX11_pass_162 : decode cX11_pass 162 = .ok (.aload_n 0, 1) := by decide +kernel
theorem dX11_pass_163 : decode cX11_pass 163 = .ok (.getfield 25, 3) := by decide +kernel
theorem dX11_pass_166 : decode cX11_pass 166 = .ok (.iload_n 2, 1) := by decide +kernel
theorem dX11_pass_167 : decode cX11_pass 167 = .ok (.dup2, 1) := by decide +kernel
theorem dX11_pass_168 : decode cX11_pass 168 = .ok (.iaload, 1) := by decide +kernel
theorem dX11_pass_169 : decode cX11_pass 169 = .ok (.iconst 1, 1) := by decide +kernel
theorem dX11_pass_170 : decode cX11_pass 170 = .ok (.iadd, 1) := by decide +kernel
theorem dX11_pass_171 : decode cX11_pass 171 = .ok (.iastore, 1) := by decide +kernel
theorem dX11_pass_172 : decode cX11_pass 172 = .ok (.iinc 2 1, 3) := by decide +kernel
theorem dX11_pass_175 : decode cX11_pass 175 = .ok (.goto (-164), 3) := by decide +kernel
theorem dX11_pass_178 : decode cX11_pass 178 = .ok (.aload_n 0, 1) := by decide +kernel
theorem dX11_pass_179 : decode cX11_pass 179 = .ok (.getfield 44, 3) := by decide +kernel
theorem dX11_pass_182 : decode cX11_pass 182 = .ok (.iload_n 1, 1) := by decide +kernel
theorem dX11_pass_183 : decode cX11_pass 183 = .ok (.isub, 1) := by decide +kernel
theorem dX11_pass_184 : decode cX11_pass 184 = .ok (.ireturn, 1) := by decide +kernel
theorem dX11_carryOut_0 : decode cX11_carryOut 0 = .ok (.iconst (-1), 1) := by decide +kernel
theorem dX11_carryOut_1 : decode cX11_carryOut 1 = .ok (.istore_n 3, 1) := by decide +kernel
theorem dX11_carryOut_2 : decode cX11_carryOut 2 = .ok (.iload_n 1, 1) := by decide +kernel
theorem dX11_carryOut_3 : decode cX11_carryOut 3 = .ok (.istore 4, 2) := by decide +kernel
theorem dX11_carryOut_5 : decode cX11_carryOut 5 = .ok (.iload 4, 2) := by decide +kernel
theorem dX11_carryOut_7 : decode cX11_carryOut 7 = .ok (.iload_n 2, 1) := by decide +kernel
theorem dX11_carryOut_8 : decode cX11_carryOut 8 = .ok (.if_icmp .ge 213, 3) := by decide +kernel
theorem dX11_carryOut_11 : decode cX11_carryOut 11 = .ok (.aload_n 0, 1) := by decide +kernel
theorem dX11_carryOut_12 : decode cX11_carryOut 12 = .ok (.getfield 3, 3) := by decide +kernel
theorem dX11_carryOut_15 : decode cX11_carryOut 15 = .ok (.getfield 51, 3) := by decide +kernel
theorem dX11_carryOut_18 : decode cX11_carryOut 18 = .ok (.getfield 108, 3) := by decide +kernel
theorem dX11_carryOut_21 : decode cX11_carryOut 21 = .ok (.iload 4, 2) := by decide +kernel
theorem dX11_carryOut_23 : decode cX11_carryOut 23 = .ok (.iaload, 1) := by decide +kernel
theorem dX11_carryOut_24 : decode cX11_carryOut 24 = .ok (.istore 5, 2) := by decide +kernel
theorem dX11_carryOut_26 : decode cX11_carryOut 26 = .ok (.aload_n 0, 1) := by decide +kernel
theorem dX11_carryOut_27 : decode cX11_carryOut 27 = .ok (.getfield 3, 3) := by decide +kernel
theorem dX11_carryOut_30 : decode cX11_carryOut 30 = .ok (.getfield 51, 3) := by decide +kernel
theorem dX11_carryOut_33 : decode cX11_carryOut 33 = .ok (.getfield 108, 3) := by decide +kernel
theorem dX11_carryOut_36 : decode cX11_carryOut 36 = .ok (.iload 4, 2) := by decide +kernel
theorem dX11_carryOut_38 : decode cX11_carryOut 38 = .ok (.iconst 1, 1) := by decide +kernel
theorem dX11_carryOut_39 : decode cX11_carryOut 39 = .ok (.iadd, 1) := by decide +kernel
theorem dX11_carryOut_40 : decode cX11_carryOut 40 = .ok (.iaload, 1) := by decide +kernel
theorem dX11_carryOut_41 : decode cX11_carryOut 41 = .ok (.istore 6, 2) := by decide +kernel
theorem dX11_carryOut_43 : decode cX11_carryOut 43 = .ok (.aload_n 0, 1) := by decide +kernel
theorem dX11_carryOut_44 : decode cX11_carryOut 44 = .ok (.getfield 3, 3) := by decide +kernel
theorem dX11_carryOut_47 : decode cX11_carryOut 47 = .ok (.getfield 51, 3) := by decide +kernel
theorem dX11_carryOut_50 : decode cX11_carryOut 50 = .ok (.getfield 108, 3) := by decide +kernel
theorem dX11_carryOut_53 : decode cX11_carryOut 53 = .ok (.iload 4, 2) := by decide +kernel
theorem dX11_carryOut_55 : decode cX11_carryOut 55 = .ok (.iconst 2, 1) := by decide +kernel
theorem dX11_carryOut_56 : decode cX11_carryOut 56 = .ok (.iadd, 1) := by decide +kernel
theorem dX11_carryOut_57 : decode cX11_carryOut 57 = .ok (.iaload, 1) := by decide +kernel
theorem dX11_carryOut_58 : decode cX11_carryOut 58 = .ok (.istore 7, 2) := by decide +kernel
theorem dX11_carryOut_60 : decode cX11_carryOut 60 = .ok (.iload 5, 2) := by decide +kernel
theorem dX11_carryOut_62 : decode cX11_carryOut 62 = .ok (.invokestatic 111, 3) := by decide +kernel
theorem dX11_carryOut_65 : decode cX11_carryOut 65 = .ok (.ifCond .eq 74, 3) := by decide +kernel
theorem dX11_carryOut_68 : decode cX11_carryOut 68 = .ok (.iinc 3 1, 3) := by decide +kernel
theorem dX11_carryOut_71 : decode cX11_carryOut 71 = .ok (.aload_n 0, 1) := by decide +kernel
theorem dX11_carryOut_72 : decode cX11_carryOut 72 = .ok (.getfield 31, 3) := by decide +kernel
theorem dX11_carryOut_75 : decode cX11_carryOut 75 = .ok (.iload_n 3, 1) := by decide +kernel
theorem dX11_carryOut_76 : decode cX11_carryOut 76 = .ok (.aload_n 0, 1) := by decide +kernel
theorem dX11_carryOut_77 : decode cX11_carryOut 77 = .ok (.iload 5, 2) := by decide +kernel
theorem dX11_carryOut_79 : decode cX11_carryOut 79 = .ok (.iload 6, 2) := by decide +kernel
theorem dX11_carryOut_81 : decode cX11_carryOut 81 = .ok (.iload 7, 2) := by decide +kernel
theorem dX11_carryOut_83 : decode cX11_carryOut 83 = .ok (.invokevirtual 114, 3) := by decide +kernel
theorem dX11_carryOut_86 : decode cX11_carryOut 86 = .ok (.iastore, 1) := by decide +kernel
theorem dX11_carryOut_87 : decode cX11_carryOut 87 = .ok (.iload 4, 2) := by decide +kernel
theorem dX11_carryOut_89 : decode cX11_carryOut 89 = .ok (.iload 5, 2) := by decide +kernel
theorem dX11_carryOut_91 : decode cX11_carryOut 91 = .ok (.bipush 14, 2) := by decide +kernel
theorem dX11_carryOut_93 : decode cX11_carryOut 93 = .ok (.if_icmp .eq 17, 3) := by decide +kernel
theorem dX11_carryOut_96 : decode cX11_carryOut 96 = .ok (.iload 5, 2) := by decide +kernel
theorem dX11_carryOut_98 : decode cX11_carryOut 98 = .ok (.bipush 10, 2) := by decide +kernel
theorem dX11_carryOut_100 : decode cX11_carryOut 100 = .ok (.if_icmp .eq 10, 3) := by decide +kernel
theorem dX11_carryOut_103 : decode cX11_carryOut 103 = .ok (.iload 5, 2) := by decide +kernel
theorem dX11_carryOut_105 : decode cX11_carryOut 105 = .ok (.bipush 11, 2) := by decide +kernel
theorem dX11_carryOut_107 : decode cX11_carryOut 107 = .ok (.if_icmp .ne 7, 3) := by decide +kernel
theorem dX11_carryOut_110 : decode cX11_carryOut 110 = .ok (.iconst 3, 1) := by decide +kernel
theorem dX11_carryOut_111 : decode cX11_carryOut 111 = .ok (.goto 22, 3) := by decide +kernel
theorem dX11_carryOut_114 : decode cX11_carryOut 114 = .ok (.iload 5, 2) := by decide +kernel
theorem dX11_carryOut_116 : decode cX11_carryOut 116 = .ok (.bipush 15, 2) := by decide +kernel
theorem dX11_carryOut_118 : decode cX11_carryOut 118 = .ok (.if_icmp .eq 10, 3) := by decide +kernel
theorem dX11_carryOut_121 : decode cX11_carryOut 121 = .ok (.iload 5, 2) := by decide +kernel
theorem dX11_carryOut_123 : decode cX11_carryOut 123 = .ok (.bipush 16, 2) := by decide +kernel
theorem dX11_carryOut_125 : decode cX11_carryOut 125 = .ok (.if_icmp .ne 7, 3) := by decide +kernel
theorem dX11_carryOut_128 : decode cX11_carryOut 128 = .ok (.iconst 1, 1) := by decide +kernel
theorem dX11_carryOut_129 : decode cX11_carryOut 129 = .ok (.goto 4, 3) := by decide +kernel
theorem dX11_carryOut_132 : decode cX11_carryOut 132 = .ok (.iconst 2, 1) := by decide +kernel
theorem dX11_carryOut_133 : decode cX11_carryOut 133 = .ok (.iadd, 1) := by decide +kernel
theorem dX11_carryOut_134 : decode cX11_carryOut 134 = .ok (.istore 4, 2) := by decide +kernel
theorem dX11_carryOut_136 : decode cX11_carryOut 136 = .ok (.goto (-131), 3) := by decide +kernel
theorem dX11_carryOut_139 : decode cX11_carryOut 139 = .ok (.iinc 4 1, 3) := by decide +kernel
theorem dX11_carryOut_142 : decode cX11_carryOut 142 = .ok (.iload 5, 2) := by decide +kernel
theorem dX11_carryOut_144 : decode cX11_carryOut 144 = .ok (.bipush 41, 2) := by decide +kernel
theorem dX11_carryOut_146 : decode cX11_carryOut 146 = .ok (.if_icmp .eq 10, 3) := by decide +kernel
theorem dX11_carryOut_149 : decode cX11_carryOut 149 = .ok (.iload 5, 2) := by decide +kernel
theorem dX11_carryOut_151 : decode cX11_carryOut 151 = .ok (.bipush 17, 2) := by decide +kernel
theorem dX11_carryOut_153 : decode cX11_carryOut 153 = .ok (.if_icmp .ne 37, 3) := by decide +kernel
theorem dX11_carryOut_156 : decode cX11_carryOut 156 = .ok (.aload_n 0, 1) := by decide +kernel
theorem dX11_carryOut_157 : decode cX11_carryOut 157 = .ok (.getfield 31, 3) := by decide +kernel
theorem dX11_carryOut_160 : decode cX11_carryOut 160 = .ok (.iload_n 3, 1) := by decide +kernel
theorem dX11_carryOut_161 : decode cX11_carryOut 161 = .ok (.iload 5, 2) := by decide +kernel
theorem dX11_carryOut_163 : decode cX11_carryOut 163 = .ok (.bipush 41, 2) := by decide +kernel
theorem dX11_carryOut_165 : decode cX11_carryOut 165 = .ok (.if_icmp .ne 13, 3) := by decide +kernel
theorem dX11_carryOut_168 : decode cX11_carryOut 168 = .ok (.aload_n 0, 1) := by decide +kernel
theorem dX11_carryOut_169 : decode cX11_carryOut 169 = .ok (.getfield 31, 3) := by decide +kernel
theorem dX11_carryOut_172 : decode cX11_carryOut 172 = .ok (.iload_n 3, 1) := by decide +kernel
theorem dX11_carryOut_173 : decode cX11_carryOut 173 = .ok (.iaload, 1) := by decide +kernel
theorem dX11_carryOut_174 : decode cX11_carryOut 174 = .ok (.ineg, 1) := by decide +kernel
theorem dX11_carryOut_175 : decode cX11_carryOut 175 = .ok (.goto 11, 3) := by decide +kernel
theorem dX11_carryOut_178 : decode cX11_carryOut 178 = .ok (.iconst 1, 1) := by decide +kernel
theorem dX11_carryOut_179 : decode cX11_carryOut 179 = .ok (.aload_n 0, 1) := by decide +kernel
theorem dX11_carryOut_180 : decode cX11_carryOut 180 = .ok (.getfield 31, 3) := by decide +kernel
theorem dX11_carryOut_183 : decode cX11_carryOut 183 = .ok (.iload_n 3, 1) := by decide +kernel
theorem dX11_carryOut_184 : decode cX11_carryOut 184 = .ok (.iaload, 1) := by decide +kernel
theorem dX11_carryOut_185 : decode cX11_carryOut 185 = .ok (.isub, 1) := by decide +kernel
theorem dX11_carryOut_186 : decode cX11_carryOut 186 = .ok (.iastore, 1) := by decide +kernel
theorem dX11_carryOut_187 : decode cX11_carryOut 187 = .ok (.goto (-182), 3) := by decide +kernel
theorem dX11_carryOut_190 : decode cX11_carryOut 190 = .ok (.iinc 3 (-1), 3) := by decide +kernel
theorem dX11_carryOut_193 : decode cX11_carryOut 193 = .ok (.aload_n 0, 1) := by decide +kernel
theorem dX11_carryOut_194 : decode cX11_carryOut 194 = .ok (.getfield 31, 3) := by decide +kernel
theorem dX11_carryOut_197 : decode cX11_carryOut 197 = .ok (.iload_n 3, 1) := by decide +kernel
theorem dX11_carryOut_198 : decode cX11_carryOut 198 = .ok (.iload 5, 2) := by decide +kernel
theorem dX11_carryOut_200 : decode cX11_carryOut 200 = .ok (.aload_n 0, 1) := by decide +kernel
theorem dX11_carryOut_201 : decode cX11_carryOut 201 = .ok (.getfield 31, 3) := by decide +kernel
theorem dX11_carryOut_204 : decode cX11_carryOut 204 = .ok (.iload_n 3, 1) := by decide +kernel
theorem dX11_carryOut_205 : decode cX11_carryOut 205 = .ok (.iaload, 1) := by decide +kernel
theorem dX11_carryOut_206 : decode cX11_carryOut 206 = .ok (.aload_n 0, 1) := by decide +kernel
theorem dX11_carryOut_207 : decode cX11_carryOut 207 = .ok (.getfield 31, 3) := by decide +kernel
theorem dX11_carryOut_210 : decode cX11_carryOut 210 = .ok (.iload_n 3, 1) := by decide +kernel
theorem dX11_carryOut_211 : decode cX11_carryOut 211 = .ok (.iconst 1, 1) := by decide +kernel
theorem dX11_carryOut_212 : decode cX11_carryOut 212 = .ok (.iadd, 1) := by decide +kernel
theorem dX11_carryOut_213 : decode cX11_carryOut 213 = .ok (.iaload, 1) := by decide +kernel
theorem dX11_carryOut_214 : decode cX11_carryOut 214 = .ok (.invokestatic 118, 3) := by decide +kernel
theorem dX11_carryOut_217 : decode cX11_carryOut 217 = .ok (.iastore, 1) := by decide +kernel
theorem dX11_carryOut_218 : decode cX11_carryOut 218 = .ok (.goto (-213), 3) := by decide +kernel
theorem dX11_carryOut_221 : decode cX11_carryOut 221 = .ok (.aload_n 0, 1) := by decide +kernel
theorem dX11_carryOut_222 : decode cX11_carryOut 222 = .ok (.getfield 31, 3) := by decide +kernel
theorem dX11_carryOut_225 : decode cX11_carryOut 225 = .ok (.iconst 0, 1) := by decide +kernel
theorem dX11_carryOut_226 : decode cX11_carryOut 226 = .ok (.iaload, 1) := by decide +kernel
theorem dX11_carryOut_227 : decode cX11_carryOut 227 = .ok (.ireturn, 1) := by decide +kernel
theorem dX11_pushed_0 : decode cX11_pushed 0 = .ok (.iload_n 1, 1) := by decide +kernel
theorem dX11_pushed_1 : decode cX11_pushed 1 = .ok (.lookupswitch 178 #[(4, 117), (10, 131), (12, 87), (13, 94), (14, 101), (15, 77), (16, 82), (40, 75)], 75) := by decide +kernel
theorem dX11_pushed_76 : decode cX11_pushed 76 = .ok (.iload_n 2, 1) := by decide +kernel
theorem dX11_pushed_77 : decode cX11_pushed 77 = .ok (.ireturn, 1) := by decide +kernel
theorem dX11_pushed_78 : decode cX11_pushed 78 = .ok (.aload_n 0, 1) := by decide +kernel
theorem dX11_pushed_79 : decode cX11_pushed 79 = .ok (.getfield 40, 3) := by decide +kernel
theorem dX11_pushed_82 : decode cX11_pushed 82 = .ok (.ireturn, 1) := by decide +kernel
theorem dX11_pushed_83 : decode cX11_pushed 83 = .ok (.aload_n 0, 1) := by decide +kernel
theorem dX11_pushed_84 : decode cX11_pushed 84 = .ok (.getfield 44, 3) := by decide +kernel
theorem dX11_pushed_87 : decode cX11_pushed 87 = .ok (.ireturn, 1) := by decide +kernel
theorem dX11_pushed_88 : decode cX11_pushed 88 = .ok (.aload_n 0, 1) := by decide +kernel
theorem dX11_pushed_89 : decode cX11_pushed 89 = .ok (.getfield 15, 3) := by decide +kernel
theorem dX11_pushed_92 : decode cX11_pushed 92 = .ok (.iload_n 2, 1) := by decide +kernel
theorem dX11_pushed_93 : decode cX11_pushed 93 = .ok (.iaload, 1) := by decide +kernel
theorem dX11_pushed_94 : decode cX11_pushed 94 = .ok (.ireturn, 1) := by decide +kernel
theorem dX11_pushed_95 : decode cX11_pushed 95 = .ok (.aload_n 0, 1) := by decide +kernel
theorem dX11_pushed_96 : decode cX11_pushed 96 = .ok (.getfield 22, 3) := by decide +kernel
theorem dX11_pushed_99 : decode cX11_pushed 99 = .ok (.iload_n 2, 1) := by decide +kernel
theorem dX11_pushed_100 : decode cX11_pushed 100 = .ok (.iaload, 1) := by decide +kernel
theorem dX11_pushed_101 : decode cX11_pushed 101 = .ok (.ireturn, 1) := by decide +kernel
theorem dX11_pushed_102 : decode cX11_pushed 102 = .ok (.aload_n 0, 1) := by decide +kernel
theorem dX11_pushed_103 : decode cX11_pushed 103 = .ok (.getfield 15, 3) := by decide +kernel
theorem dX11_pushed_106 : decode cX11_pushed 106 = .ok (.iload_n 2, 1) := by decide +kernel
theorem dX11_pushed_107 : decode cX11_pushed 107 = .ok (.iaload, 1) := by decide +kernel
theorem dX11_pushed_108 : decode cX11_pushed 108 = .ok (.aload_n 0, 1) := by decide +kernel
theorem dX11_pushed_109 : decode cX11_pushed 109 = .ok (.getfield 15, 3) := by decide +kernel
theorem dX11_pushed_112 : decode cX11_pushed 112 = .ok (.iload_n 3, 1) := by decide +kernel
theorem dX11_pushed_113 : decode cX11_pushed 113 = .ok (.iaload, 1) := by decide +kernel
theorem dX11_pushed_114 : decode cX11_pushed 114 = .ok (.invokestatic 60, 3) := by decide +kernel
theorem dX11_pushed_117 : decode cX11_pushed 117 = .ok (.ireturn, 1) := by decide +kernel
theorem dX11_pushed_118 : decode cX11_pushed 118 = .ok (.aload_n 0, 1) := by decide +kernel
theorem dX11_pushed_119 : decode cX11_pushed 119 = .ok (.iload_n 2, 1) := by decide +kernel
theorem dX11_pushed_120 : decode cX11_pushed 120 = .ok (.invokevirtual 77, 3) := by decide +kernel
theorem dX11_pushed_123 : decode cX11_pushed 123 = .ok (.ifCond .eq 7, 3) := by decide +kernel
theorem dX11_pushed_126 : decode cX11_pushed 126 = .ok (.iconst 1, 1) := by decide +kernel
theorem dX11_pushed_127 : decode cX11_pushed 127 = .ok (.goto 4, 3) := by decide +kernel
theorem dX11_pushed_130 : decode cX11_pushed 130 = .ok (.iconst 0, 1) := by decide +kernel
theorem dX11_pushed_131 : decode cX11_pushed 131 = .ok (.ireturn, 1) := by decide +kernel
theorem dX11_pushed_132 : decode cX11_pushed 132 = .ok (.aload_n 0, 1) := by decide +kernel
theorem dX11_pushed_133 : decode cX11_pushed 133 = .ok (.iload_n 2, 1) := by decide +kernel
theorem dX11_pushed_134 : decode cX11_pushed 134 = .ok (.iload_n 3, 1) := by decide +kernel
theorem dX11_pushed_135 : decode cX11_pushed 135 = .ok (.iconst 0, 1) := by decide +kernel
theorem dX11_pushed_136 : decode cX11_pushed 136 = .ok (.invokevirtual 73, 3) := by decide +kernel
theorem dX11_pushed_139 : decode cX11_pushed 139 = .ok (.ifCond .eq 38, 3) := by decide +kernel
theorem dX11_pushed_142 : decode cX11_pushed 142 = .ok (.aload_n 0, 1) := by decide +kernel
theorem dX11_pushed_143 : decode cX11_pushed 143 = .ok (.getfield 3, 3) := by decide +kernel
theorem dX11_pushed_146 : decode cX11_pushed 146 = .ok (.getfield 51, 3) := by decide +kernel
theorem dX11_pushed_149 : decode cX11_pushed 149 = .ok (.getfield 55, 3) := by decide +kernel
theorem dX11_pushed_152 : decode cX11_pushed 152 = .ok (.iconst 5, 1) := by decide +kernel
theorem dX11_pushed_153 : decode cX11_pushed 153 = .ok (.iload_n 2, 1) := by decide +kernel
theorem dX11_pushed_154 : decode cX11_pushed 154 = .ok (.imul, 1) := by decide +kernel
theorem dX11_pushed_155 : decode cX11_pushed 155 = .ok (.iaload, 1) := by decide +kernel
theorem dX11_pushed_156 : decode cX11_pushed 156 = .ok (.aload_n 0, 1) := by decide +kernel
theorem dX11_pushed_157 : decode cX11_pushed 157 = .ok (.getfield 3, 3) := by decide +kernel
theorem dX11_pushed_160 : decode cX11_pushed 160 = .ok (.getfield 51, 3) := by decide +kernel
theorem dX11_pushed_163 : decode cX11_pushed 163 = .ok (.getfield 55, 3) := by decide +kernel
theorem dX11_pushed_166 : decode cX11_pushed 166 = .ok (.iconst 5, 1) := by decide +kernel
theorem dX11_pushed_167 : decode cX11_pushed 167 = .ok (.iload_n 3, 1) := by decide +kernel
theorem dX11_pushed_168 : decode cX11_pushed 168 = .ok (.imul, 1) := by decide +kernel
theorem dX11_pushed_169 : decode cX11_pushed 169 = .ok (.iaload, 1) := by decide +kernel
theorem dX11_pushed_170 : decode cX11_pushed 170 = .ok (.if_icmp .gt 7, 3) := by decide +kernel
theorem dX11_pushed_173 : decode cX11_pushed 173 = .ok (.iconst 1, 1) := by decide +kernel
theorem dX11_pushed_174 : decode cX11_pushed 174 = .ok (.goto 4, 3) := by decide +kernel
theorem dX11_pushed_177 : decode cX11_pushed 177 = .ok (.iconst 0, 1) := by decide +kernel
theorem dX11_pushed_178 : decode cX11_pushed 178 = .ok (.ireturn, 1) := by decide +kernel
theorem dX11_pushed_179 : decode cX11_pushed 179 = .ok (.aload_n 0, 1) := by decide +kernel
theorem dX11_pushed_180 : decode cX11_pushed 180 = .ok (.iload_n 2, 1) := by decide +kernel
theorem dX11_pushed_181 : decode cX11_pushed 181 = .ok (.iload_n 3, 1) := by decide +kernel
theorem dX11_pushed_182 : decode cX11_pushed 182 = .ok (.sipush 180, 3) := by decide +kernel
theorem dX11_pushed_185 : decode cX11_pushed 185 = .ok (.invokevirtual 73, 3) := by decide +kernel
theorem dX11_pushed_188 : decode cX11_pushed 188 = .ok (.ifCond .eq 7, 3) := by decide +kernel
theorem dX11_pushed_191 : decode cX11_pushed 191 = .ok (.iconst 1, 1) := by decide +kernel
theorem dX11_pushed_192 : decode cX11_pushed 192 = .ok (.goto 4, 3) := by decide +kernel
theorem dX11_pushed_195 : decode cX11_pushed 195 = .ok (.iconst 0, 1) := by decide +kernel
theorem dX11_pushed_196 : decode cX11_pushed 196 = .ok (.ireturn, 1) := by decide +kernel
theorem dX11_find_0 : decode cX11_find 0 = .ok (.aload_n 0, 1) := by decide +kernel
theorem dX11_find_1 : decode cX11_find 1 = .ok (.getfield 3, 3) := by decide +kernel
theorem dX11_find_4 : decode cX11_find 4 = .ok (.getfield 121, 3) := by decide +kernel
theorem dX11_find_7 : decode cX11_find 7 = .ok (.ifCond .ne 5, 3) := by decide +kernel
theorem dX11_find_10 : decode cX11_find 10 = .ok (.iconst (-1), 1) := by decide +kernel
theorem dX11_find_11 : decode cX11_find 11 = .ok (.ireturn, 1) := by decide +kernel
theorem dX11_find_12 : decode cX11_find 12 = .ok (.iload_n 1, 1) := by decide +kernel
theorem dX11_find_13 : decode cX11_find 13 = .ok (.istore_n 2, 1) := by decide +kernel
theorem dX11_find_14 : decode cX11_find 14 = .ok (.iload_n 2, 1) := by decide +kernel
theorem dX11_find_15 : decode cX11_find 15 = .ok (.aload_n 0, 1) := by decide +kernel
theorem dX11_find_16 : decode cX11_find 16 = .ok (.getfield 3, 3) := by decide +kernel
theorem dX11_find_19 : decode cX11_find 19 = .ok (.getfield 121, 3) := by decide +kernel
theorem dX11_find_22 : decode cX11_find 22 = .ok (.iadd, 1) := by decide +kernel
theorem dX11_find_23 : decode cX11_find 23 = .ok (.aload_n 0, 1) := by decide +kernel
theorem dX11_find_24 : decode cX11_find 24 = .ok (.getfield 44, 3) := by decide +kernel
theorem dX11_find_27 : decode cX11_find 27 = .ok (.if_icmp .gt 61, 3) := by decide +kernel
theorem dX11_find_30 : decode cX11_find 30 = .ok (.iconst 0, 1) := by decide +kernel
theorem dX11_find_31 : decode cX11_find 31 = .ok (.istore_n 3, 1) := by decide +kernel
theorem dX11_find_32 : decode cX11_find 32 = .ok (.iload_n 3, 1) := by decide +kernel
theorem dX11_find_33 : decode cX11_find 33 = .ok (.aload_n 0, 1) := by decide +kernel
theorem dX11_find_34 : decode cX11_find 34 = .ok (.getfield 3, 3) := by decide +kernel
theorem dX11_find_37 : decode cX11_find 37 = .ok (.getfield 121, 3) := by decide +kernel
theorem dX11_find_40 : decode cX11_find 40 = .ok (.if_icmp .ge 29, 3) := by decide +kernel
theorem dX11_find_43 : decode cX11_find 43 = .ok (.aload_n 0, 1) := by decide +kernel
theorem dX11_find_44 : decode cX11_find 44 = .ok (.getfield 28, 3) := by decide +kernel
theorem dX11_find_47 : decode cX11_find 47 = .ok (.iload_n 2, 1) := by decide +kernel
theorem dX11_find_48 : decode cX11_find 48 = .ok (.iload_n 3, 1) := by decide +kernel
theorem dX11_find_49 : decode cX11_find 49 = .ok (.iadd, 1) := by decide +kernel
theorem dX11_find_50 : decode cX11_find 50 = .ok (.iaload, 1) := by decide +kernel
theorem dX11_find_51 : decode cX11_find 51 = .ok (.aload_n 0, 1) := by decide +kernel
theorem dX11_find_52 : decode cX11_find 52 = .ok (.getfield 3, 3) := by decide +kernel
theorem dX11_find_55 : decode cX11_find 55 = .ok (.getfield 124, 3) := by decide +kernel
theorem dX11_find_58 : decode cX11_find 58 = .ok (.iload_n 3, 1) := by decide +kernel
theorem dX11_find_59 : decode cX11_find 59 = .ok (.iaload, 1) := by decide +kernel
theorem dX11_find_60 : decode cX11_find 60 = .ok (.if_icmp .ne 9, 3) := by decide +kernel
theorem dX11_find_63 : decode cX11_find 63 = .ok (.iinc 3 1, 3) := by decide +kernel
theorem dX11_find_66 : decode cX11_find 66 = .ok (.goto (-34), 3) := by decide +kernel
theorem dX11_find_69 : decode cX11_find 69 = .ok (.iload_n 3, 1) := by decide +kernel
theorem dX11_find_70 : decode cX11_find 70 = .ok (.aload_n 0, 1) := by decide +kernel
theorem dX11_find_71 : decode cX11_find 71 = .ok (.getfield 3, 3) := by decide +kernel
theorem dX11_find_74 : decode cX11_find 74 = .ok (.getfield 121, 3) := by decide +kernel
theorem dX11_find_77 : decode cX11_find 77 = .ok (.if_icmp .ne 5, 3) := by decide +kernel
theorem dX11_find_80 : decode cX11_find 80 = .ok (.iload_n 2, 1) := by decide +kernel
theorem dX11_find_81 : decode cX11_find 81 = .ok (.ireturn, 1) := by decide +kernel
theorem dX11_find_82 : decode cX11_find 82 = .ok (.iinc 2 1, 3) := by decide +kernel
theorem dX11_find_85 : decode cX11_find 85 = .ok (.goto (-71), 3) := by decide +kernel
theorem dX11_find_88 : decode cX11_find 88 = .ok (.iconst (-1), 1) := by decide +kernel
theorem dX11_find_89 : decode cX11_find 89 = .ok (.ireturn, 1) := by decide +kernel
theorem dX12_init_0 : decode cX12_init 0 = .ok (.aload_n 0, 1) := by decide +kernel
theorem dX12_init_1 : decode cX12_init 1 = .ok (.invokespecial 3, 3) := by decide +kernel
theorem dX12_init_4 : decode cX12_init 4 = .ok (.aload_n 0, 1) := by decide +kernel
theorem dX12_init_5 : decode cX12_init 5 = .ok (.bipush 40, 2) := by decide +kernel
theorem dX12_init_7 : decode cX12_init 7 = .ok (.newarray .int, 2) := by decide +kernel
theorem dX12_init_9 : decode cX12_init 9 = .ok (.putfield 9, 3) := by decide +kernel
theorem dX12_init_12 : decode cX12_init 12 = .ok (.aload_n 0, 1) := by decide +kernel
theorem dX12_init_13 : decode cX12_init 13 = .ok (.bipush 6, 2) := by decide +kernel
theorem dX12_init_15 : decode cX12_init 15 = .ok (.newarray .int, 2) := by decide +kernel
theorem dX12_init_17 : decode cX12_init 17 = .ok (.putfield 15, 3) := by decide +kernel
theorem dX12_init_20 : decode cX12_init 20 = .ok (.aload_n 0, 1) := by decide +kernel
theorem dX12_init_21 : decode cX12_init 21 = .ok (.bipush 72, 2) := by decide +kernel
theorem dX12_init_23 : decode cX12_init 23 = .ok (.newarray .int, 2) := by decide +kernel
theorem dX12_init_25 : decode cX12_init 25 = .ok (.putfield 18, 3) := by decide +kernel
theorem dX12_init_28 : decode cX12_init 28 = .ok (.aload_n 0, 1) := by decide +kernel
theorem dX12_init_29 : decode cX12_init 29 = .ok (.bipush 13, 2) := by decide +kernel
theorem dX12_init_31 : decode cX12_init 31 = .ok (.newarray .int, 2) := by decide +kernel
theorem dX12_init_33 : decode cX12_init 33 = .ok (.putfield 21, 3) := by decide +kernel
theorem dX12_init_36 : decode cX12_init 36 = .ok (.aload_n 0, 1) := by decide +kernel
theorem dX12_init_37 : decode cX12_init 37 = .ok (.bipush 13, 2) := by decide +kernel
theorem dX12_init_39 : decode cX12_init 39 = .ok (.newarray .int, 2) := by decide +kernel
theorem dX12_init_41 : decode cX12_init 41 = .ok (.putfield 24, 3) := by decide +kernel
theorem dX12_init_44 : decode cX12_init 44 = .ok (.aload_n 0, 1) := by decide +kernel
theorem dX12_init_45 : decode cX12_init 45 = .ok (.bipush 13, 2) := by decide +kernel
theorem dX12_init_47 : decode cX12_init 47 = .ok (.newarray .int, 2) := by decide +kernel
theorem dX12_init_49 : decode cX12_init 49 = .ok (.putfield 27, 3) := by decide +kernel
theorem dX12_init_52 : decode cX12_init 52 = .ok (.aload_n 0, 1) := by decide +kernel
theorem dX12_init_53 : decode cX12_init 53 = .ok (.sipush 1200, 3) := by decide +kernel
theorem dX12_init_56 : decode cX12_init 56 = .ok (.newarray .int, 2) := by decide +kernel
theorem dX12_init_58 : decode cX12_init 58 = .ok (.putfield 30, 3) := by decide +kernel
theorem dX12_init_61 : decode cX12_init 61 = .ok (.aload_n 0, 1) := by decide +kernel
theorem dX12_init_62 : decode cX12_init 62 = .ok (.sipush 400, 3) := by decide +kernel
theorem dX12_init_65 : decode cX12_init 65 = .ok (.newarray .int, 2) := by decide +kernel
theorem dX12_init_67 : decode cX12_init 67 = .ok (.putfield 33, 3) := by decide +kernel
theorem dX12_init_70 : decode cX12_init 70 = .ok (.return_, 1) := by decide +kernel
theorem dX13_init_0 : decode cX13_init 0 = .ok (.aload_n 0, 1) := by decide +kernel
theorem dX13_init_1 : decode cX13_init 1 = .ok (.invokespecial 1, 3) := by decide +kernel
theorem dX13_init_4 : decode cX13_init 4 = .ok (.aload_n 0, 1) := by decide +kernel
theorem dX13_init_5 : decode cX13_init 5 = .ok (.sipush 2000, 3) := by decide +kernel
theorem dX13_init_8 : decode cX13_init 8 = .ok (.newarray .int, 2) := by decide +kernel
theorem dX13_init_10 : decode cX13_init 10 = .ok (.putfield 9, 3) := by decide +kernel
theorem dX13_init_13 : decode cX13_init 13 = .ok (.aload_n 0, 1) := by decide +kernel
theorem dX13_init_14 : decode cX13_init 14 = .ok (.iconst (-1), 1) := by decide +kernel
theorem dX13_init_15 : decode cX13_init 15 = .ok (.putfield 13, 3) := by decide +kernel
theorem dX13_init_18 : decode cX13_init 18 = .ok (.aload_n 0, 1) := by decide +kernel
theorem dX13_init_19 : decode cX13_init 19 = .ok (.sipush 401, 3) := by decide +kernel
theorem dX13_init_22 : decode cX13_init 22 = .ok (.newarray .int, 2) := by decide +kernel
theorem dX13_init_24 : decode cX13_init 24 = .ok (.putfield 17, 3) := by decide +kernel
theorem dX13_init_27 : decode cX13_init 27 = .ok (.aload_n 0, 1) := by decide +kernel
theorem dX13_init_28 : decode cX13_init 28 = .ok (.sipush 401, 3) := by decide +kernel
theorem dX13_init_31 : decode cX13_init 31 = .ok (.newarray .int, 2) := by decide +kernel
theorem dX13_init_33 : decode cX13_init 33 = .ok (.putfield 20, 3) := by decide +kernel
theorem dX13_init_36 : decode cX13_init 36 = .ok (.aload_n 0, 1) := by decide +kernel
theorem dX13_init_37 : decode cX13_init 37 = .ok (.sipush 401, 3) := by decide +kernel
theorem dX13_init_40 : decode cX13_init 40 = .ok (.newarray .int, 2) := by decide +kernel
theorem dX13_init_42 : decode cX13_init 42 = .ok (.putfield 23, 3) := by decide +kernel
theorem dX13_init_45 : decode cX13_init 45 = .ok (.aload_n 0, 1) := by decide +kernel
theorem dX13_init_46 : decode cX13_init 46 = .ok (.sipush 401, 3) := by decide +kernel
theorem dX13_init_49 : decode cX13_init 49 = .ok (.newarray .int, 2) := by decide +kernel
theorem dX13_init_51 : decode cX13_init 51 = .ok (.putfield 26, 3) := by decide +kernel
theorem dX13_init_54 : decode cX13_init 54 = .ok (.aload_n 0, 1) := by decide +kernel
theorem dX13_init_55 : decode cX13_init 55 = .ok (.sipush 401, 3) := by decide +kernel
theorem dX13_init_58 : decode cX13_init 58 = .ok (.newarray .int, 2) := by decide +kernel
theorem dX13_init_60 : decode cX13_init 60 = .ok (.putfield 29, 3) := by decide +kernel
theorem dX13_init_63 : decode cX13_init 63 = .ok (.aload_n 0, 1) := by decide +kernel
theorem dX13_init_64 : decode cX13_init 64 = .ok (.new 32, 3) := by decide +kernel
theorem dX13_init_67 : decode cX13_init 67 = .ok (.dup, 1) := by decide +kernel
theorem dX13_init_68 : decode cX13_init 68 = .ok (.invokespecial 34, 3) := by decide +kernel
theorem dX13_init_71 : decode cX13_init 71 = .ok (.putfield 35, 3) := by decide +kernel
theorem dX13_init_74 : decode cX13_init 74 = .ok (.aload_n 0, 1) := by decide +kernel
theorem dX13_init_75 : decode cX13_init 75 = .ok (.aload_n 0, 1) := by decide +kernel
theorem dX13_init_76 : decode cX13_init 76 = .ok (.getfield 35, 3) := by decide +kernel
theorem dX13_init_79 : decode cX13_init 79 = .ok (.putfield 39, 3) := by decide +kernel
theorem dX13_init_82 : decode cX13_init 82 = .ok (.aload_n 0, 1) := by decide +kernel
theorem dX13_init_83 : decode cX13_init 83 = .ok (.new 42, 3) := by decide +kernel
theorem dX13_init_86 : decode cX13_init 86 = .ok (.dup, 1) := by decide +kernel
theorem dX13_init_87 : decode cX13_init 87 = .ok (.aload_n 0, 1) := by decide +kernel
theorem dX13_init_88 : decode cX13_init 88 = .ok (.invokespecial 44, 3) := by decide +kernel
theorem dX13_init_91 : decode cX13_init 91 = .ok (.putfield 47, 3) := by decide +kernel
theorem dX13_init_94 : decode cX13_init 94 = .ok (.aload_n 0, 1) := by decide +kernel
theorem dX13_init_95 : decode cX13_init 95 = .ok (.new 42, 3) := by decide +kernel
theorem dX13_init_98 : decode cX13_init 98 = .ok (.dup, 1) := by decide +kernel
theorem dX13_init_99 : decode cX13_init 99 = .ok (.aload_n 0, 1) := by decide +kernel
theorem dX13_init_100 : decode cX13_init 100 = .ok (.invokespecial 44, 3) := by decide +kernel
theorem dX13_init_103 : decode cX13_init 103 = .ok (.putfield 51, 3) := by decide +kernel
theorem dX13_init_106 : decode cX13_init 106 = .ok (.return_, 1) := by decide +kernel
theorem dX13_thrown_0 : decode cX13_thrown 0 = .ok (.aload_n 0, 1) := by decide +kernel
theorem dX13_thrown_1 : decode cX13_thrown 1 = .ok (.getfield 54, 3) := by decide +kernel
theorem dX13_thrown_4 : decode cX13_thrown 4 = .ok (.ireturn, 1) := by decide +kernel
theorem dX13_no_0 : decode cX13_no 0 = .ok (.aload_n 0, 1) := by decide +kernel
theorem dX13_no_1 : decode cX13_no 1 = .ok (.iload_n 1, 1) := by decide +kernel
theorem dX13_no_2 : decode cX13_no 2 = .ok (.putfield 54, 3) := by decide +kernel
theorem dX13_no_5 : decode cX13_no 5 = .ok (.iconst 0, 1) := by decide +kernel
theorem dX13_no_6 : decode cX13_no 6 = .ok (.ireturn, 1) := by decide +kernel
theorem dX13_isIn_0 : decode cX13_isIn 0 = .ok (.iload_n 0, 1) := by decide +kernel
theorem dX13_isIn_1 : decode cX13_isIn 1 = .ok (.iload_n 1, 1) := by decide +kernel
theorem dX13_isIn_2 : decode cX13_isIn 2 = .ok (.if_icmp .lt 12, 3) := by decide +kernel
theorem dX13_isIn_5 : decode cX13_isIn 5 = .ok (.iload_n 0, 1) := by decide +kernel
theorem dX13_isIn_6 : decode cX13_isIn 6 = .ok (.iload_n 2, 1) := by decide +kernel
theorem dX13_isIn_7 : decode cX13_isIn 7 = .ok (.if_icmp .gt 7, 3) := by decide +kernel
theorem dX13_isIn_10 : decode cX13_isIn 10 = .ok (.iconst 1, 1) := by decide +kernel
theorem dX13_isIn_11 : decode cX13_isIn 11 = .ok (.goto 4, 3) := by decide +kernel
theorem dX13_isIn_14 : decode cX13_isIn 14 = .ok (.iconst 0, 1) := by decide +kernel
theorem dX13_isIn_15 : decode cX13_isIn 15 = .ok (.ireturn, 1) := by decide +kernel
theorem dX13_isPlanet_0 : decode cX13_isPlanet 0 = .ok (.iload_n 1, 1) := by decide +kernel
theorem dX13_isPlanet_1 : decode cX13_isPlanet 1 = .ok (.iconst 0, 1) := by decide +kernel
theorem dX13_isPlanet_2 : decode cX13_isPlanet 2 = .ok (.aload_n 0, 1) := by decide +kernel
theorem dX13_isPlanet_3 : decode cX13_isPlanet 3 = .ok (.getfield 35, 3) := by decide +kernel
theorem dX13_isPlanet_6 : decode cX13_isPlanet 6 = .ok (.getfield 57, 3) := by decide +kernel
theorem dX13_isPlanet_9 : decode cX13_isPlanet 9 = .ok (.iconst 1, 1) := by decide +kernel
theorem dX13_isPlanet_10 : decode cX13_isPlanet 10 = .ok (.isub, 1) := by decide +kernel
theorem dX13_isPlanet_11 : decode cX13_isPlanet 11 = .ok (.invokestatic 60, 3) := by decide +kernel
theorem dX13_isPlanet_14 : decode cX13_isPlanet 14 = .ok (.ireturn, 1) := by decide +kernel
theorem dX13_isAlphabet_0 : decode cX13_isAlphabet 0 = .ok (.iload_n 1, 1) := by decide +kernel
theorem dX13_isAlphabet_1 : decode cX13_isAlphabet 1 = .ok (.iconst 0, 1) := by decide +kernel
theorem dX13_isAlphabet_2 : decode cX13_isAlphabet 2 = .ok (.aload_n 0, 1) := by decide +kernel
theorem dX13_isAlphabet_3 : decode cX13_isAlphabet 3 = .ok (.getfield 35, 3) := by decide +kernel
theorem dX13_isAlphabet_6 : decode cX13_isAlphabet 6 = .ok (.getfield 64, 3) := by decide +kernel
theorem dX13_isAlphabet_9 : decode cX13_isAlphabet 9 = .ok (.iconst 1, 1) := by decide +kernel
theorem dX13_isAlphabet_10 : decode cX13_isAlphabet 10 = .ok (.isub, 1) := by decide +kernel
theorem dX13_isAlphabet_11 : decode cX13_isAlphabet 11 = .ok (.invokestatic 60, 3) := by decide +kernel
theorem dX13_isAlphabet_14 : decode cX13_isAlphabet 14 = .ok (.ireturn, 1) := by decide +kernel
theorem dX13_gapOf_0 : decode cX13_gapOf 0 = .ok (.iload_n 0, 1) := by decide +kernel
theorem dX13_gapOf_1 : decode cX13_gapOf 1 = .ok (.iload_n 1, 1) := by decide +kernel
theorem dX13_gapOf_2 : decode cX13_gapOf 2 = .ok (.isub, 1) := by decide +kernel
theorem dX13_gapOf_3 : decode cX13_gapOf 3 = .ok (.sipush 360, 3) := by decide +kernel
theorem dX13_gapOf_6 : decode cX13_gapOf 6 = .ok (.invokestatic 67, 3) := by decide +kernel
theorem dX13_gapOf_9 : decode cX13_gapOf 9 = .ok (.istore_n 2, 1) := by decide +kernel
theorem dX13_gapOf_10 : decode cX13_gapOf 10 = .ok (.iload_n 2, 1) := by decide +kernel
theorem dX13_gapOf_11 : decode cX13_gapOf 11 = .ok (.sipush 180, 3) := by decide +kernel
theorem dX13_gapOf_14 : decode cX13_gapOf 14 = .ok (.if_icmp .le 11, 3) := by decide +kernel
theorem dX13_gapOf_17 : decode cX13_gapOf 17 = .ok (.iload_n 2, 1) := by decide +kernel
theorem dX13_gapOf_18 : decode cX13_gapOf 18 = .ok (.sipush 360, 3) := by decide +kernel
theorem dX13_gapOf_21 : decode cX13_gapOf 21 = .ok (.isub, 1) := by decide +kernel
theorem dX13_gapOf_22 : decode cX13_gapOf 22 = .ok (.goto 4, 3) := by decide +kernel
theorem dX13_gapOf_25 : decode cX13_gapOf 25 = .ok (.iload_n 2, 1) := by decide +kernel
theorem dX13_gapOf_26 : decode cX13_gapOf 26 = .ok (.ireturn, 1) := by decide +kernel
theorem dX13_isPushed_0 : decode cX13_isPushed 0 = .ok (.iload_n 0, 1) := by decide +kernel
theorem dX13_isPushed_1 : decode cX13_isPushed 1 = .ok (.bipush 40, 2) := by decide +kernel
theorem dX13_isPushed_3 : decode cX13_isPushed 3 = .ok (.if_icmp .eq 31, 3) := by decide +kernel
theorem dX13_isPushed_6 : decode cX13_isPushed 6 = .ok (.iload_n 0, 1) := by decide +kernel
theorem dX13_isPushed_7 : decode cX13_isPushed 7 = .ok (.bipush 12, 2) := by decide +kernel
theorem dX13_isPushed_9 : decode cX13_isPushed 9 = .ok (.bipush 16, 2) := by decide +kernel
theorem dX13_isPushed_11 : decode cX13_isPushed 11 = .ok (.invokestatic 60, 3) := by decide +kernel
theorem dX13_isPushed_14 : decode cX13_isPushed 14 = .ok (.ifCond .ne 20, 3) := by decide +kernel
theorem dX13_isPushed_17 : decode cX13_isPushed 17 = .ok (.iload_n 0, 1) := by decide +kernel
theorem dX13_isPushed_18 : decode cX13_isPushed 18 = .ok (.iconst 4, 1) := by decide +kernel
theorem dX13_isPushed_19 : decode cX13_isPushed 19 = .ok (.if_icmp .eq 15, 3) := by decide +kernel
theorem dX13_isPushed_22 : decode cX13_isPushed 22 = .ok (.iload_n 0, 1) := by decide +kernel
theorem dX13_isPushed_23 : decode cX13_isPushed 23 = .ok (.bipush 10, 2) := by decide +kernel
theorem dX13_isPushed_25 : decode cX13_isPushed 25 = .ok (.if_icmp .eq 9, 3) := by decide +kernel
theorem dX13_isPushed_28 : decode cX13_isPushed 28 = .ok (.iload_n 0, 1) := by decide +kernel
theorem dX13_isPushed_29 : decode cX13_isPushed 29 = .ok (.bipush 11, 2) := by decide +kernel
theorem dX13_isPushed_31 : decode cX13_isPushed 31 = .ok (.if_icmp .ne 7, 3) := by decide +kernel
theorem dX13_isPushed_34 : decode cX13_isPushed 34 = .ok (.iconst 1, 1) := by decide +kernel
theorem dX13_isPushed_35 : decode cX13_isPushed 35 = .ok (.goto 4, 3) := by decide +kernel
theorem dX13_isPushed_38 : decode cX13_isPushed 38 = .ok (.iconst 0, 1) := by decide +kernel
theorem dX13_isPushed_39 : decode cX13_isPushed 39 = .ok (.ireturn, 1) := by decide +kernel
theorem dX13_both_0 : decode cX13_both 0 = .ok (.iload_n 0, 1) := by decide +kernel
theorem dX13_both_1 : decode cX13_both 1 = .ok (.tableswitch 258 18 51 #[254, 258, 187, 193, 258, 258, 258, 258, 258, 258, 258, 258, 258, 258, 258, 258, 258, 258, 258, 258, 258, 258, 258, 258, 151, 155, 159, 163, 175, 199, 210, 221, 232, 243], 151) := by decide +kernel
theorem dX13_both_152 : decode cX13_both 152 = .ok (.iload_n 1, 1) := by decide +kernel
theorem dX13_both_153 : decode cX13_both 153 = .ok (.iload_n 2, 1) := by decide +kernel
theorem dX13_both_154 : decode cX13_both 154 = .ok (.iadd, 1) := by decide +kernel
theorem dX13_both_155 : decode cX13_both 155 = .ok (.ireturn, 1) := by decide +kernel
theorem dX13_both_156 : decode cX13_both 156 = .ok (.iload_n 1, 1) := by decide +kernel
theorem dX13_both_157 : decode cX13_both 157 = .ok (.iload_n 2, 1) := by decide +kernel
theorem dX13_both_158 : decode cX13_both 158 = .ok (.isub, 1) := by decide +kernel
theorem dX13_both_159 : decode cX13_both 159 = .ok (.ireturn, 1) := by decide +kernel
theorem dX13_both_160 : decode cX13_both 160 = .ok (.iload_n 1, 1) := by decide +kernel
theorem dX13_both_161 : decode cX13_both 161 = .ok (.iload_n 2, 1) := by decide +kernel
theorem dX13_both_162 : decode cX13_both 162 = .ok (.imul, 1) := by decide +kernel
theorem dX13_both_163 : decode cX13_both 163 = .ok (.ireturn, 1) := by decide +kernel
theorem dX13_both_164 : decode cX13_both 164 = .ok (.iload_n 2, 1) := by decide +kernel
theorem dX13_both_165 : decode cX13_both 165 = .ok (.ifCond .ne 7, 3) := by decide +kernel
theorem dX13_both_168 : decode cX13_both 168 = .ok (.iconst 0, 1) := by decide +kernel
theorem dX13_both_169 : decode cX13_both 169 = .ok (.goto 6, 3) := by decide +kernel
theorem dX13_both_172 : decode cX13_both 172 = .ok (.iload_n 1, 1) := by decide +kernel
theorem dX13_both_173 : decode cX13_both 173 = .ok (.iload_n 2, 1) := by decide +kernel
theorem dX13_both_174 : decode cX13_both 174 = .ok (.idiv, 1) := by decide +kernel
theorem dX13_both_175 : decode cX13_both 175 = .ok (.ireturn, 1) := by decide +kernel
theorem dX13_both_176 : decode cX13_both 176 = .ok (.iload_n 2, 1) := by decide +kernel
theorem dX13_both_177 : decode cX13_both 177 = .ok (.ifCond .ne 7, 3) := by decide +kernel
theorem dX13_both_180 : decode cX13_both 180 = .ok (.iconst 0, 1) := by decide +kernel
theorem dX13_both_181 : decode cX13_both 181 = .ok (.goto 6, 3) := by decide +kernel
theorem dX13_both_184 : decode cX13_both 184 = .ok (.iload_n 1, 1) := by decide +kernel
theorem dX13_both_185 : decode cX13_both 185 = .ok (.iload_n 2, 1) := by decide +kernel
theorem dX13_both_186 : decode cX13_both 186 = .ok (.irem, 1) := by decide +kernel
theorem dX13_both_187 : decode cX13_both 187 = .ok (.ireturn, 1) := by decide +kernel
theorem dX13_both_188 : decode cX13_both 188 = .ok (.iload_n 1, 1) := by decide +kernel
theorem dX13_both_189 : decode cX13_both 189 = .ok (.iload_n 2, 1) := by decide +kernel
theorem dX13_both_190 : decode cX13_both 190 = .ok (.invokestatic 73, 3) := by decide +kernel
theorem dX13_both_193 : decode cX13_both 193 = .ok (.ireturn, 1) := by decide +kernel
theorem dX13_both_194 : decode cX13_both 194 = .ok (.iload_n 1, 1) := by decide +kernel
theorem dX13_both_195 : decode cX13_both 195 = .ok (.iload_n 2, 1) := by decide +kernel
theorem dX13_both_196 : decode cX13_both 196 = .ok (.invokestatic 76, 3) := by decide +kernel
theorem dX13_both_199 : decode cX13_both 199 = .ok (.ireturn, 1) := by decide +kernel
theorem dX13_both_200 : decode cX13_both 200 = .ok (.iload_n 1, 1) := by decide +kernel
theorem dX13_both_201 : decode cX13_both 201 = .ok (.iload_n 2, 1) := by decide +kernel
theorem dX13_both_202 : decode cX13_both 202 = .ok (.if_icmp .ge 7, 3) := by decide +kernel
theorem dX13_both_205 : decode cX13_both 205 = .ok (.iconst 1, 1) := by decide +kernel
theorem dX13_both_206 : decode cX13_both 206 = .ok (.goto 4, 3) := by decide +kernel
theorem dX13_both_209 : decode cX13_both 209 = .ok (.iconst 0, 1) := by decide +kernel
theorem dX13_both_210 : decode cX13_both 210 = .ok (.ireturn, 1) := by decide +kernel
theorem dX13_both_211 : decode cX13_both 211 = .ok (.iload_n 1, 1) := by decide +kernel
theorem dX13_both_212 : decode cX13_both 212 = .ok (.iload_n 2, 1) := by decide +kernel
theorem dX13_both_213 : decode cX13_both 213 = .ok (.if_icmp .le 7, 3) := by decide +kernel
theorem dX13_both_216 : decode cX13_both 216 = .ok (.iconst 1, 1) := by decide +kernel
theorem dX13_both_217 : decode cX13_both 217 = .ok (.goto 4, 3) := by decide +kernel
theorem dX13_both_220 : decode cX13_both 220 = .ok (.iconst 0, 1) := by decide +kernel
theorem dX13_both_221 : decode cX13_both 221 = .ok (.ireturn, 1) := by decide +kernel
theorem dX13_both_222 : decode cX13_both 222 = .ok (.iload_n 1, 1) := by decide +kernel
theorem dX13_both_223 : decode cX13_both 223 = .ok (.iload_n 2, 1) := by decide +kernel
theorem dX13_both_224 : decode cX13_both 224 = .ok (.if_icmp .ne 7, 3) := by decide +kernel
theorem dX13_both_227 : decode cX13_both 227 = .ok (.iconst 1, 1) := by decide +kernel
theorem dX13_both_228 : decode cX13_both 228 = .ok (.goto 4, 3) := by decide +kernel
theorem dX13_both_231 : decode cX13_both 231 = .ok (.iconst 0, 1) := by decide +kernel
theorem dX13_both_232 : decode cX13_both 232 = .ok (.ireturn, 1) := by decide +kernel
theorem dX13_both_233 : decode cX13_both 233 = .ok (.iload_n 1, 1) := by decide +kernel
theorem dX13_both_234 : decode cX13_both 234 = .ok (.iload_n 2, 1) := by decide +kernel
theorem dX13_both_235 : decode cX13_both 235 = .ok (.if_icmp .gt 7, 3) := by decide +kernel
theorem dX13_both_238 : decode cX13_both 238 = .ok (.iconst 1, 1) := by decide +kernel
theorem dX13_both_239 : decode cX13_both 239 = .ok (.goto 4, 3) := by decide +kernel
theorem dX13_both_242 : decode cX13_both 242 = .ok (.iconst 0, 1) := by decide +kernel
theorem dX13_both_243 : decode cX13_both 243 = .ok (.ireturn, 1) := by decide +kernel
theorem dX13_both_244 : decode cX13_both 244 = .ok (.iload_n 1, 1) := by decide +kernel
theorem dX13_both_245 : decode cX13_both 245 = .ok (.iload_n 2, 1) := by decide +kernel
theorem dX13_both_246 : decode cX13_both 246 = .ok (.if_icmp .lt 7, 3) := by decide +kernel
theorem dX13_both_249 : decode cX13_both 249 = .ok (.iconst 1, 1) := by decide +kernel
theorem dX13_both_250 : decode cX13_both 250 = .ok (.goto 4, 3) := by decide +kernel
theorem dX13_both_253 : decode cX13_both 253 = .ok (.iconst 0, 1) := by decide +kernel
theorem dX13_both_254 : decode cX13_both 254 = .ok (.ireturn, 1) := by decide +kernel
theorem dX13_both_255 : decode cX13_both 255 = .ok (.iload_n 1, 1) := by decide +kernel
theorem dX13_both_256 : decode cX13_both 256 = .ok (.iload_n 2, 1) := by decide +kernel
theorem dX13_both_257 : decode cX13_both 257 = .ok (.iand, 1) := by decide +kernel
theorem dX13_both_258 : decode cX13_both 258 = .ok (.ireturn, 1) := by decide +kernel
theorem dX13_both_259 : decode cX13_both 259 = .ok (.iload_n 1, 1) := by decide +kernel
theorem dX13_both_260 : decode cX13_both 260 = .ok (.iload_n 2, 1) := by decide +kernel
theorem dX13_both_261 : decode cX13_both 261 = .ok (.ior, 1) := by decide +kernel
theorem dX13_both_262 : decode cX13_both 262 = .ok (.ireturn, 1) := by decide +kernel
theorem dX13_isLetter_0 : decode cX13_isLetter 0 = .ok (.iload_n 0, 1) := by decide +kernel
theorem dX13_isLetter_1 : decode cX13_isLetter 1 = .ok (.bipush 97, 2) := by decide +kernel
theorem dX13_isLetter_3 : decode cX13_isLetter 3 = .ok (.if_icmp .lt 13, 3) := by decide +kernel
theorem dX13_isLetter_6 : decode cX13_isLetter 6 = .ok (.iload_n 0, 1) := by decide +kernel
theorem dX13_isLetter_7 : decode cX13_isLetter 7 = .ok (.bipush 122, 2) := by decide +kernel
theorem dX13_isLetter_9 : decode cX13_isLetter 9 = .ok (.if_icmp .gt 7, 3) := by decide +kernel
theorem dX13_isLetter_12 : decode cX13_isLetter 12 = .ok (.iconst 1, 1) := by decide +kernel
theorem dX13_isLetter_13 : decode cX13_isLetter 13 = .ok (.goto 4, 3) := by decide +kernel
theorem dX13_isLetter_16 : decode cX13_isLetter 16 = .ok (.iconst 0, 1) := by decide +kernel
theorem dX13_isLetter_17 : decode cX13_isLetter 17 = .ok (.ireturn, 1) := by decide +kernel
theorem dX13_isDigit_0 : decode cX13_isDigit 0 = .ok (.iload_n 0, 1) := by decide +kernel
theorem dX13_isDigit_1 : decode cX13_isDigit 1 = .ok (.bipush 48, 2) := by decide +kernel
theorem dX13_isDigit_3 : decode cX13_isDigit 3 = .ok (.if_icmp .lt 13, 3) := by decide +kernel
theorem dX13_isDigit_6 : decode cX13_isDigit 6 = .ok (.iload_n 0, 1) := by decide +kernel
theorem dX13_isDigit_7 : decode cX13_isDigit 7 = .ok (.bipush 57, 2) := by decide +kernel
theorem dX13_isDigit_9 : decode cX13_isDigit 9 = .ok (.if_icmp .gt 7, 3) := by decide +kernel
theorem dX13_isDigit_12 : decode cX13_isDigit 12 = .ok (.iconst 1, 1) := by decide +kernel
theorem dX13_isDigit_13 : decode cX13_isDigit 13 = .ok (.goto 4, 3) := by decide +kernel
theorem dX13_isDigit_16 : decode cX13_isDigit 16 = .ok (.iconst 0, 1) := by decide +kernel
theorem dX13_isDigit_17 : decode cX13_isDigit 17 = .ok (.ireturn, 1) := by decide +kernel
theorem dX13_byteOf_0 : decode cX13_byteOf 0 = .ok (.iload_n 1, 1) := by decide +kernel
theorem dX13_byteOf_1 : decode cX13_byteOf 1 = .ok (.aload_n 0, 1) := by decide +kernel
theorem dX13_byteOf_2 : decode cX13_byteOf 2 = .ok (.getfield 79, 3) := by decide +kernel
theorem dX13_byteOf_5 : decode cX13_byteOf 5 = .ok (.if_icmp .ge 12, 3) := by decide +kernel
theorem dX13_byteOf_8 : decode cX13_byteOf 8 = .ok (.aload_n 0, 1) := by decide +kernel
theorem dX13_byteOf_9 : decode cX13_byteOf 9 = .ok (.getfield 9, 3) := by decide +kernel
theorem dX13_byteOf_12 : decode cX13_byteOf 12 = .ok (.iload_n 1, 1) := by decide +kernel
theorem dX13_byteOf_13 : decode cX13_byteOf 13 = .ok (.iaload, 1) := by decide +kernel
theorem dX13_byteOf_14 : decode cX13_byteOf 14 = .ok (.goto 4, 3) := by decide +kernel
theorem dX13_byteOf_17 : decode cX13_byteOf 17 = .ok (.iconst (-1), 1) := by decide +kernel
theorem dX13_byteOf_18 : decode cX13_byteOf 18 = .ok (.ireturn, 1) := by decide +kernel
theorem dX13_kindAt_0 : decode cX13_kindAt 0 = .ok (.aload_n 0, 1) := by decide +kernel
theorem dX13_kindAt_1 : decode cX13_kindAt 1 = .ok (.iload_n 1, 1) := by decide +kernel
theorem dX13_kindAt_2 : decode cX13_kindAt 2 = .ok (.invokevirtual 82, 3) := by decide +kernel
theorem dX13_kindAt_5 : decode cX13_kindAt 5 = .ok (.istore_n 3, 1) := by decide +kernel
theorem dX13_kindAt_6 : decode cX13_kindAt 6 = .ok (.iload_n 1, 1) := by decide +kernel
theorem dX13_kindAt_7 : decode cX13_kindAt 7 = .ok (.iconst 1, 1) := by decide +kernel
theorem dX13_kindAt_8 : decode cX13_kindAt 8 = .ok (.iadd, 1) := by decide +kernel
theorem dX13_kindAt_9 : decode cX13_kindAt 9 = .ok (.istore 4, 2) := by decide +kernel
theorem dX13_kindAt_11 : decode cX13_kindAt 11 = .ok (.iload_n 3, 1) := by decide +kernel
theorem dX13_kindAt_12 : decode cX13_kindAt 12 = .ok (.invokestatic 86, 3) := by decide +kernel
theorem dX13_kindAt_15 : decode cX13_kindAt 15 = .ok (.ifCond .eq 68, 3) := by decide +kernel
theorem dX13_kindAt_18 : decode cX13_kindAt 18 = .ok (.aload_n 0, 1) := by decide +kernel
theorem dX13_kindAt_19 : decode cX13_kindAt 19 = .ok (.iload 4, 2) := by decide +kernel
theorem dX13_kindAt_21 : decode cX13_kindAt 21 = .ok (.invokevirtual 82, 3) := by decide +kernel
theorem dX13_kindAt_24 : decode cX13_kindAt 24 = .ok (.invokestatic 86, 3) := by decide +kernel
theorem dX13_kindAt_27 : decode cX13_kindAt 27 = .ok (.ifCond .ne 15, 3) := by decide +kernel
theorem dX13_kindAt_30 : decode cX13_kindAt 30 = .ok (.aload_n 0, 1) := by decide +kernel
theorem dX13_kindAt_31 : decode cX13_kindAt 31 = .ok (.iload 4, 2) := by decide +kernel
theorem dX13_kindAt_33 : decode cX13_kindAt 33 = .ok (.invokevirtual 82, 3) := by decide +kernel
theorem dX13_kindAt_36 : decode cX13_kindAt 36 = .ok (.invokestatic 90, 3) := by decide +kernel
theorem dX13_kindAt_39 : decode cX13_kindAt 39 = .ok (.ifCond .eq 9, 3) := by decide +kernel
theorem dX13_kindAt_42 : decode cX13_kindAt 42 = .ok (.iinc 4 1, 3) := by decide +kernel
theorem dX13_kindAt_45 : decode cX13_kindAt 45 = .ok (.goto (-27), 3) := by decide +kernel
theorem dX13_kindAt_48 : decode cX13_kindAt 48 = .ok (.aload_n 0, 1) := by decide +kernel
theorem dX13_kindAt_49 : decode cX13_kindAt 49 = .ok (.getfield 23, 3) := by decide +kernel
theorem dX13_kindAt_52 : decode cX13_kindAt 52 = .ok (.iload_n 2, 1) := by decide +kernel
theorem dX13_kindAt_53 : decode cX13_kindAt 53 = .ok (.iload 4, 2) := by decide +kernel
theorem dX13_kindAt_55 : decode cX13_kindAt 55 = .ok (.iload_n 1, 1) := by decide +kernel
theorem dX13_kindAt_56 : decode cX13_kindAt 56 = .ok (.isub, 1) := by decide +kernel
theorem dX13_kindAt_57 : decode cX13_kindAt 57 = .ok (.iastore, 1) := by decide +kernel
theorem dX13_kindAt_58 : decode cX13_kindAt 58 = .ok (.iload 4, 2) := by decide +kernel
theorem dX13_kindAt_60 : decode cX13_kindAt 60 = .ok (.iload_n 1, 1) := by decide +kernel
theorem dX13_kindAt_61 : decode cX13_kindAt 61 = .ok (.isub, 1) := by decide +kernel
theorem dX13_kindAt_62 : decode cX13_kindAt 62 = .ok (.bipush 12, 2) := by decide +kernel
theorem dX13_kindAt_64 : decode cX13_kindAt 64 = .ok (.if_icmp .le 9, 3) := by decide +kernel
theorem dX13_kindAt_67 : decode cX13_kindAt 67 = .ok (.sipush 901, 3) := by decide +kernel
theorem dX13_kindAt_70 : decode cX13_kindAt 70 = .ok (.goto 12, 3) := by decide +kernel
theorem dX13_kindAt_73 : decode cX13_kindAt 73 = .ok (.aload_n 0, 1) := by decide +kernel
theorem dX13_kindAt_74 : decode cX13_kindAt 74 = .ok (.iload_n 1, 1) := by decide +kernel
theorem dX13_kindAt_75 : decode cX13_kindAt 75 = .ok (.iload 4, 2) := by decide +kernel
theorem dX13_kindAt_77 : decode cX13_kindAt 77 = .ok (.iload_n 1, 1) := by decide +kernel
theorem dX13_kindAt_78 : decode cX13_kindAt 78 = .ok (.isub, 1) := by decide +kernel
theorem dX13_kindAt_79 : decode cX13_kindAt 79 = .ok (.invokevirtual 93, 3) := by decide +kernel
theorem dX13_kindAt_82 : decode cX13_kindAt 82 = .ok (.ireturn, 1) := by decide +kernel
theorem dX13_kindAt_83 : decode cX13_kindAt 83 = .ok (.iload_n 3, 1) := by decide +kernel
theorem dX13_kindAt_84 : decode cX13_kindAt 84 = .ok (.invokestatic 90, 3) := by decide +kernel
theorem dX13_kindAt_87 : decode cX13_kindAt 87 = .ok (.ifCond .eq 49, 3) := by decide +kernel
theorem dX13_kindAt_90 : decode cX13_kindAt 90 = .ok (.aload_n 0, 1) := by decide +kernel
theorem dX13_kindAt_91 : decode cX13_kindAt 91 = .ok (.iload 4, 2) := by decide +kernel
theorem dX13_kindAt_93 : decode cX13_kindAt 93 = .ok (.invokevirtual 82, 3) := by decide +kernel
theorem dX13_kindAt_96 : decode cX13_kindAt 96 = .ok (.invokestatic 90, 3) := by decide +kernel
theorem dX13_kindAt_99 : decode cX13_kindAt 99 = .ok (.ifCond .eq 9, 3) := by decide +kernel
theorem dX13_kindAt_102 : decode cX13_kindAt 102 = .ok (.iinc 4 1, 3) := by decide +kernel
theorem dX13_kindAt_105 : decode cX13_kindAt 105 = .ok (.goto (-15), 3) := by decide +kernel
theorem dX13_kindAt_108 : decode cX13_kindAt 108 = .ok (.aload_n 0, 1) := by decide +kernel
theorem dX13_kindAt_109 : decode cX13_kindAt 109 = .ok (.getfield 23, 3) := by decide +kernel
theorem dX13_kindAt_112 : decode cX13_kindAt 112 = .ok (.iload_n 2, 1) := by decide +kernel
theorem dX13_kindAt_113 : decode cX13_kindAt 113 = .ok (.iload 4, 2) := by decide +kernel
theorem dX13_kindAt_115 : decode cX13_kindAt 115 = .ok (.iload_n 1, 1) := by decide +kernel
theorem dX13_kindAt_116 : decode cX13_kindAt 116 = .ok (.isub, 1) := by decide +kernel
theorem dX13_kindAt_117 : decode cX13_kindAt 117 = .ok (.iastore, 1) := by decide +kernel
theorem dX13_kindAt_118 : decode cX13_kindAt 118 = .ok (.iload 4, 2) := by decide +kernel
theorem dX13_kindAt_120 : decode cX13_kindAt 120 = .ok (.iload_n 1, 1) := by decide +kernel
theorem dX13_kindAt_121 : decode cX13_kindAt 121 = .ok (.isub, 1) := by decide +kernel
theorem dX13_kindAt_122 : decode cX13_kindAt 122 = .ok (.bipush 6, 2) := by decide +kernel
theorem dX13_kindAt_124 : decode cX13_kindAt 124 = .ok (.if_icmp .le 9, 3) := by decide +kernel
theorem dX13_kindAt_127 : decode cX13_kindAt 127 = .ok (.sipush 901, 3) := by decide +kernel
theorem dX13_kindAt_130 : decode cX13_kindAt 130 = .ok (.goto 5, 3) := by decide +kernel
theorem dX13_kindAt_133 : decode cX13_kindAt 133 = .ok (.bipush 31, 2) := by decide +kernel
theorem dX13_kindAt_135 : decode cX13_kindAt 135 = .ok (.ireturn, 1) := by decide +kernel
theorem dX13_kindAt_136 : decode cX13_kindAt 136 = .ok (.iload_n 3, 1) := by decide +kernel
theorem dX13_kindAt_137 : decode cX13_kindAt 137 = .ok (.bipush 60, 2) := by decide +kernel
theorem dX13_kindAt_139 : decode cX13_kindAt 139 = .ok (.if_icmp .eq 9, 3) := by decide +kernel
theorem dX13_kindAt_142 : decode cX13_kindAt 142 = .ok (.iload_n 3, 1) := by decide +kernel
theorem dX13_kindAt_143 : decode cX13_kindAt 143 = .ok (.bipush 62, 2) := by decide +kernel
theorem dX13_kindAt_145 : decode cX13_kindAt 145 = .ok (.if_icmp .ne 18, 3) := by decide +kernel
theorem dX13_kindAt_148 : decode cX13_kindAt 148 = .ok (.aload_n 0, 1) := by decide +kernel
theorem dX13_kindAt_149 : decode cX13_kindAt 149 = .ok (.iload 4, 2) := by decide +kernel
theorem dX13_kindAt_151 : decode cX13_kindAt 151 = .ok (.invokevirtual 82, 3) := by decide +kernel
theorem dX13_kindAt_154 : decode cX13_kindAt 154 = .ok (.bipush 61, 2) := by decide +kernel
theorem dX13_kindAt_156 : decode cX13_kindAt 156 = .ok (.if_icmp .ne 7, 3) := by decide +kernel
theorem dX13_kindAt_159 : decode cX13_kindAt 159 = .ok (.iconst 1, 1) := by decide +kernel
theorem dX13_kindAt_160 : decode cX13_kindAt 160 = .ok (.goto 4, 3) := by decide +kernel
theorem dX13_kindAt_163 : decode cX13_kindAt 163 = .ok (.iconst 0, 1) := by decide +kernel
theorem dX13_kindAt_164 : decode cX13_kindAt 164 = .ok (.istore 5, 2) := by decide +kernel
theorem dX13_kindAt_166 : decode cX13_kindAt 166 = .ok (.aload_n 0, 1) := by decide +kernel
theorem dX13_kindAt_167 : decode cX13_kindAt 167 = .ok (.getfield 23, 3) := by decide +kernel
theorem dX13_kindAt_170 : decode cX13_kindAt 170 = .ok (.iload_n 2, 1) := by decide +kernel
theorem dX13_kindAt_171 : decode cX13_kindAt 171 = .ok (.iload 5, 2) := by decide +kernel
theorem dX13_kindAt_173 : decode cX13_kindAt 173 = .ok (.ifCond .eq 7, 3) := by decide +kernel
theorem dX13_kindAt_176 : decode cX13_kindAt 176 = .ok (.iconst 2, 1) := by decide +kernel
theorem dX13_kindAt_177 : decode cX13_kindAt 177 = .ok (.goto 4, 3) := by decide +kernel
theorem dX13_kindAt_180 : decode cX13_kindAt 180 = .ok (.iconst 1, 1) := by decide +kernel
theorem dX13_kindAt_181 : decode cX13_kindAt 181 = .ok (.iastore, 1) := by decide +kernel
theorem dX13_kindAt_182 : decode cX13_kindAt 182 = .ok (.iload 5, 2) := by decide +kernel
theorem dX13_kindAt_184 : decode cX13_kindAt 184 = .ok (.ifCond .eq 19, 3) := by decide +kernel
theorem dX13_kindAt_187 : decode cX13_kindAt 187 = .ok (.iload_n 3, 1) := by decide +kernel
theorem dX13_kindAt_188 : decode cX13_kindAt 188 = .ok (.bipush 60, 2) := by decide +kernel
theorem dX13_kindAt_190 : decode cX13_kindAt 190 = .ok (.if_icmp .ne 9, 3) := by decide +kernel
theorem dX13_kindAt_193 : decode cX13_kindAt 193 = .ok (.sipush 800, 3) := by decide +kernel
theorem dX13_kindAt_196 : decode cX13_kindAt 196 = .ok (.goto 6, 3) := by decide +kernel
theorem dX13_kindAt_199 : decode cX13_kindAt 199 = .ok (.sipush 801, 3) := by decide +kernel
theorem dX13_kindAt_202 : decode cX13_kindAt 202 = .ok (.ireturn, 1) := by decide +kernel
theorem dX13_kindAt_203 : decode cX13_kindAt 203 = .ok (.iload_n 3, 1) := by decide +kernel
theorem dX13_kindAt_204 : decode cX13_kindAt 204 = .ok (.iconst (-1), 1) := by decide +kernel
theorem dX13_kindAt_205 : decode cX13_kindAt 205 = .ok (.if_icmp .ne 7, 3) := by decide +kernel
theorem dX13_kindAt_208 : decode cX13_kindAt 208 = .ok (.sipush 900, 3) := by decide +kernel
theorem dX13_kindAt_211 : decode cX13_kindAt 211 = .ok (.ireturn, 1) := by decide +kernel
theorem dX13_kindAt_212 : decode cX13_kindAt 212 = .ok (.iload_n 3, 1) := by decide +kernel
theorem dX13_kindAt_213 : decode cX13_kindAt 213 = .ok (.bipush 40, 2) := by decide +kernel
theorem dX13_kindAt_215 : decode cX13_kindAt 215 = .ok (.if_icmp .eq 81, 3) := by decide +kernel
theorem dX13_kindAt_218 : decode cX13_kindAt 218 = .ok (.iload_n 3, 1) := by decide +kernel
theorem dX13_kindAt_219 : decode cX13_kindAt 219 = .ok (.bipush 41, 2) := by decide +kernel
theorem dX13_kindAt_221 : decode cX13_kindAt 221 = .ok (.if_icmp .eq 75, 3) := by decide +kernel
theorem dX13_kindAt_224 : decode cX13_kindAt 224 = .ok (.iload_n 3, 1) := by decide +kernel
theorem dX13_kindAt_225 : decode cX13_kindAt 225 = .ok (.bipush 91, 2) := by decide +kernel
theorem dX13_kindAt_227 : decode cX13_kindAt 227 = .ok (.if_icmp .eq 69, 3) := by decide +kernel
theorem dX13_kindAt_230 : decode cX13_kindAt 230 = .ok (.iload_n 3, 1) := by decide +kernel
theorem dX13_kindAt_231 : decode cX13_kindAt 231 = .ok (.bipush 93, 2) := by decide +kernel
theorem dX13_kindAt_233 : decode cX13_kindAt 233 = .ok (.if_icmp .eq 63, 3) := by decide +kernel
theorem dX13_kindAt_236 : decode cX13_kindAt 236 = .ok (.iload_n 3, 1) := by decide +kernel
theorem dX13_kindAt_237 : decode cX13_kindAt 237 = .ok (.bipush 59, 2) := by decide +kernel
theorem dX13_kindAt_239 : decode cX13_kindAt 239 = .ok (.if_icmp .eq 57, 3) := by decide +kernel
theorem dX13_kindAt_242 : decode cX13_kindAt 242 = .ok (.iload_n 3, 1) := by decide +kernel
theorem dX13_kindAt_243 : decode cX13_kindAt 243 = .ok (.bipush 44, 2) := by decide +kernel
theorem dX13_kindAt_245 : decode cX13_kindAt 245 = .ok (.if_icmp .eq 51, 3) := by decide +kernel
theorem dX13_kindAt_248 : decode cX13_kindAt 248 = .ok (.iload_n 3, 1) := by decide +kernel
theorem dX13_kindAt_249 : decode cX13_kindAt 249 = .ok (.bipush 43, 2) := by decide +kernel
theorem dX13_kindAt_251 : decode cX13_kindAt 251 = .ok (.if_icmp .eq 45, 3) := by decide +kernel
theorem dX13_kindAt_254 : decode cX13_kindAt 254 = .ok (.iload_n 3, 1) := by decide +kernel
theorem dX13_kindAt_255 : decode cX13_kindAt 255 = .ok (.bipush 45, 2) := by decide +kernel
theorem dX13_kindAt_257 : decode cX13_kindAt 257 = .ok (.if_icmp .eq 39, 3) := by decide +kernel
theorem dX13_kindAt_260 : decode cX13_kindAt 260 = .ok (.iload_n 3, 1) := by decide +kernel
theorem dX13_kindAt_261 : decode cX13_kindAt 261 = .ok (.bipush 42, 2) := by decide +kernel
theorem dX13_kindAt_263 : decode cX13_kindAt 263 = .ok (.if_icmp .eq 33, 3) := by decide +kernel
theorem dX13_kindAt_266 : decode cX13_kindAt 266 = .ok (.iload_n 3, 1) := by decide +kernel
theorem dX13_kindAt_267 : decode cX13_kindAt 267 = .ok (.bipush 47, 2) := by decide +kernel
theorem dX13_kindAt_269 : decode cX13_kindAt 269 = .ok (.if_icmp .eq 27, 3) := by decide +kernel
theorem dX13_kindAt_272 : decode cX13_kindAt 272 = .ok (.iload_n 3, 1) := by decide +kernel
theorem dX13_kindAt_273 : decode cX13_kindAt 273 = .ok (.bipush 37, 2) := by decide +kernel
theorem dX13_kindAt_275 : decode cX13_kindAt 275 = .ok (.if_icmp .eq 21, 3) := by decide +kernel
theorem dX13_kindAt_278 : decode cX13_kindAt 278 = .ok (.iload_n 3, 1) := by decide +kernel
theorem dX13_kindAt_279 : decode cX13_kindAt 279 = .ok (.bipush 60, 2) := by decide +kernel
theorem dX13_kindAt_281 : decode cX13_kindAt 281 = .ok (.if_icmp .eq 15, 3) := by decide +kernel
theorem dX13_kindAt_284 : decode cX13_kindAt 284 = .ok (.iload_n 3, 1) := by decide +kernel
theorem dX13_kindAt_285 : decode cX13_kindAt 285 = .ok (.bipush 62, 2) := by decide +kernel
theorem dX13_kindAt_287 : decode cX13_kindAt 287 = .ok (.if_icmp .eq 9, 3) := by decide +kernel
theorem dX13_kindAt_290 : decode cX13_kindAt 290 = .ok (.iload_n 3, 1) := by decide +kernel
theorem dX13_kindAt_291 : decode cX13_kindAt 291 = .ok (.bipush 61, 2) := by decide +kernel
theorem dX13_kindAt_293 : decode cX13_kindAt 293 = .ok (.if_icmp .ne 10, 3) := by decide +kernel
theorem dX13_kindAt_296 : decode cX13_kindAt 296 = .ok (.bipush 32, 2) := by decide +kernel
theorem dX13_kindAt_298 : decode cX13_kindAt 298 = .ok (.iload_n 3, 1) := by decide +kernel
theorem dX13_kindAt_299 : decode cX13_kindAt 299 = .ok (.iadd, 1) := by decide +kernel
theorem dX13_kindAt_300 : decode cX13_kindAt 300 = .ok (.goto 6, 3) := by decide +kernel
theorem dX13_kindAt_303 : decode cX13_kindAt 303 = .ok (.sipush 901, 3) := by decide +kernel
theorem dX13_kindAt_306 : decode cX13_kindAt 306 = .ok (.ireturn, 1) := by decide +kernel
theorem dX13_word_0 : decode cX13_word 0 = .ok (.iconst 0, 1) := by decide +kernel
theorem dX13_word_1 : decode cX13_word 1 = .ok (.istore_n 3, 1) := by decide +kernel
theorem dX13_word_2 : decode cX13_word 2 = .ok (.iload_n 3, 1) := by decide +kernel
theorem dX13_word_3 : decode cX13_word 3 = .ok (.getstatic 96, 3) := by decide +kernel
theorem dX13_word_6 : decode cX13_word 6 = .ok (.arraylength, 1) := by decide +kernel
theorem dX13_word_7 : decode cX13_word 7 = .ok (.if_icmp .ge 84, 3) := by decide +kernel
theorem dX13_word_10 : decode cX13_word 10 = .ok (.getstatic 96, 3) := by decide +kernel
theorem dX13_word_13 : decode cX13_word 13 = .ok (.iload_n 3, 1) := by decide +kernel
theorem dX13_word_14 : decode cX13_word 14 = .ok (.aaload, 1) := by decide +kernel
theorem dX13_word_15 : decode cX13_word 15 = .ok (.invokevirtual 100, 3) := by decide +kernel
theorem dX13_word_18 : decode cX13_word 18 = .ok (.iload_n 2, 1) := by decide +kernel
theorem dX13_word_19 : decode cX13_word 19 = .ok (.if_icmp .ne 7, 3) := by decide +kernel
theorem dX13_word_22 : decode cX13_word 22 = .ok (.iconst 1, 1) := by decide +kernel
theorem dX13_word_23 : decode cX13_word 23 = .ok (.goto 4, 3) := by decide +kernel
theorem dX13_word_26 : decode cX13_word 26 = .ok (.iconst 0, 1) := by decide +kernel
theorem dX13_word_27 : decode cX13_word 27 = .ok (.istore 4, 2) := by decide +kernel
theorem dX13_word_29 : decode cX13_word 29 = .ok (.iconst 0, 1) := by decide +kernel
theorem dX13_word_30 : decode cX13_word 30 = .ok (.istore 5, 2) := by decide +kernel
theorem dX13_word_32 : decode cX13_word 32 = .ok (.iload 4, 2) := by decide +kernel
theorem dX13_word_34 : decode cX13_word 34 = .ok (.ifCond .eq 44, 3) := by decide +kernel
theorem dX13_word_37 : decode cX13_word 37 = .ok (.iload 5, 2) := by decide +kernel
theorem dX13_word_39 : decode cX13_word 39 = .ok (.iload_n 2, 1) := by decide +kernel
theorem dX13_word_40 : decode cX13_word 40 = .ok (.if_icmp .ge 38, 3) := by decide +kernel
theorem dX13_word_43 : decode cX13_word 43 = .ok (.getstatic 96, 3) := by decide +kernel
theorem dX13_word_46 : decode cX13_word 46 = .ok (.iload_n 3, 1) := by decide +kernel
theorem dX13_word_47 : decode cX13_word 47 = .ok (.aaload, 1) := by decide +kernel
theorem dX13_word_48 : decode cX13_word 48 = .ok (.iload 5, 2) := by decide +kernel
theorem dX13_word_50 : decode cX13_word 50 = .ok (.invokevirtual 106, 3) := by decide +kernel
theorem dX13_word_53 : decode cX13_word 53 = .ok (.aload_n 0, 1) := by decide +kernel
theorem dX13_word_54 : decode cX13_word 54 = .ok (.getfield 9, 3) := by decide +kernel
theorem dX13_word_57 : decode cX13_word 57 = .ok (.iload_n 1, 1) := by decide +kernel
theorem dX13_word_58 : decode cX13_word 58 = .ok (.iload 5, 2) := by decide +kernel
theorem dX13_word_60 : decode cX13_word 60 = .ok (.iadd, 1) := by decide +kernel
theorem dX13_word_61 : decode cX13_word 61 = .ok (.iaload, 1) := by decide +kernel
theorem dX13_word_62 : decode cX13_word 62 = .ok (.if_icmp .ne 7, 3) := by decide +kernel
theorem dX13_word_65 : decode cX13_word 65 = .ok (.iconst 1, 1) := by decide +kernel
theorem dX13_word_66 : decode cX13_word 66 = .ok (.goto 4, 3) := by decide +kernel
theorem dX13_word_69 : decode cX13_word 69 = .ok (.iconst 0, 1) := by decide +kernel
theorem dX13_word_70 : decode cX13_word 70 = .ok (.istore 4, 2) := by decide +kernel
theorem dX13_word_72 : decode cX13_word 72 = .ok (.iinc 5 1, 3) := by decide +kernel
theorem dX13_word_75 : decode cX13_word 75 = .ok (.goto (-43), 3) := by decide +kernel
theorem dX13_word_78 : decode cX13_word 78 = .ok (.iload 4, 2) := by decide +kernel
theorem dX13_word_80 : decode cX13_word 80 = .ok (.ifCond .eq 5, 3) := by decide +kernel
theorem dX13_word_83 : decode cX13_word 83 = .ok (.iload_n 3, 1) := by decide +kernel
theorem dX13_word_84 : decode cX13_word 84 = .ok (.ireturn, 1) := by decide +kernel
theorem dX13_word_85 : decode cX13_word 85 = .ok (.iinc 3 1, 3) := by decide +kernel
theorem dX13_word_88 : decode cX13_word 88 = .ok (.goto (-86), 3) := by decide +kernel
theorem dX13_word_91 : decode cX13_word 91 = .ok (.bipush 30, 2) := by decide +kernel
theorem dX13_word_93 : decode cX13_word 93 = .ok (.ireturn, 1) := by decide +kernel
theorem dX13_cutIntoTokens_0 : decode cX13_cutIntoTokens 0 = .ok (.iconst 0, 1) := by decide +kernel
theorem dX13_cutIntoTokens_1 : decode cX13_cutIntoTokens 1 = .ok (.istore_n 1, 1) := by decide +kernel
theorem dX13_cutIntoTokens_2 : decode cX13_cutIntoTokens 2 = .ok (.iconst 0, 1) := by decide +kernel
theorem dX13_cutIntoTokens_3 : decode cX13_cutIntoTokens 3 = .ok (.istore_n 2, 1) := by decide +kernel
theorem dX13_cutIntoTokens_4 : decode cX13_cutIntoTokens 4 = .ok (.iload_n 2, 1) := by decide +kernel
theorem dX13_cutIntoTokens_5 : decode cX13_cutIntoTokens 5 = .ok (.sipush 400, 3) := by decide +kernel
theorem dX13_cutIntoTokens_8 : decode cX13_cutIntoTokens 8 = .ok (.if_icmp .gt 118, 3) := by decide +kernel
theorem dX13_cutIntoTokens_11 : decode cX13_cutIntoTokens 11 = .ok (.aload_n 0, 1) := by decide +kernel
theorem dX13_cutIntoTokens_12 : decode cX13_cutIntoTokens 12 = .ok (.iload_n 1, 1) := by decide +kernel
theorem dX13_cutIntoTokens_13 : decode cX13_cutIntoTokens 13 = .ok (.invokevirtual 82, 3) := by decide +kernel
theorem dX13_cutIntoTokens_16 : decode cX13_cutIntoTokens 16 = .ok (.bipush 32, 2) := by decide +kernel
theorem dX13_cutIntoTokens_18 : decode cX13_cutIntoTokens 18 = .ok (.if_icmp .eq 13, 3) := by decide +kernel
theorem dX13_cutIntoTokens_21 : decode cX13_cutIntoTokens 21 = .ok (.aload_n 0, 1) := by decide +kernel
theorem dX13_cutIntoTokens_22 : decode cX13_cutIntoTokens 22 = .ok (.iload_n 1, 1) := by decide +kernel
theorem dX13_cutIntoTokens_23 : decode cX13_cutIntoTokens 23 = .ok (.invokevirtual 82, 3) := by decide +kernel
theorem dX13_cutIntoTokens_26 : decode cX13_cutIntoTokens 26 = .ok (.bipush 10, 2) := by decide +kernel
theorem dX13_cutIntoTokens_28 : decode cX13_cutIntoTokens 28 = .ok (.if_icmp .ne 9, 3) := by decide +kernel
theorem dX13_cutIntoTokens_31 : decode cX13_cutIntoTokens 31 = .ok (.iinc 1 1, 3) := by decide +kernel
theorem dX13_cutIntoTokens_34 : decode cX13_cutIntoTokens 34 = .ok (.goto (-23), 3) := by decide +kernel
theorem dX13_cutIntoTokens_37 : decode cX13_cutIntoTokens 37 = .ok (.aload_n 0, 1) := by decide +kernel
theorem dX13_cutIntoTokens_38 : decode cX13_cutIntoTokens 38 = .ok (.getfield 20, 3) := by decide +kernel
theorem dX13_cutIntoTokens_41 : decode cX13_cutIntoTokens 41 = .ok (.iload_n 2, 1) := by decide +kernel
theorem dX13_cutIntoTokens_42 : decode cX13_cutIntoTokens 42 = .ok (.iload_n 1, 1) := by decide +kernel
theorem dX13_cutIntoTokens_43 : decode cX13_cutIntoTokens 43 = .ok (.iastore, 1) := by decide +kernel
theorem dX13_cutIntoTokens_44 : decode cX13_cutIntoTokens 44 = .ok (.aload_n 0, 1) := by decide +kernel
theorem dX13_cutIntoTokens_45 : decode cX13_cutIntoTokens 45 = .ok (.getfield 26, 3) := by decide +kernel
theorem dX13_cutIntoTokens_48 : decode cX13_cutIntoTokens 48 = .ok (.iload_n 2, 1) := by decide +kernel
theorem dX13_cutIntoTokens_49 : decode cX13_cutIntoTokens 49 = .ok (.iconst 0, 1) := by decide +kernel
theorem dX13_cutIntoTokens_50 : decode cX13_cutIntoTokens 50 = .ok (.iastore, 1) := by decide +kernel
theorem dX13_cutIntoTokens_51 : decode cX13_cutIntoTokens 51 = .ok (.aload_n 0, 1) := by decide +kernel
theorem dX13_cutIntoTokens_52 : decode cX13_cutIntoTokens 52 = .ok (.getfield 29, 3) := by decide +kernel
theorem dX13_cutIntoTokens_55 : decode cX13_cutIntoTokens 55 = .ok (.iload_n 2, 1) := by decide +kernel
theorem dX13_cutIntoTokens_56 : decode cX13_cutIntoTokens 56 = .ok (.iconst 0, 1) := by decide +kernel
theorem dX13_cutIntoTokens_57 : decode cX13_cutIntoTokens 57 = .ok (.iastore, 1) := by decide +kernel
theorem dX13_cutIntoTokens_58 : decode cX13_cutIntoTokens 58 = .ok (.aload_n 0, 1) := by decide +kernel
theorem dX13_cutIntoTokens_59 : decode cX13_cutIntoTokens 59 = .ok (.getfield 17, 3) := by decide +kernel
theorem dX13_cutIntoTokens_62 : decode cX13_cutIntoTokens 62 = .ok (.iload_n 2, 1) := by decide +kernel
theorem dX13_cutIntoTokens_63 : decode cX13_cutIntoTokens 63 = .ok (.aload_n 0, 1) := by decide +kernel
theorem dX13_cutIntoTokens_64 : decode cX13_cutIntoTokens 64 = .ok (.iload_n 1, 1) := by decide +kernel
theorem dX13_cutIntoTokens_65 : decode cX13_cutIntoTokens 65 = .ok (.iload_n 2, 1) := by decide +kernel
theorem dX13_cutIntoTokens_66 : decode cX13_cutIntoTokens 66 = .ok (.invokevirtual 110, 3) := by decide +kernel
theorem dX13_cutIntoTokens_69 : decode cX13_cutIntoTokens 69 = .ok (.iastore, 1) := by decide +kernel
theorem dX13_cutIntoTokens_70 : decode cX13_cutIntoTokens 70 = .ok (.iload_n 2, 1) := by decide +kernel
theorem dX13_cutIntoTokens_71 : decode cX13_cutIntoTokens 71 = .ok (.sipush 400, 3) := by decide +kernel
theorem dX13_cutIntoTokens_74 : decode cX13_cutIntoTokens 74 = .ok (.if_icmp .ne 24, 3) := by decide +kernel
theorem dX13_cutIntoTokens_77 : decode cX13_cutIntoTokens 77 = .ok (.aload_n 0, 1) := by decide +kernel
theorem dX13_cutIntoTokens_78 : decode cX13_cutIntoTokens 78 = .ok (.getfield 17, 3) := by decide +kernel
theorem dX13_cutIntoTokens_81 : decode cX13_cutIntoTokens 81 = .ok (.iload_n 2, 1) := by decide +kernel
theorem dX13_cutIntoTokens_82 : decode cX13_cutIntoTokens 82 = .ok (.iaload, 1) := by decide +kernel
theorem dX13_cutIntoTokens_83 : decode cX13_cutIntoTokens 83 = .ok (.sipush 900, 3) := by decide +kernel
theorem dX13_cutIntoTokens_86 : decode cX13_cutIntoTokens 86 = .ok (.if_icmp .eq 12, 3) := by decide +kernel
theorem dX13_cutIntoTokens_89 : decode cX13_cutIntoTokens 89 = .ok (.aload_n 0, 1) := by decide +kernel
theorem dX13_cutIntoTokens_90 : decode cX13_cutIntoTokens 90 = .ok (.getfield 17, 3) := by decide +kernel
theorem dX13_cutIntoTokens_93 : decode cX13_cutIntoTokens 93 = .ok (.iload_n 2, 1) := by decide +kernel
theorem dX13_cutIntoTokens_94 : decode cX13_cutIntoTokens 94 = .ok (.sipush 901, 3) := by decide +kernel
theorem dX13_cutIntoTokens_97 : decode cX13_cutIntoTokens 97 = .ok (.iastore, 1) := by decide +kernel
theorem dX13_cutIntoTokens_98 : decode cX13_cutIntoTokens 98 = .ok (.aload_n 0, 1) := by decide +kernel
theorem dX13_cutIntoTokens_99 : decode cX13_cutIntoTokens 99 = .ok (.getfield 17, 3) := by decide +kernel
theorem dX13_cutIntoTokens_102 : decode cX13_cutIntoTokens 102 = .ok (.iload_n 2, 1) := by decide +kernel
theorem dX13_cutIntoTokens_103 : decode cX13_cutIntoTokens 103 = .ok (.iaload, 1) := by decide +kernel
theorem dX13_cutIntoTokens_104 : decode cX13_cutIntoTokens 104 = .ok (.sipush 900, 3) := by decide +kernel
theorem dX13_cutIntoTokens_107 : decode cX13_cutIntoTokens 107 = .ok (.if_icmp .lt 4, 3) := by decide +kernel
theorem dX13_cutIntoTokens_110 : decode cX13_cutIntoTokens 110 = .ok (.return_, 1) := by decide +kernel
theorem dX13_cutIntoTokens_111 : decode cX13_cutIntoTokens 111 = .ok (.iload_n 1, 1) := by decide +kernel
theorem dX13_cutIntoTokens_112 : decode cX13_cutIntoTokens 112 = .ok (.aload_n 0, 1) := by decide +kernel
theorem dX13_cutIntoTokens_113 : decode cX13_cutIntoTokens 113 = .ok (.getfield 23, 3) := by decide +kernel
theorem dX13_cutIntoTokens_116 : decode cX13_cutIntoTokens 116 = .ok (.iload_n 2, 1) := by decide +kernel
theorem dX13_cutIntoTokens_117 : decode cX13_cutIntoTokens 117 = .ok (.iaload, 1) := by decide +kernel
theorem dX13_cutIntoTokens_118 : decode cX13_cutIntoTokens 118 = .ok (.iadd, 1) := by decide +kernel
theorem dX13_cutIntoTokens_119 : decode cX13_cutIntoTokens 119 = .ok (.istore_n 1, 1) := by decide +kernel
theorem dX13_cutIntoTokens_120 : decode cX13_cutIntoTokens 120 = .ok (.iinc 2 1, 3) := by decide +kernel
theorem dX13_cutIntoTokens_123 : decode cX13_cutIntoTokens 123 = .ok (.goto (-119), 3) := by decide +kernel
theorem dX13_cutIntoTokens_126 : decode cX13_cutIntoTokens 126 = .ok (.return_, 1) := by decide +kernel
theorem dX13_is_0 : decode cX13_is 0 = .ok (.aload_n 0, 1) := by decide +kernel
theorem dX13_is_1 : decode cX13_is 1 = .ok (.getfield 17, 3) := by decide +kernel
theorem dX13_is_4 : decode cX13_is 4 = .ok (.aload_n 0, 1) := by decide +kernel
theorem dX13_is_5 : decode cX13_is 5 = .ok (.getfield 113, 3) := by decide +kernel
theorem dX13_is_8 : decode cX13_is 8 = .ok (.iaload, 1) := by decide +kernel
theorem dX13_is_9 : decode cX13_is 9 = .ok (.iload_n 1, 1) := by decide +kernel
theorem dX13_is_10 : decode cX13_is 10 = .ok (.if_icmp .ne 7, 3) := by decide +kernel
theorem dX13_is_13 : decode cX13_is 13 = .ok (.iconst 1, 1) := by decide +kernel
theorem dX13_is_14 : decode cX13_is 14 = .ok (.goto 4, 3) := by decide +kernel
theorem dX13_is_17 : decode cX13_is 17 = .ok (.iconst 0, 1) := by decide +kernel
theorem dX13_is_18 : decode cX13_is 18 = .ok (.ireturn, 1) := by decide +kernel
theorem dX13_isSign_0 : decode cX13_isSign 0 = .ok (.aload_n 0, 1) := by decide +kernel
theorem dX13_isSign_1 : decode cX13_isSign 1 = .ok (.getfield 17, 3) := by decide +kernel
theorem dX13_isSign_4 : decode cX13_isSign 4 = .ok (.aload_n 0, 1) := by decide +kernel
theorem dX13_isSign_5 : decode cX13_isSign 5 = .ok (.getfield 113, 3) := by decide +kernel
theorem dX13_isSign_8 : decode cX13_isSign 8 = .ok (.iaload, 1) := by decide +kernel
theorem dX13_isSign_9 : decode cX13_isSign 9 = .ok (.bipush 32, 2) := by decide +kernel
theorem dX13_isSign_11 : decode cX13_isSign 11 = .ok (.iload_n 1, 1) := by decide +kernel
theorem dX13_isSign_12 : decode cX13_isSign 12 = .ok (.iadd, 1) := by decide +kernel
theorem dX13_isSign_13 : decode cX13_isSign 13 = .ok (.if_icmp .ne 7, 3) := by decide +kernel
theorem dX13_isSign_16 : decode cX13_isSign 16 = .ok (.iconst 1, 1) := by decide +kernel
theorem dX13_isSign_17 : decode cX13_isSign 17 = .ok (.goto 4, 3) := by decide +kernel
theorem dX13_isSign_20 : decode cX13_isSign 20 = .ok (.iconst 0, 1) := by decide +kernel
theorem dX13_isSign_21 : decode cX13_isSign 21 = .ok (.ireturn, 1) := by decide +kernel
theorem dX13_eat_0 : decode cX13_eat 0 = .ok (.aload_n 0, 1) := by decide +kernel
theorem dX13_eat_1 : decode cX13_eat 1 = .ok (.iload_n 1, 1) := by decide +kernel
theorem dX13_eat_2 : decode cX13_eat 2 = .ok (.invokevirtual 116, 3) := by decide +kernel
theorem dX13_eat_5 : decode cX13_eat 5 = .ok (.ifCond .ne 5, 3) := by decide +kernel
theorem dX13_eat_8 : decode cX13_eat 8 = .ok (.iconst 0, 1) := by decide +kernel
theorem dX13_eat_9 : decode cX13_eat 9 = .ok (.ireturn, 1) := by decide +kernel
theorem dX13_eat_10 : decode cX13_eat 10 = .ok (.aload_n 0, 1) := by decide +kernel
theorem dX13_eat_11 : decode cX13_eat 11 = .ok (.dup, 1) := by decide +kernel
theorem dX13_eat_12 : decode cX13_eat 12 = .ok (.getfield 113, 3) := by decide +kernel
theorem dX13_eat_15 : decode cX13_eat 15 = .ok (.iconst 1, 1) := by decide +kernel
theorem dX13_eat_16 : decode cX13_eat 16 = .ok (.iadd, 1) := by decide +kernel
theorem dX13_eat_17 : decode cX13_eat 17 = .ok (.putfield 113, 3) := by decide +kernel
theorem dX13_eat_20 : decode cX13_eat 20 = .ok (.iconst 1, 1) := by decide +kernel
theorem dX13_eat_21 : decode cX13_eat 21 = .ok (.ireturn, 1) := by decide +kernel
theorem dX13_eatSign_0 : decode cX13_eatSign 0 = .ok (.aload_n 0, 1) := by decide +kernel
theorem dX13_eatSign_1 : decode cX13_eatSign 1 = .ok (.bipush 32, 2) := by decide +kernel
theorem dX13_eatSign_3 : decode cX13_eatSign 3 = .ok (.iload_n 1, 1) := by decide +kernel
theorem dX13_eatSign_4 : decode cX13_eatSign 4 = .ok (.iadd, 1) := by decide +kernel
theorem dX13_eatSign_5 : decode cX13_eatSign 5 = .ok (.invokevirtual 119, 3) := by decide +kernel
theorem dX13_eatSign_8 : decode cX13_eatSign 8 = .ok (.ireturn, 1) := by decide +kernel
theorem dX13_eatAs_0 : decode cX13_eatAs 0 = .ok (.aload_n 0, 1) := by decide +kernel
theorem dX13_eatAs_1 : decode cX13_eatAs 1 = .ok (.getfield 26, 3) := by decide +kernel
theorem dX13_eatAs_4 : decode cX13_eatAs 4 = .ok (.aload_n 0, 1) := by decide +kernel
theorem dX13_eatAs_5 : decode cX13_eatAs 5 = .ok (.getfield 113, 3) := by decide +kernel
theorem dX13_eatAs_8 : decode cX13_eatAs 8 = .ok (.iload_n 2, 1) := by decide +kernel
theorem dX13_eatAs_9 : decode cX13_eatAs 9 = .ok (.iastore, 1) := by decide +kernel
theorem dX13_eatAs_10 : decode cX13_eatAs 10 = .ok (.aload_n 0, 1) := by decide +kernel
theorem dX13_eatAs_11 : decode cX13_eatAs 11 = .ok (.iload_n 1, 1) := by decide +kernel
theorem dX13_eatAs_12 : decode cX13_eatAs 12 = .ok (.invokevirtual 119, 3) := by decide +kernel
theorem dX13_eatAs_15 : decode cX13_eatAs 15 = .ok (.ireturn, 1) := by decide +kernel
theorem dX13_put_0 : decode cX13_put 0 = .ok (.aload_n 0, 1) := by decide +kernel
theorem dX13_put_1 : decode cX13_put 1 = .ok (.getfield 39, 3) := by decide +kernel
theorem dX13_put_4 : decode cX13_put 4 = .ok (.getfield 122, 3) := by decide +kernel
theorem dX13_put_7 : decode cX13_put 7 = .ok (.aload_n 0, 1) := by decide +kernel
theorem dX13_put_8 : decode cX13_put 8 = .ok (.getfield 39, 3) := by decide +kernel
theorem dX13_put_11 : decode cX13_put 11 = .ok (.getfield 125, 3) := by decide +kernel
theorem dX13_put_14 : decode cX13_put 14 = .ok (.iload_n 1, 1) := by decide +kernel
theorem dX13_put_15 : decode cX13_put 15 = .ok (.iastore, 1) := by decide +kernel
theorem dX13_put_16 : decode cX13_put 16 = .ok (.aload_n 0, 1) := by decide +kernel
theorem dX13_put_17 : decode cX13_put 17 = .ok (.getfield 39, 3) := by decide +kernel
theorem dX13_put_20 : decode cX13_put 20 = .ok (.dup, 1) := by decide +kernel
theorem dX13_put_21 : decode cX13_put 21 = .ok (.getfield 125, 3) := by decide +kernel
theorem dX13_put_24 : decode cX13_put 24 = .ok (.iconst 1, 1) := by decide +kernel
theorem dX13_put_25 : decode cX13_put 25 = .ok (.iadd, 1) := by decide +kernel
theorem dX13_put_26 : decode cX13_put 26 = .ok (.putfield 125, 3) := by decide +kernel
theorem dX13_put_29 : decode cX13_put 29 = .ok (.return_, 1) := by decide +kernel
theorem dX13_putToken_0 : decode cX13_putToken 0 = .ok (.aload_n 0, 1) := by decide +kernel
theorem dX13_putToken_1 : decode cX13_putToken 1 = .ok (.getfield 39, 3) := by decide +kernel
theorem dX13_putToken_4 : decode cX13_putToken 4 = .ok (.getfield 127, 3) := by decide +kernel
theorem dX13_putToken_7 : decode cX13_putToken 7 = .ok (.aload_n 0, 1) := by decide +kernel
theorem dX13_putToken_8 : decode cX13_putToken 8 = .ok (.getfield 39, 3) := by decide +kernel
theorem dX13_putToken_11 : decode cX13_putToken 11 = .ok (.getfield 130, 3) := by decide +kernel
theorem dX13_putToken_14 : decode cX13_putToken 14 = .ok (.aload_n 0, 1) := by decide +kernel
theorem dX13_putToken_15 : decode cX13_putToken 15 = .ok (.getfield 39, 3) := by decide +kernel
theorem dX13_putToken_18 : decode cX13_putToken 18 = .ok (.getfield 125, 3) := by decide +kernel
theorem dX13_putToken_21 : decode cX13_putToken 21 = .ok (.iastore, 1) := by decide +kernel
theorem dX13_putToken_22 : decode cX13_putToken 22 = .ok (.aload_n 0, 1) := by decide +kernel
theorem dX13_putToken_23 : decode cX13_putToken 23 = .ok (.getfield 39, 3) := by decide +kernel
theorem dX13_putToken_26 : decode cX13_putToken 26 = .ok (.dup, 1) := by decide +kernel
theorem dX13_putToken_27 : decode cX13_putToken 27 = .ok (.getfield 130, 3) := by decide +kernel
theorem dX13_putToken_30 : decode cX13_putToken 30 = .ok (.iconst 1, 1) := by decide +kernel
theorem dX13_putToken_31 : decode cX13_putToken 31 = .ok (.iadd, 1) := by decide +kernel
theorem dX13_putToken_32 : decode cX13_putToken 32 = .ok (.putfield 130, 3) := by decide +kernel
theorem dX13_putToken_35 : decode cX13_putToken 35 = .ok (.aload_n 0, 1) := by decide +kernel
theorem dX13_putToken_36 : decode cX13_putToken 36 = .ok (.iload_n 1, 1) := by decide +kernel
theorem dX13_putToken_37 : decode cX13_putToken 37 = .ok (.invokevirtual 133, 3) := by decide +kernel
theorem dX13_putToken_40 : decode cX13_putToken 40 = .ok (.return_, 1) := by decide +kernel
theorem dX13_isText_0 : decode cX13_isText 0 = .ok (.aload_n 0, 1) := by decide +kernel
theorem dX13_isText_1 : decode cX13_isText 1 = .ok (.sipush 900, 3) := by decide +kernel
theorem dX13_isText_4 : decode cX13_isText 4 = .ok (.invokevirtual 116, 3) := by decide +kernel
theorem dX13_isText_7 : decode cX13_isText 7 = .ok (.ifCond .ne 65, 3) := by decide +kernel
theorem dX13_isText_10 : decode cX13_isText 10 = .ok (.aload_n 0, 1) := by decide +kernel
theorem dX13_isText_11 : decode cX13_isText 11 = .ok (.iconst 0, 1) := by decide +kernel
theorem dX13_isText_12 : decode cX13_isText 12 = .ok (.invokevirtual 116, 3) := by decide +kernel
theorem dX13_isText_15 : decode cX13_isText 15 = .ok (.ifCond .eq 10, 3) := by decide +kernel
theorem dX13_isText_18 : decode cX13_isText 18 = .ok (.aload_n 0, 1) := by decide +kernel
theorem dX13_isText_19 : decode cX13_isText 19 = .ok (.invokevirtual 137, 3) := by decide +kernel
theorem dX13_isText_22 : decode cX13_isText 22 = .ok (.goto 40, 3) := by decide +kernel
theorem dX13_isText_25 : decode cX13_isText 25 = .ok (.aload_n 0, 1) := by decide +kernel
theorem dX13_isText_26 : decode cX13_isText 26 = .ok (.bipush 6, 2) := by decide +kernel
theorem dX13_isText_28 : decode cX13_isText 28 = .ok (.invokevirtual 116, 3) := by decide +kernel
theorem dX13_isText_31 : decode cX13_isText 31 = .ok (.ifCond .eq 10, 3) := by decide +kernel
theorem dX13_isText_34 : decode cX13_isText 34 = .ok (.aload_n 0, 1) := by decide +kernel
theorem dX13_isText_35 : decode cX13_isText 35 = .ok (.invokevirtual 141, 3) := by decide +kernel
theorem dX13_isText_38 : decode cX13_isText 38 = .ok (.goto 24, 3) := by decide +kernel
theorem dX13_isText_41 : decode cX13_isText 41 = .ok (.aload_n 0, 1) := by decide +kernel
theorem dX13_isText_42 : decode cX13_isText 42 = .ok (.bipush 7, 2) := by decide +kernel
theorem dX13_isText_44 : decode cX13_isText 44 = .ok (.invokevirtual 116, 3) := by decide +kernel
theorem dX13_isText_47 : decode cX13_isText 47 = .ok (.ifCond .eq 14, 3) := by decide +kernel
theorem dX13_isText_50 : decode cX13_isText 50 = .ok (.aload_n 0, 1) := by decide +kernel
theorem dX13_isText_51 : decode cX13_isText 51 = .ok (.invokevirtual 144, 3) := by decide +kernel
theorem dX13_isText_54 : decode cX13_isText 54 = .ok (.ifCond .eq 7, 3) := by decide +kernel
theorem dX13_isText_57 : decode cX13_isText 57 = .ok (.iconst 1, 1) := by decide +kernel
theorem dX13_isText_58 : decode cX13_isText 58 = .ok (.goto 4, 3) := by decide +kernel
theorem dX13_isText_61 : decode cX13_isText 61 = .ok (.iconst 0, 1) := by decide +kernel
theorem dX13_isText_62 : decode cX13_isText 62 = .ok (.istore_n 1, 1) := by decide +kernel
theorem dX13_isText_63 : decode cX13_isText 63 = .ok (.iload_n 1, 1) := by decide +kernel
theorem dX13_isText_64 : decode cX13_isText 64 = .ok (.ifCond .ne 5, 3) := by decide +kernel
theorem dX13_isText_67 : decode cX13_isText 67 = .ok (.iconst 0, 1) := by decide +kernel
theorem dX13_isText_68 : decode cX13_isText 68 = .ok (.ireturn, 1) := by decide +kernel
theorem dX13_isText_69 : decode cX13_isText 69 = .ok (.goto (-69), 3) := by decide +kernel
theorem dX13_isText_72 : decode cX13_isText 72 = .ok (.iconst 1, 1) := by decide +kernel
theorem dX13_isText_73 : decode cX13_isText 73 = .ok (.ireturn, 1) := by decide +kernel
theorem dX13_isPlanetLine_0 : decode cX13_isPlanetLine 0 = .ok (.aload_n 0, 1) := by decide +kernel
theorem dX13_isPlanetLine_1 : decode cX13_isPlanetLine 1 = .ok (.dup, 1) := by decide +kernel
theorem dX13_isPlanetLine_2 : decode cX13_isPlanetLine 2 = .ok (.getfield 113, 3) := by decide +kernel
theorem dX13_isPlanetLine_5 : decode cX13_isPlanetLine 5 = .ok (.iconst 1, 1) := by decide +kernel
theorem dX13_isPlanetLine_6 : decode cX13_isPlanetLine 6 = .ok (.iadd, 1) := by decide +kernel
theorem dX13_isPlanetLine_7 : decode cX13_isPlanetLine 7 = .ok (.putfield 113, 3) := by decide +kernel
theorem dX13_isPlanetLine_10 : decode cX13_isPlanetLine 10 = .ok (.aload_n 0, 1) := by decide +kernel
theorem dX13_isPlanetLine_11 : decode cX13_isPlanetLine 11 = .ok (.bipush 30, 2) := by decide +kernel
theorem dX13_isPlanetLine_13 : decode cX13_isPlanetLine 13 = .ok (.iconst 1, 1) := by decide +kernel
theorem dX13_isPlanetLine_14 : decode cX13_isPlanetLine 14 = .ok (.invokevirtual 147, 3) := by decide +kernel
theorem dX13_isPlanetLine_17 : decode cX13_isPlanetLine 17 = .ok (.ifCond .eq 41, 3) := by decide +kernel
theorem dX13_isPlanetLine_20 : decode cX13_isPlanetLine 20 = .ok (.aload_n 0, 1) := by decide +kernel
theorem dX13_isPlanetLine_21 : decode cX13_isPlanetLine 21 = .ok (.iconst 1, 1) := by decide +kernel
theorem dX13_isPlanetLine_22 : decode cX13_isPlanetLine 22 = .ok (.invokevirtual 119, 3) := by decide +kernel
theorem dX13_isPlanetLine_25 : decode cX13_isPlanetLine 25 = .ok (.ifCond .eq 33, 3) := by decide +kernel
theorem dX13_isPlanetLine_28 : decode cX13_isPlanetLine 28 = .ok (.aload_n 0, 1) := by decide +kernel
theorem dX13_isPlanetLine_29 : decode cX13_isPlanetLine 29 = .ok (.bipush 31, 2) := by decide +kernel
theorem dX13_isPlanetLine_31 : decode cX13_isPlanetLine 31 = .ok (.bipush 8, 2) := by decide +kernel
theorem dX13_isPlanetLine_33 : decode cX13_isPlanetLine 33 = .ok (.invokevirtual 147, 3) := by decide +kernel
theorem dX13_isPlanetLine_36 : decode cX13_isPlanetLine 36 = .ok (.ifCond .eq 22, 3) := by decide +kernel
theorem dX13_isPlanetLine_39 : decode cX13_isPlanetLine 39 = .ok (.aload_n 0, 1) := by decide +kernel
theorem dX13_isPlanetLine_40 : decode cX13_isPlanetLine 40 = .ok (.iconst 2, 1) := by decide +kernel
theorem dX13_isPlanetLine_41 : decode cX13_isPlanetLine 41 = .ok (.invokevirtual 119, 3) := by decide +kernel
theorem dX13_isPlanetLine_44 : decode cX13_isPlanetLine 44 = .ok (.ifCond .eq 14, 3) := by decide +kernel
theorem dX13_isPlanetLine_47 : decode cX13_isPlanetLine 47 = .ok (.aload_n 0, 1) := by decide +kernel
theorem dX13_isPlanetLine_48 : decode cX13_isPlanetLine 48 = .ok (.bipush 31, 2) := by decide +kernel
theorem dX13_isPlanetLine_50 : decode cX13_isPlanetLine 50 = .ok (.bipush 9, 2) := by decide +kernel
theorem dX13_isPlanetLine_52 : decode cX13_isPlanetLine 52 = .ok (.invokevirtual 147, 3) := by decide +kernel
theorem dX13_isPlanetLine_55 : decode cX13_isPlanetLine 55 = .ok (.ifCond .ne 5, 3) := by decide +kernel
theorem dX13_isPlanetLine_58 : decode cX13_isPlanetLine 58 = .ok (.iconst 0, 1) := by decide +kernel
theorem dX13_isPlanetLine_59 : decode cX13_isPlanetLine 59 = .ok (.ireturn, 1) := by decide +kernel
theorem dX13_isPlanetLine_60 : decode cX13_isPlanetLine 60 = .ok (.aload_n 0, 1) := by decide +kernel
theorem dX13_isPlanetLine_61 : decode cX13_isPlanetLine 61 = .ok (.iconst 3, 1) := by decide +kernel
theorem dX13_isPlanetLine_62 : decode cX13_isPlanetLine 62 = .ok (.invokevirtual 119, 3) := by decide +kernel
theorem dX13_isPlanetLine_65 : decode cX13_isPlanetLine 65 = .ok (.ifCond .eq 16, 3) := by decide +kernel
theorem dX13_isPlanetLine_68 : decode cX13_isPlanetLine 68 = .ok (.aload_n 0, 1) := by decide +kernel
theorem dX13_isPlanetLine_69 : decode cX13_isPlanetLine 69 = .ok (.bipush 31, 2) := by decide +kernel
theorem dX13_isPlanetLine_71 : decode cX13_isPlanetLine 71 = .ok (.bipush 10, 2) := by decide +kernel
theorem dX13_isPlanetLine_73 : decode cX13_isPlanetLine 73 = .ok (.invokevirtual 147, 3) := by decide +kernel
theorem dX13_isPlanetLine_76 : decode cX13_isPlanetLine 76 = .ok (.ifCond .ne 5, 3) := by decide +kernel
theorem dX13_isPlanetLine_79 : decode cX13_isPlanetLine 79 = .ok (.iconst 0, 1) := by decide +kernel
theorem dX13_isPlanetLine_80 : decode cX13_isPlanetLine 80 = .ok (.ireturn, 1) := by decide +kernel
theorem dX13_isPlanetLine_81 : decode cX13_isPlanetLine 81 = .ok (.aload_n 0, 1) := by decide +kernel
theorem dX13_isPlanetLine_82 : decode cX13_isPlanetLine 82 = .ok (.iconst 4, 1) := by decide +kernel
theorem dX13_isPlanetLine_83 : decode cX13_isPlanetLine 83 = .ok (.invokevirtual 119, 3) := by decide +kernel
theorem dX13_isPlanetLine_86 : decode cX13_isPlanetLine 86 = .ok (.ifCond .eq 35, 3) := by decide +kernel
theorem dX13_isPlanetLine_89 : decode cX13_isPlanetLine 89 = .ok (.aload_n 0, 1) := by decide +kernel
theorem dX13_isPlanetLine_90 : decode cX13_isPlanetLine 90 = .ok (.bipush 31, 2) := by decide +kernel
theorem dX13_isPlanetLine_92 : decode cX13_isPlanetLine 92 = .ok (.bipush 11, 2) := by decide +kernel
theorem dX13_isPlanetLine_94 : decode cX13_isPlanetLine 94 = .ok (.invokevirtual 147, 3) := by decide +kernel
theorem dX13_isPlanetLine_97 : decode cX13_isPlanetLine 97 = .ok (.ifCond .eq 22, 3) := by decide +kernel
theorem dX13_isPlanetLine_100 : decode cX13_isPlanetLine 100 = .ok (.aload_n 0, 1) := by decide +kernel
theorem dX13_isPlanetLine_101 : decode cX13_isPlanetLine 101 = .ok (.iconst 5, 1) := by decide +kernel
theorem dX13_isPlanetLine_102 : decode cX13_isPlanetLine 102 = .ok (.invokevirtual 119, 3) := by decide +kernel
theorem dX13_isPlanetLine_105 : decode cX13_isPlanetLine 105 = .ok (.ifCond .eq 14, 3) := by decide +kernel
theorem dX13_isPlanetLine_108 : decode cX13_isPlanetLine 108 = .ok (.aload_n 0, 1) := by decide +kernel
theorem dX13_isPlanetLine_109 : decode cX13_isPlanetLine 109 = .ok (.bipush 31, 2) := by decide +kernel
theorem dX13_isPlanetLine_111 : decode cX13_isPlanetLine 111 = .ok (.bipush 12, 2) := by decide +kernel
theorem dX13_isPlanetLine_113 : decode cX13_isPlanetLine 113 = .ok (.invokevirtual 147, 3) := by decide +kernel
theorem dX13_isPlanetLine_116 : decode cX13_isPlanetLine 116 = .ok (.ifCond .ne 5, 3) := by decide +kernel
theorem dX13_isPlanetLine_119 : decode cX13_isPlanetLine 119 = .ok (.iconst 0, 1) := by decide +kernel
theorem dX13_isPlanetLine_120 : decode cX13_isPlanetLine 120 = .ok (.ireturn, 1) := by decide +kernel
theorem dX13_isPlanetLine_121 : decode cX13_isPlanetLine 121 = .ok (.aload_n 0, 1) := by decide +kernel
theorem dX13_isPlanetLine_122 : decode cX13_isPlanetLine 122 = .ok (.bipush 59, 2) := by decide +kernel
theorem dX13_isPlanetLine_124 : decode cX13_isPlanetLine 124 = .ok (.invokevirtual 151, 3) := by decide +kernel
theorem dX13_isPlanetLine_127 : decode cX13_isPlanetLine 127 = .ok (.ireturn, 1) := by decide +kernel
theorem dX13_isAlphabetLine_0 : decode cX13_isAlphabetLine 0 = .ok (.aload_n 0, 1) := by decide +kernel
theorem dX13_isAlphabetLine_1 : decode cX13_isAlphabetLine 1 = .ok (.dup, 1) := by decide +kernel
theorem dX13_isAlphabetLine_2 : decode cX13_isAlphabetLine 2 = .ok (.getfield 113, 3) := by decide +kernel
theorem dX13_isAlphabetLine_5 : decode cX13_isAlphabetLine 5 = .ok (.iconst 1, 1) := by decide +kernel
theorem dX13_isAlphabetLine_6 : decode cX13_isAlphabetLine 6 = .ok (.iadd, 1) := by decide +kernel
theorem dX13_isAlphabetLine_7 : decode cX13_isAlphabetLine 7 = .ok (.putfield 113, 3) := by decide +kernel
theorem dX13_isAlphabetLine_10 : decode cX13_isAlphabetLine 10 = .ok (.aload_n 0, 1) := by decide +kernel
theorem dX13_isAlphabetLine_11 : decode cX13_isAlphabetLine 11 = .ok (.bipush 30, 2) := by decide +kernel
theorem dX13_isAlphabetLine_13 : decode cX13_isAlphabetLine 13 = .ok (.iconst 2, 1) := by decide +kernel
theorem dX13_isAlphabetLine_14 : decode cX13_isAlphabetLine 14 = .ok (.invokevirtual 147, 3) := by decide +kernel
theorem dX13_isAlphabetLine_17 : decode cX13_isAlphabetLine 17 = .ok (.ifCond .eq 26, 3) := by decide +kernel
theorem dX13_isAlphabetLine_20 : decode cX13_isAlphabetLine 20 = .ok (.aload_n 0, 1) := by decide +kernel
theorem dX13_isAlphabetLine_21 : decode cX13_isAlphabetLine 21 = .ok (.bipush 30, 2) := by decide +kernel
theorem dX13_isAlphabetLine_23 : decode cX13_isAlphabetLine 23 = .ok (.iconst 3, 1) := by decide +kernel
theorem dX13_isAlphabetLine_24 : decode cX13_isAlphabetLine 24 = .ok (.invokevirtual 147, 3) := by decide +kernel
theorem dX13_isAlphabetLine_27 : decode cX13_isAlphabetLine 27 = .ok (.ifCond .eq 16, 3) := by decide +kernel
theorem dX13_isAlphabetLine_30 : decode cX13_isAlphabetLine 30 = .ok (.aload_n 0, 1) := by decide +kernel
theorem dX13_isAlphabetLine_31 : decode cX13_isAlphabetLine 31 = .ok (.bipush 59, 2) := by decide +kernel
theorem dX13_isAlphabetLine_33 : decode cX13_isAlphabetLine 33 = .ok (.invokevirtual 151, 3) := by decide +kernel
theorem dX13_isAlphabetLine_36 : decode cX13_isAlphabetLine 36 = .ok (.ifCond .eq 7, 3) := by decide +kernel
theorem dX13_isAlphabetLine_39 : decode cX13_isAlphabetLine 39 = .ok (.iconst 1, 1) := by decide +kernel
theorem dX13_isAlphabetLine_40 : decode cX13_isAlphabetLine 40 = .ok (.goto 4, 3) := by decide +kernel
theorem dX13_isAlphabetLine_43 : decode cX13_isAlphabetLine 43 = .ok (.iconst 0, 1) := by decide +kernel
theorem dX13_isAlphabetLine_44 : decode cX13_isAlphabetLine 44 = .ok (.ireturn, 1) := by decide +kernel
theorem dX13_isRule_0 : decode cX13_isRule 0 = .ok (.aload_n 0, 1) := by decide +kernel
theorem dX13_isRule_1 : decode cX13_isRule 1 = .ok (.getfield 26, 3) := by decide +kernel
theorem dX13_isRule_4 : decode cX13_isRule 4 = .ok (.aload_n 0, 1) := by decide +kernel
theorem dX13_isRule_5 : decode cX13_isRule 5 = .ok (.getfield 113, 3) := by decide +kernel
theorem dX13_isRule_8 : decode cX13_isRule 8 = .ok (.bipush 7, 2) := by decide +kernel
theorem dX13_isRule_10 : decode cX13_isRule 10 = .ok (.iastore, 1) := by decide +kernel
theorem dX13_isRule_11 : decode cX13_isRule 11 = .ok (.aload_n 0, 1) := by decide +kernel
theorem dX13_isRule_12 : decode cX13_isRule 12 = .ok (.dup, 1) := by decide +kernel
theorem dX13_isRule_13 : decode cX13_isRule 13 = .ok (.getfield 113, 3) := by decide +kernel
theorem dX13_isRule_16 : decode cX13_isRule 16 = .ok (.iconst 1, 1) := by decide +kernel
theorem dX13_isRule_17 : decode cX13_isRule 17 = .ok (.iadd, 1) := by decide +kernel
theorem dX13_isRule_18 : decode cX13_isRule 18 = .ok (.putfield 113, 3) := by decide +kernel
theorem dX13_isRule_21 : decode cX13_isRule 21 = .ok (.aload_n 0, 1) := by decide +kernel
theorem dX13_isRule_22 : decode cX13_isRule 22 = .ok (.getfield 39, 3) := by decide +kernel
theorem dX13_isRule_25 : decode cX13_isRule 25 = .ok (.getfield 155, 3) := by decide +kernel
theorem dX13_isRule_28 : decode cX13_isRule 28 = .ok (.bipush 12, 2) := by decide +kernel
theorem dX13_isRule_30 : decode cX13_isRule 30 = .ok (.invokestatic 73, 3) := by decide +kernel
theorem dX13_isRule_33 : decode cX13_isRule 33 = .ok (.istore_n 1, 1) := by decide +kernel
theorem dX13_isRule_34 : decode cX13_isRule 34 = .ok (.aload_n 0, 1) := by decide +kernel
theorem dX13_isRule_35 : decode cX13_isRule 35 = .ok (.getfield 39, 3) := by decide +kernel
theorem dX13_isRule_38 : decode cX13_isRule 38 = .ok (.getfield 158, 3) := by decide +kernel
theorem dX13_isRule_41 : decode cX13_isRule 41 = .ok (.iload_n 1, 1) := by decide +kernel
theorem dX13_isRule_42 : decode cX13_isRule 42 = .ok (.aload_n 0, 1) := by decide +kernel
theorem dX13_isRule_43 : decode cX13_isRule 43 = .ok (.getfield 39, 3) := by decide +kernel
theorem dX13_isRule_46 : decode cX13_isRule 46 = .ok (.getfield 125, 3) := by decide +kernel
theorem dX13_isRule_49 : decode cX13_isRule 49 = .ok (.iastore, 1) := by decide +kernel
theorem dX13_isRule_50 : decode cX13_isRule 50 = .ok (.aload_n 0, 1) := by decide +kernel
theorem dX13_isRule_51 : decode cX13_isRule 51 = .ok (.invokevirtual 161, 3) := by decide +kernel
theorem dX13_isRule_54 : decode cX13_isRule 54 = .ok (.ifCond .eq 12, 3) := by decide +kernel
theorem dX13_isRule_57 : decode cX13_isRule 57 = .ok (.aload_n 0, 1) := by decide +kernel
theorem dX13_isRule_58 : decode cX13_isRule 58 = .ok (.bipush 8, 2) := by decide +kernel
theorem dX13_isRule_60 : decode cX13_isRule 60 = .ok (.invokevirtual 119, 3) := by decide +kernel
theorem dX13_isRule_63 : decode cX13_isRule 63 = .ok (.ifCond .ne 5, 3) := by decide +kernel
theorem dX13_isRule_66 : decode cX13_isRule 66 = .ok (.iconst 0, 1) := by decide +kernel
theorem dX13_isRule_67 : decode cX13_isRule 67 = .ok (.ireturn, 1) := by decide +kernel
theorem dX13_isRule_68 : decode cX13_isRule 68 = .ok (.aload_n 0, 1) := by decide +kernel
theorem dX13_isRule_69 : decode cX13_isRule 69 = .ok (.getfield 39, 3) := by decide +kernel
theorem dX13_isRule_72 : decode cX13_isRule 72 = .ok (.getfield 164, 3) := by decide +kernel
theorem dX13_isRule_75 : decode cX13_isRule 75 = .ok (.iload_n 1, 1) := by decide +kernel
theorem dX13_isRule_76 : decode cX13_isRule 76 = .ok (.aload_n 0, 1) := by decide +kernel
theorem dX13_isRule_77 : decode cX13_isRule 77 = .ok (.getfield 39, 3) := by decide +kernel
theorem dX13_isRule_80 : decode cX13_isRule 80 = .ok (.getfield 125, 3) := by decide +kernel
theorem dX13_isRule_83 : decode cX13_isRule 83 = .ok (.iastore, 1) := by decide +kernel
theorem dX13_isRule_84 : decode cX13_isRule 84 = .ok (.aload_n 0, 1) := by decide +kernel
theorem dX13_isRule_85 : decode cX13_isRule 85 = .ok (.invokevirtual 167, 3) := by decide +kernel
theorem dX13_isRule_88 : decode cX13_isRule 88 = .ok (.ifCond .eq 12, 3) := by decide +kernel
theorem dX13_isRule_91 : decode cX13_isRule 91 = .ok (.aload_n 0, 1) := by decide +kernel
theorem dX13_isRule_92 : decode cX13_isRule 92 = .ok (.bipush 9, 2) := by decide +kernel
theorem dX13_isRule_94 : decode cX13_isRule 94 = .ok (.invokevirtual 119, 3) := by decide +kernel
theorem dX13_isRule_97 : decode cX13_isRule 97 = .ok (.ifCond .ne 5, 3) := by decide +kernel
theorem dX13_isRule_100 : decode cX13_isRule 100 = .ok (.iconst 0, 1) := by decide +kernel
theorem dX13_isRule_101 : decode cX13_isRule 101 = .ok (.ireturn, 1) := by decide +kernel
theorem dX13_isRule_102 : decode cX13_isRule 102 = .ok (.aload_n 0, 1) := by decide +kernel
theorem dX13_isRule_103 : decode cX13_isRule 103 = .ok (.getfield 39, 3) := by decide +kernel
theorem dX13_isRule_106 : decode cX13_isRule 106 = .ok (.getfield 170, 3) := by decide +kernel
theorem dX13_isRule_109 : decode cX13_isRule 109 = .ok (.iload_n 1, 1) := by decide +kernel
theorem dX13_isRule_110 : decode cX13_isRule 110 = .ok (.aload_n 0, 1) := by decide +kernel
theorem dX13_isRule_111 : decode cX13_isRule 111 = .ok (.getfield 113, 3) := by decide +kernel
theorem dX13_isRule_114 : decode cX13_isRule 114 = .ok (.iastore, 1) := by decide +kernel
theorem dX13_isRule_115 : decode cX13_isRule 115 = .ok (.aload_n 0, 1) := by decide +kernel
theorem dX13_isRule_116 : decode cX13_isRule 116 = .ok (.bipush 30, 2) := by decide +kernel
theorem dX13_isRule_118 : decode cX13_isRule 118 = .ok (.bipush 6, 2) := by decide +kernel
theorem dX13_isRule_120 : decode cX13_isRule 120 = .ok (.invokevirtual 147, 3) := by decide +kernel
theorem dX13_isRule_123 : decode cX13_isRule 123 = .ok (.ifCond .ne 5, 3) := by decide +kernel
theorem dX13_isRule_126 : decode cX13_isRule 126 = .ok (.iconst 0, 1) := by decide +kernel
theorem dX13_isRule_127 : decode cX13_isRule 127 = .ok (.ireturn, 1) := by decide +kernel
theorem dX13_isRule_128 : decode cX13_isRule 128 = .ok (.aload_n 0, 1) := by decide +kernel
theorem dX13_isRule_129 : decode cX13_isRule 129 = .ok (.getfield 39, 3) := by decide +kernel
theorem dX13_isRule_132 : decode cX13_isRule 132 = .ok (.dup, 1) := by decide +kernel
theorem dX13_isRule_133 : decode cX13_isRule 133 = .ok (.getfield 155, 3) := by decide +kernel
theorem dX13_isRule_136 : decode cX13_isRule 136 = .ok (.iconst 1, 1) := by decide +kernel
theorem dX13_isRule_137 : decode cX13_isRule 137 = .ok (.iadd, 1) := by decide +kernel
theorem dX13_isRule_138 : decode cX13_isRule 138 = .ok (.putfield 155, 3) := by decide +kernel
theorem dX13_isRule_141 : decode cX13_isRule 141 = .ok (.aload_n 0, 1) := by decide +kernel
theorem dX13_isRule_142 : decode cX13_isRule 142 = .ok (.getfield 39, 3) := by decide +kernel
theorem dX13_isRule_145 : decode cX13_isRule 145 = .ok (.getfield 158, 3) := by decide +kernel
theorem dX13_isRule_148 : decode cX13_isRule 148 = .ok (.aload_n 0, 1) := by decide +kernel
theorem dX13_isRule_149 : decode cX13_isRule 149 = .ok (.getfield 39, 3) := by decide +kernel
theorem dX13_isRule_152 : decode cX13_isRule 152 = .ok (.getfield 155, 3) := by decide +kernel
theorem dX13_isRule_155 : decode cX13_isRule 155 = .ok (.bipush 12, 2) := by decide +kernel
theorem dX13_isRule_157 : decode cX13_isRule 157 = .ok (.invokestatic 73, 3) := by decide +kernel
theorem dX13_isRule_160 : decode cX13_isRule 160 = .ok (.aload_n 0, 1) := by decide +kernel
theorem dX13_isRule_161 : decode cX13_isRule 161 = .ok (.getfield 39, 3) := by decide +kernel
theorem dX13_isRule_164 : decode cX13_isRule 164 = .ok (.getfield 125, 3) := by decide +kernel
theorem dX13_isRule_167 : decode cX13_isRule 167 = .ok (.iastore, 1) := by decide +kernel
theorem dX13_isRule_168 : decode cX13_isRule 168 = .ok (.aload_n 0, 1) := by decide +kernel
theorem dX13_isRule_169 : decode cX13_isRule 169 = .ok (.bipush 59, 2) := by decide +kernel
theorem dX13_isRule_171 : decode cX13_isRule 171 = .ok (.invokevirtual 151, 3) := by decide +kernel
theorem dX13_isRule_174 : decode cX13_isRule 174 = .ok (.ireturn, 1) := by decide +kernel
theorem dX13_isTest_0 : decode cX13_isTest 0 = .ok (.aload_n 0, 1) := by decide +kernel
theorem dX13_isTest_1 : decode cX13_isTest 1 = .ok (.invokevirtual 173, 3) := by decide +kernel
theorem dX13_isTest_4 : decode cX13_isTest 4 = .ok (.ifCond .ne 5, 3) := by decide +kernel
theorem dX13_isTest_7 : decode cX13_isTest 7 = .ok (.iconst 0, 1) := by decide +kernel
theorem dX13_isTest_8 : decode cX13_isTest 8 = .ok (.ireturn, 1) := by decide +kernel
theorem dX13_isTest_9 : decode cX13_isTest 9 = .ok (.aload_n 0, 1) := by decide +kernel
theorem dX13_isTest_10 : decode cX13_isTest 10 = .ok (.bipush 19, 2) := by decide +kernel
theorem dX13_isTest_12 : decode cX13_isTest 12 = .ok (.invokevirtual 119, 3) := by decide +kernel
theorem dX13_isTest_15 : decode cX13_isTest 15 = .ok (.ifCond .eq 21, 3) := by decide +kernel
theorem dX13_isTest_18 : decode cX13_isTest 18 = .ok (.aload_n 0, 1) := by decide +kernel
theorem dX13_isTest_19 : decode cX13_isTest 19 = .ok (.invokevirtual 173, 3) := by decide +kernel
theorem dX13_isTest_22 : decode cX13_isTest 22 = .ok (.ifCond .ne 5, 3) := by decide +kernel
theorem dX13_isTest_25 : decode cX13_isTest 25 = .ok (.iconst 0, 1) := by decide +kernel
theorem dX13_isTest_26 : decode cX13_isTest 26 = .ok (.ireturn, 1) := by decide +kernel
theorem dX13_isTest_27 : decode cX13_isTest 27 = .ok (.aload_n 0, 1) := by decide +kernel
theorem dX13_isTest_28 : decode cX13_isTest 28 = .ok (.bipush 19, 2) := by decide +kernel
theorem dX13_isTest_30 : decode cX13_isTest 30 = .ok (.invokevirtual 133, 3) := by decide +kernel
theorem dX13_isTest_33 : decode cX13_isTest 33 = .ok (.goto (-24), 3) := by decide +kernel
theorem dX13_isTest_36 : decode cX13_isTest 36 = .ok (.iconst 1, 1) := by decide +kernel
theorem dX13_isTest_37 : decode cX13_isTest 37 = .ok (.ireturn, 1) := by decide +kernel
theorem dX13_isBoth_0 : decode cX13_isBoth 0 = .ok (.aload_n 0, 1) := by decide +kernel
theorem dX13_isBoth_1 : decode cX13_isBoth 1 = .ok (.invokevirtual 176, 3) := by decide +kernel
theorem dX13_isBoth_4 : decode cX13_isBoth 4 = .ok (.ifCond .ne 5, 3) := by decide +kernel
theorem dX13_isBoth_7 : decode cX13_isBoth 7 = .ok (.iconst 0, 1) := by decide +kernel
theorem dX13_isBoth_8 : decode cX13_isBoth 8 = .ok (.ireturn, 1) := by decide +kernel
theorem dX13_isBoth_9 : decode cX13_isBoth 9 = .ok (.aload_n 0, 1) := by decide +kernel
theorem dX13_isBoth_10 : decode cX13_isBoth 10 = .ok (.bipush 18, 2) := by decide +kernel
theorem dX13_isBoth_12 : decode cX13_isBoth 12 = .ok (.invokevirtual 119, 3) := by decide +kernel
theorem dX13_isBoth_15 : decode cX13_isBoth 15 = .ok (.ifCond .eq 21, 3) := by decide +kernel
theorem dX13_isBoth_18 : decode cX13_isBoth 18 = .ok (.aload_n 0, 1) := by decide +kernel
theorem dX13_isBoth_19 : decode cX13_isBoth 19 = .ok (.invokevirtual 176, 3) := by decide +kernel
theorem dX13_isBoth_22 : decode cX13_isBoth 22 = .ok (.ifCond .ne 5, 3) := by decide +kernel
theorem dX13_isBoth_25 : decode cX13_isBoth 25 = .ok (.iconst 0, 1) := by decide +kernel
theorem dX13_isBoth_26 : decode cX13_isBoth 26 = .ok (.ireturn, 1) := by decide +kernel
theorem dX13_isBoth_27 : decode cX13_isBoth 27 = .ok (.aload_n 0, 1) := by decide +kernel
theorem dX13_isBoth_28 : decode cX13_isBoth 28 = .ok (.bipush 18, 2) := by decide +kernel
theorem dX13_isBoth_30 : decode cX13_isBoth 30 = .ok (.invokevirtual 133, 3) := by decide +kernel
theorem dX13_isBoth_33 : decode cX13_isBoth 33 = .ok (.goto (-24), 3) := by decide +kernel
theorem dX13_isBoth_36 : decode cX13_isBoth 36 = .ok (.iconst 1, 1) := by decide +kernel
theorem dX13_isBoth_37 : decode cX13_isBoth 37 = .ok (.ireturn, 1) := by decide +kernel
theorem dX13_isIn__0 : decode cX13_isIn_ 0 = .ok (.aload_n 0, 1) := by decide +kernel
theorem dX13_isIn__1 : decode cX13_isIn_ 1 = .ok (.getfield 179, 3) := by decide +kernel
theorem dX13_isIn__4 : decode cX13_isIn_ 4 = .ok (.bipush 8, 2) := by decide +kernel
theorem dX13_isIn__6 : decode cX13_isIn_ 6 = .ok (.if_icmp .ne 5, 3) := by decide +kernel
theorem dX13_isIn__9 : decode cX13_isIn_ 9 = .ok (.iconst 0, 1) := by decide +kernel
theorem dX13_isIn__10 : decode cX13_isIn_ 10 = .ok (.ireturn, 1) := by decide +kernel
theorem dX13_isIn__11 : decode cX13_isIn_ 11 = .ok (.aload_n 0, 1) := by decide +kernel
theorem dX13_isIn__12 : decode cX13_isIn_ 12 = .ok (.dup, 1) := by decide +kernel
theorem dX13_isIn__13 : decode cX13_isIn_ 13 = .ok (.getfield 179, 3) := by decide +kernel
theorem dX13_isIn__16 : decode cX13_isIn_ 16 = .ok (.iconst 1, 1) := by decide +kernel
theorem dX13_isIn__17 : decode cX13_isIn_ 17 = .ok (.iadd, 1) := by decide +kernel
theorem dX13_isIn__18 : decode cX13_isIn_ 18 = .ok (.putfield 179, 3) := by decide +kernel
theorem dX13_isIn__21 : decode cX13_isIn_ 21 = .ok (.aload_n 0, 1) := by decide +kernel
theorem dX13_isIn__22 : decode cX13_isIn_ 22 = .ok (.dup, 1) := by decide +kernel
theorem dX13_isIn__23 : decode cX13_isIn_ 23 = .ok (.getfield 113, 3) := by decide +kernel
theorem dX13_isIn__26 : decode cX13_isIn_ 26 = .ok (.iconst 1, 1) := by decide +kernel
theorem dX13_isIn__27 : decode cX13_isIn_ 27 = .ok (.iadd, 1) := by decide +kernel
theorem dX13_isIn__28 : decode cX13_isIn_ 28 = .ok (.putfield 113, 3) := by decide +kernel
theorem dX13_isIn__31 : decode cX13_isIn_ 31 = .ok (.iconst 1, 1) := by decide +kernel
theorem dX13_isIn__32 : decode cX13_isIn_ 32 = .ok (.ireturn, 1) := by decide +kernel
theorem dX13_isPair_0 : decode cX13_isPair 0 = .ok (.aload_n 0, 1) := by decide +kernel
theorem dX13_isPair_1 : decode cX13_isPair 1 = .ok (.iload_n 1, 1) := by decide +kernel
theorem dX13_isPair_2 : decode cX13_isPair 2 = .ok (.invokevirtual 133, 3) := by decide +kernel
theorem dX13_isPair_5 : decode cX13_isPair 5 = .ok (.aload_n 0, 1) := by decide +kernel
theorem dX13_isPair_6 : decode cX13_isPair 6 = .ok (.dup, 1) := by decide +kernel
theorem dX13_isPair_7 : decode cX13_isPair 7 = .ok (.getfield 113, 3) := by decide +kernel
theorem dX13_isPair_10 : decode cX13_isPair 10 = .ok (.iconst 1, 1) := by decide +kernel
theorem dX13_isPair_11 : decode cX13_isPair 11 = .ok (.iadd, 1) := by decide +kernel
theorem dX13_isPair_12 : decode cX13_isPair 12 = .ok (.putfield 113, 3) := by decide +kernel
theorem dX13_isPair_15 : decode cX13_isPair 15 = .ok (.aload_n 0, 1) := by decide +kernel
theorem dX13_isPair_16 : decode cX13_isPair 16 = .ok (.aload_n 0, 1) := by decide +kernel
theorem dX13_isPair_17 : decode cX13_isPair 17 = .ok (.getfield 113, 3) := by decide +kernel
theorem dX13_isPair_20 : decode cX13_isPair 20 = .ok (.invokevirtual 182, 3) := by decide +kernel
theorem dX13_isPair_23 : decode cX13_isPair 23 = .ok (.aload_n 0, 1) := by decide +kernel
theorem dX13_isPair_24 : decode cX13_isPair 24 = .ok (.bipush 30, 2) := by decide +kernel
theorem dX13_isPair_26 : decode cX13_isPair 26 = .ok (.iconst 4, 1) := by decide +kernel
theorem dX13_isPair_27 : decode cX13_isPair 27 = .ok (.invokevirtual 147, 3) := by decide +kernel
theorem dX13_isPair_30 : decode cX13_isPair 30 = .ok (.ifCond .ne 5, 3) := by decide +kernel
theorem dX13_isPair_33 : decode cX13_isPair 33 = .ok (.iconst 0, 1) := by decide +kernel
theorem dX13_isPair_34 : decode cX13_isPair 34 = .ok (.ireturn, 1) := by decide +kernel
theorem dX13_isPair_35 : decode cX13_isPair 35 = .ok (.aload_n 0, 1) := by decide +kernel
theorem dX13_isPair_36 : decode cX13_isPair 36 = .ok (.aload_n 0, 1) := by decide +kernel
theorem dX13_isPair_37 : decode cX13_isPair 37 = .ok (.getfield 113, 3) := by decide +kernel
theorem dX13_isPair_40 : decode cX13_isPair 40 = .ok (.invokevirtual 182, 3) := by decide +kernel
theorem dX13_isPair_43 : decode cX13_isPair 43 = .ok (.aload_n 0, 1) := by decide +kernel
theorem dX13_isPair_44 : decode cX13_isPair 44 = .ok (.bipush 30, 2) := by decide +kernel
theorem dX13_isPair_46 : decode cX13_isPair 46 = .ok (.iconst 5, 1) := by decide +kernel
theorem dX13_isPair_47 : decode cX13_isPair 47 = .ok (.invokevirtual 147, 3) := by decide +kernel
theorem dX13_isPair_50 : decode cX13_isPair 50 = .ok (.ireturn, 1) := by decide +kernel
theorem dX13_isOne_0 : decode cX13_isOne 0 = .ok (.aload_n 0, 1) := by decide +kernel
theorem dX13_isOne_1 : decode cX13_isOne 1 = .ok (.iload_n 1, 1) := by decide +kernel
theorem dX13_isOne_2 : decode cX13_isOne 2 = .ok (.invokevirtual 133, 3) := by decide +kernel
theorem dX13_isOne_5 : decode cX13_isOne 5 = .ok (.aload_n 0, 1) := by decide +kernel
theorem dX13_isOne_6 : decode cX13_isOne 6 = .ok (.dup, 1) := by decide +kernel
theorem dX13_isOne_7 : decode cX13_isOne 7 = .ok (.getfield 113, 3) := by decide +kernel
theorem dX13_isOne_10 : decode cX13_isOne 10 = .ok (.iconst 1, 1) := by decide +kernel
theorem dX13_isOne_11 : decode cX13_isOne 11 = .ok (.iadd, 1) := by decide +kernel
theorem dX13_isOne_12 : decode cX13_isOne 12 = .ok (.putfield 113, 3) := by decide +kernel
theorem dX13_isOne_15 : decode cX13_isOne 15 = .ok (.aload_n 0, 1) := by decide +kernel
theorem dX13_isOne_16 : decode cX13_isOne 16 = .ok (.aload_n 0, 1) := by decide +kernel
theorem dX13_isOne_17 : decode cX13_isOne 17 = .ok (.getfield 113, 3) := by decide +kernel
theorem dX13_isOne_20 : decode cX13_isOne 20 = .ok (.invokevirtual 182, 3) := by decide +kernel
theorem dX13_isOne_23 : decode cX13_isOne 23 = .ok (.aload_n 0, 1) := by decide +kernel
theorem dX13_isOne_24 : decode cX13_isOne 24 = .ok (.bipush 30, 2) := by decide +kernel
theorem dX13_isOne_26 : decode cX13_isOne 26 = .ok (.iconst 4, 1) := by decide +kernel
theorem dX13_isOne_27 : decode cX13_isOne 27 = .ok (.invokevirtual 147, 3) := by decide +kernel
theorem dX13_isOne_30 : decode cX13_isOne 30 = .ok (.ireturn, 1) := by decide +kernel
theorem dX13_isSingle_0 : decode cX13_isSingle 0 = .ok (.aload_n 0, 1) := by decide +kernel
theorem dX13_isSingle_1 : decode cX13_isSingle 1 = .ok (.bipush 17, 2) := by decide +kernel
theorem dX13_isSingle_3 : decode cX13_isSingle 3 = .ok (.invokevirtual 116, 3) := by decide +kernel
theorem dX13_isSingle_6 : decode cX13_isSingle 6 = .ok (.ifCond .eq 37, 3) := by decide +kernel
theorem dX13_isSingle_9 : decode cX13_isSingle 9 = .ok (.aload_n 0, 1) := by decide +kernel
theorem dX13_isSingle_10 : decode cX13_isSingle 10 = .ok (.invokevirtual 185, 3) := by decide +kernel
theorem dX13_isSingle_13 : decode cX13_isSingle 13 = .ok (.ifCond .eq 10, 3) := by decide +kernel
theorem dX13_isSingle_16 : decode cX13_isSingle 16 = .ok (.aload_n 0, 1) := by decide +kernel
theorem dX13_isSingle_17 : decode cX13_isSingle 17 = .ok (.invokevirtual 176, 3) := by decide +kernel
theorem dX13_isSingle_20 : decode cX13_isSingle 20 = .ok (.ifCond .ne 5, 3) := by decide +kernel
theorem dX13_isSingle_23 : decode cX13_isSingle 23 = .ok (.iconst 0, 1) := by decide +kernel
theorem dX13_isSingle_24 : decode cX13_isSingle 24 = .ok (.ireturn, 1) := by decide +kernel
theorem dX13_isSingle_25 : decode cX13_isSingle 25 = .ok (.aload_n 0, 1) := by decide +kernel
theorem dX13_isSingle_26 : decode cX13_isSingle 26 = .ok (.dup, 1) := by decide +kernel
theorem dX13_isSingle_27 : decode cX13_isSingle 27 = .ok (.getfield 179, 3) := by decide +kernel
theorem dX13_isSingle_30 : decode cX13_isSingle 30 = .ok (.iconst 1, 1) := by decide +kernel
theorem dX13_isSingle_31 : decode cX13_isSingle 31 = .ok (.isub, 1) := by decide +kernel
theorem dX13_isSingle_32 : decode cX13_isSingle 32 = .ok (.putfield 179, 3) := by decide +kernel
theorem dX13_isSingle_35 : decode cX13_isSingle 35 = .ok (.aload_n 0, 1) := by decide +kernel
theorem dX13_isSingle_36 : decode cX13_isSingle 36 = .ok (.bipush 17, 2) := by decide +kernel
theorem dX13_isSingle_38 : decode cX13_isSingle 38 = .ok (.invokevirtual 133, 3) := by decide +kernel
theorem dX13_isSingle_41 : decode cX13_isSingle 41 = .ok (.iconst 1, 1) := by decide +kernel
theorem dX13_isSingle_42 : decode cX13_isSingle 42 = .ok (.ireturn, 1) := by decide +kernel
theorem dX13_isSingle_43 : decode cX13_isSingle 43 = .ok (.aload_n 0, 1) := by decide +kernel
theorem dX13_isSingle_44 : decode cX13_isSingle 44 = .ok (.bipush 91, 2) := by decide +kernel
theorem dX13_isSingle_46 : decode cX13_isSingle 46 = .ok (.invokevirtual 187, 3) := by decide +kernel
theorem dX13_isSingle_49 : decode cX13_isSingle 49 = .ok (.ifCond .eq 36, 3) := by decide +kernel
theorem dX13_isSingle_52 : decode cX13_isSingle 52 = .ok (.aload_n 0, 1) := by decide +kernel
theorem dX13_isSingle_53 : decode cX13_isSingle 53 = .ok (.invokevirtual 185, 3) := by decide +kernel
theorem dX13_isSingle_56 : decode cX13_isSingle 56 = .ok (.ifCond .eq 10, 3) := by decide +kernel
theorem dX13_isSingle_59 : decode cX13_isSingle 59 = .ok (.aload_n 0, 1) := by decide +kernel
theorem dX13_isSingle_60 : decode cX13_isSingle 60 = .ok (.invokevirtual 161, 3) := by decide +kernel
theorem dX13_isSingle_63 : decode cX13_isSingle 63 = .ok (.ifCond .ne 5, 3) := by decide +kernel
theorem dX13_isSingle_66 : decode cX13_isSingle 66 = .ok (.iconst 0, 1) := by decide +kernel
theorem dX13_isSingle_67 : decode cX13_isSingle 67 = .ok (.ireturn, 1) := by decide +kernel
theorem dX13_isSingle_68 : decode cX13_isSingle 68 = .ok (.aload_n 0, 1) := by decide +kernel
theorem dX13_isSingle_69 : decode cX13_isSingle 69 = .ok (.dup, 1) := by decide +kernel
theorem dX13_isSingle_70 : decode cX13_isSingle 70 = .ok (.getfield 179, 3) := by decide +kernel
theorem dX13_isSingle_73 : decode cX13_isSingle 73 = .ok (.iconst 1, 1) := by decide +kernel
theorem dX13_isSingle_74 : decode cX13_isSingle 74 = .ok (.isub, 1) := by decide +kernel
theorem dX13_isSingle_75 : decode cX13_isSingle 75 = .ok (.putfield 179, 3) := by decide +kernel
theorem dX13_isSingle_78 : decode cX13_isSingle 78 = .ok (.aload_n 0, 1) := by decide +kernel
theorem dX13_isSingle_79 : decode cX13_isSingle 79 = .ok (.bipush 93, 2) := by decide +kernel
theorem dX13_isSingle_81 : decode cX13_isSingle 81 = .ok (.invokevirtual 151, 3) := by decide +kernel
theorem dX13_isSingle_84 : decode cX13_isSingle 84 = .ok (.ireturn, 1) := by decide +kernel
theorem dX13_isSingle_85 : decode cX13_isSingle 85 = .ok (.aload_n 0, 1) := by decide +kernel
theorem dX13_isSingle_86 : decode cX13_isSingle 86 = .ok (.bipush 10, 2) := by decide +kernel
theorem dX13_isSingle_88 : decode cX13_isSingle 88 = .ok (.invokevirtual 116, 3) := by decide +kernel
theorem dX13_isSingle_91 : decode cX13_isSingle 91 = .ok (.ifCond .ne 12, 3) := by decide +kernel
theorem dX13_isSingle_94 : decode cX13_isSingle 94 = .ok (.aload_n 0, 1) := by decide +kernel
theorem dX13_isSingle_95 : decode cX13_isSingle 95 = .ok (.bipush 11, 2) := by decide +kernel
theorem dX13_isSingle_97 : decode cX13_isSingle 97 = .ok (.invokevirtual 116, 3) := by decide +kernel
theorem dX13_isSingle_100 : decode cX13_isSingle 100 = .ok (.ifCond .eq 17, 3) := by decide +kernel
theorem dX13_isSingle_103 : decode cX13_isSingle 103 = .ok (.aload_n 0, 1) := by decide +kernel
theorem dX13_isSingle_104 : decode cX13_isSingle 104 = .ok (.aload_n 0, 1) := by decide +kernel
theorem dX13_isSingle_105 : decode cX13_isSingle 105 = .ok (.getfield 17, 3) := by decide +kernel
theorem dX13_isSingle_108 : decode cX13_isSingle 108 = .ok (.aload_n 0, 1) := by decide +kernel
theorem dX13_isSingle_109 : decode cX13_isSingle 109 = .ok (.getfield 113, 3) := by decide +kernel
theorem dX13_isSingle_112 : decode cX13_isSingle 112 = .ok (.iaload, 1) := by decide +kernel
theorem dX13_isSingle_113 : decode cX13_isSingle 113 = .ok (.invokevirtual 190, 3) := by decide +kernel
theorem dX13_isSingle_116 : decode cX13_isSingle 116 = .ok (.ireturn, 1) := by decide +kernel
theorem dX13_isSingle_117 : decode cX13_isSingle 117 = .ok (.aload_n 0, 1) := by decide +kernel
theorem dX13_isSingle_118 : decode cX13_isSingle 118 = .ok (.iconst 4, 1) := by decide +kernel
theorem dX13_isSingle_119 : decode cX13_isSingle 119 = .ok (.invokevirtual 116, 3) := by decide +kernel
theorem dX13_isSingle_122 : decode cX13_isSingle 122 = .ok (.ifCond .eq 11, 3) := by decide +kernel
theorem dX13_isSingle_125 : decode cX13_isSingle 125 = .ok (.aload_n 0, 1) := by decide +kernel
theorem dX13_isSingle_126 : decode cX13_isSingle 126 = .ok (.iconst 4, 1) := by decide +kernel
theorem dX13_isSingle_127 : decode cX13_isSingle 127 = .ok (.invokevirtual 193, 3) := by decide +kernel
theorem dX13_isSingle_130 : decode cX13_isSingle 130 = .ok (.goto 7, 3) := by decide +kernel
theorem dX13_isSingle_133 : decode cX13_isSingle 133 = .ok (.aload_n 0, 1) := by decide +kernel
theorem dX13_isSingle_134 : decode cX13_isSingle 134 = .ok (.invokevirtual 196, 3) := by decide +kernel
theorem dX13_isSingle_137 : decode cX13_isSingle 137 = .ok (.ireturn, 1) := by decide +kernel
theorem dX13_isCompared_0 : decode cX13_isCompared 0 = .ok (.aload_n 0, 1) := by decide +kernel
theorem dX13_isCompared_1 : decode cX13_isCompared 1 = .ok (.invokevirtual 167, 3) := by decide +kernel
theorem dX13_isCompared_4 : decode cX13_isCompared 4 = .ok (.ifCond .ne 5, 3) := by decide +kernel
theorem dX13_isCompared_7 : decode cX13_isCompared 7 = .ok (.iconst 0, 1) := by decide +kernel
theorem dX13_isCompared_8 : decode cX13_isCompared 8 = .ok (.ireturn, 1) := by decide +kernel
theorem dX13_isCompared_9 : decode cX13_isCompared 9 = .ok (.aload_n 0, 1) := by decide +kernel
theorem dX13_isCompared_10 : decode cX13_isCompared 10 = .ok (.bipush 60, 2) := by decide +kernel
theorem dX13_isCompared_12 : decode cX13_isCompared 12 = .ok (.invokevirtual 187, 3) := by decide +kernel
theorem dX13_isCompared_15 : decode cX13_isCompared 15 = .ok (.ifCond .eq 8, 3) := by decide +kernel
theorem dX13_isCompared_18 : decode cX13_isCompared 18 = .ok (.bipush 47, 2) := by decide +kernel
theorem dX13_isCompared_20 : decode cX13_isCompared 20 = .ok (.goto 62, 3) := by decide +kernel
theorem dX13_isCompared_23 : decode cX13_isCompared 23 = .ok (.aload_n 0, 1) := by decide +kernel
theorem dX13_isCompared_24 : decode cX13_isCompared 24 = .ok (.bipush 62, 2) := by decide +kernel
theorem dX13_isCompared_26 : decode cX13_isCompared 26 = .ok (.invokevirtual 187, 3) := by decide +kernel
theorem dX13_isCompared_29 : decode cX13_isCompared 29 = .ok (.ifCond .eq 8, 3) := by decide +kernel
theorem dX13_isCompared_32 : decode cX13_isCompared 32 = .ok (.bipush 48, 2) := by decide +kernel
theorem dX13_isCompared_34 : decode cX13_isCompared 34 = .ok (.goto 48, 3) := by decide +kernel
theorem dX13_isCompared_37 : decode cX13_isCompared 37 = .ok (.aload_n 0, 1) := by decide +kernel
theorem dX13_isCompared_38 : decode cX13_isCompared 38 = .ok (.bipush 61, 2) := by decide +kernel
theorem dX13_isCompared_40 : decode cX13_isCompared 40 = .ok (.invokevirtual 187, 3) := by decide +kernel
theorem dX13_isCompared_43 : decode cX13_isCompared 43 = .ok (.ifCond .eq 8, 3) := by decide +kernel
theorem dX13_isCompared_46 : decode cX13_isCompared 46 = .ok (.bipush 49, 2) := by decide +kernel
theorem dX13_isCompared_48 : decode cX13_isCompared 48 = .ok (.goto 34, 3) := by decide +kernel
theorem dX13_isCompared_51 : decode cX13_isCompared 51 = .ok (.aload_n 0, 1) := by decide +kernel
theorem dX13_isCompared_52 : decode cX13_isCompared 52 = .ok (.sipush 800, 3) := by decide +kernel
theorem dX13_isCompared_55 : decode cX13_isCompared 55 = .ok (.invokevirtual 116, 3) := by decide +kernel
theorem dX13_isCompared_58 : decode cX13_isCompared 58 = .ok (.ifCond .eq 8, 3) := by decide +kernel
theorem dX13_isCompared_61 : decode cX13_isCompared 61 = .ok (.bipush 50, 2) := by decide +kernel
theorem dX13_isCompared_63 : decode cX13_isCompared 63 = .ok (.goto 19, 3) := by decide +kernel
theorem dX13_isCompared_66 : decode cX13_isCompared 66 = .ok (.aload_n 0, 1) := by decide +kernel
theorem dX13_isCompared_67 : decode cX13_isCompared 67 = .ok (.sipush 801, 3) := by decide +kernel
theorem dX13_isCompared_70 : decode cX13_isCompared 70 = .ok (.invokevirtual 116, 3) := by decide +kernel
theorem dX13_isCompared_73 : decode cX13_isCompared 73 = .ok (.ifCond .eq 8, 3) := by decide +kernel
theorem dX13_isCompared_76 : decode cX13_isCompared 76 = .ok (.bipush 51, 2) := by decide +kernel
theorem dX13_isCompared_78 : decode cX13_isCompared 78 = .ok (.goto 4, 3) := by decide +kernel
theorem dX13_isCompared_81 : decode cX13_isCompared 81 = .ok (.iconst (-1), 1) := by decide +kernel
theorem dX13_isCompared_82 : decode cX13_isCompared 82 = .ok (.istore_n 1, 1) := by decide +kernel
theorem dX13_isCompared_83 : decode cX13_isCompared 83 = .ok (.iload_n 1, 1) := by decide +kernel
theorem dX13_isCompared_84 : decode cX13_isCompared 84 = .ok (.iconst (-1), 1) := by decide +kernel
theorem dX13_isCompared_85 : decode cX13_isCompared 85 = .ok (.if_icmp .ne 5, 3) := by decide +kernel
theorem dX13_isCompared_88 : decode cX13_isCompared 88 = .ok (.iconst 0, 1) := by decide +kernel
theorem dX13_isCompared_89 : decode cX13_isCompared 89 = .ok (.ireturn, 1) := by decide +kernel
theorem dX13_isCompared_90 : decode cX13_isCompared 90 = .ok (.aload_n 0, 1) := by decide +kernel
theorem dX13_isCompared_91 : decode cX13_isCompared 91 = .ok (.dup, 1) := by decide +kernel
theorem dX13_isCompared_92 : decode cX13_isCompared 92 = .ok (.getfield 113, 3) := by decide +kernel
theorem dX13_isCompared_95 : decode cX13_isCompared 95 = .ok (.iconst 1, 1) := by decide +kernel
theorem dX13_isCompared_96 : decode cX13_isCompared 96 = .ok (.iadd, 1) := by decide +kernel
theorem dX13_isCompared_97 : decode cX13_isCompared 97 = .ok (.putfield 113, 3) := by decide +kernel
theorem dX13_isCompared_100 : decode cX13_isCompared 100 = .ok (.aload_n 0, 1) := by decide +kernel
theorem dX13_isCompared_101 : decode cX13_isCompared 101 = .ok (.invokevirtual 167, 3) := by decide +kernel
theorem dX13_isCompared_104 : decode cX13_isCompared 104 = .ok (.ifCond .ne 5, 3) := by decide +kernel
theorem dX13_isCompared_107 : decode cX13_isCompared 107 = .ok (.iconst 0, 1) := by decide +kernel
theorem dX13_isCompared_108 : decode cX13_isCompared 108 = .ok (.ireturn, 1) := by decide +kernel
theorem dX13_isCompared_109 : decode cX13_isCompared 109 = .ok (.aload_n 0, 1) := by decide +kernel
theorem dX13_isCompared_110 : decode cX13_isCompared 110 = .ok (.iload_n 1, 1) := by decide +kernel
theorem dX13_isCompared_111 : decode cX13_isCompared 111 = .ok (.invokevirtual 133, 3) := by decide +kernel
theorem dX13_isCompared_114 : decode cX13_isCompared 114 = .ok (.iconst 1, 1) := by decide +kernel
theorem dX13_isCompared_115 : decode cX13_isCompared 115 = .ok (.ireturn, 1) := by decide +kernel
theorem dX13_isSum_0 : decode cX13_isSum 0 = .ok (.aload_n 0, 1) := by decide +kernel
theorem dX13_isSum_1 : decode cX13_isSum 1 = .ok (.invokevirtual 199, 3) := by decide +kernel
theorem dX13_isSum_4 : decode cX13_isSum 4 = .ok (.ifCond .ne 5, 3) := by decide +kernel
theorem dX13_isSum_7 : decode cX13_isSum 7 = .ok (.iconst 0, 1) := by decide +kernel
theorem dX13_isSum_8 : decode cX13_isSum 8 = .ok (.ireturn, 1) := by decide +kernel
theorem dX13_isSum_9 : decode cX13_isSum 9 = .ok (.aload_n 0, 1) := by decide +kernel
theorem dX13_isSum_10 : decode cX13_isSum 10 = .ok (.bipush 43, 2) := by decide +kernel
theorem dX13_isSum_12 : decode cX13_isSum 12 = .ok (.invokevirtual 187, 3) := by decide +kernel
theorem dX13_isSum_15 : decode cX13_isSum 15 = .ok (.ifCond .ne 12, 3) := by decide +kernel
theorem dX13_isSum_18 : decode cX13_isSum 18 = .ok (.aload_n 0, 1) := by decide +kernel
theorem dX13_isSum_19 : decode cX13_isSum 19 = .ok (.bipush 45, 2) := by decide +kernel
theorem dX13_isSum_21 : decode cX13_isSum 21 = .ok (.invokevirtual 187, 3) := by decide +kernel
theorem dX13_isSum_24 : decode cX13_isSum 24 = .ok (.ifCond .eq 47, 3) := by decide +kernel
theorem dX13_isSum_27 : decode cX13_isSum 27 = .ok (.aload_n 0, 1) := by decide +kernel
theorem dX13_isSum_28 : decode cX13_isSum 28 = .ok (.bipush 43, 2) := by decide +kernel
theorem dX13_isSum_30 : decode cX13_isSum 30 = .ok (.invokevirtual 187, 3) := by decide +kernel
theorem dX13_isSum_33 : decode cX13_isSum 33 = .ok (.ifCond .eq 8, 3) := by decide +kernel
theorem dX13_isSum_36 : decode cX13_isSum 36 = .ok (.bipush 42, 2) := by decide +kernel
theorem dX13_isSum_38 : decode cX13_isSum 38 = .ok (.goto 5, 3) := by decide +kernel
theorem dX13_isSum_41 : decode cX13_isSum 41 = .ok (.bipush 43, 2) := by decide +kernel
theorem dX13_isSum_43 : decode cX13_isSum 43 = .ok (.istore_n 1, 1) := by decide +kernel
theorem dX13_isSum_44 : decode cX13_isSum 44 = .ok (.aload_n 0, 1) := by decide +kernel
theorem dX13_isSum_45 : decode cX13_isSum 45 = .ok (.dup, 1) := by decide +kernel
theorem dX13_isSum_46 : decode cX13_isSum 46 = .ok (.getfield 113, 3) := by decide +kernel
theorem dX13_isSum_49 : decode cX13_isSum 49 = .ok (.iconst 1, 1) := by decide +kernel
theorem dX13_isSum_50 : decode cX13_isSum 50 = .ok (.iadd, 1) := by decide +kernel
theorem dX13_isSum_51 : decode cX13_isSum 51 = .ok (.putfield 113, 3) := by decide +kernel
theorem dX13_isSum_54 : decode cX13_isSum 54 = .ok (.aload_n 0, 1) := by decide +kernel
theorem dX13_isSum_55 : decode cX13_isSum 55 = .ok (.invokevirtual 199, 3) := by decide +kernel
theorem dX13_isSum_58 : decode cX13_isSum 58 = .ok (.ifCond .ne 5, 3) := by decide +kernel
theorem dX13_isSum_61 : decode cX13_isSum 61 = .ok (.iconst 0, 1) := by decide +kernel
theorem dX13_isSum_62 : decode cX13_isSum 62 = .ok (.ireturn, 1) := by decide +kernel
theorem dX13_isSum_63 : decode cX13_isSum 63 = .ok (.aload_n 0, 1) := by decide +kernel
theorem dX13_isSum_64 : decode cX13_isSum 64 = .ok (.iload_n 1, 1) := by decide +kernel
theorem dX13_isSum_65 : decode cX13_isSum 65 = .ok (.invokevirtual 133, 3) := by decide +kernel
theorem dX13_isSum_68 : decode cX13_isSum 68 = .ok (.goto (-59), 3) := by decide +kernel
theorem dX13_isSum_71 : decode cX13_isSum 71 = .ok (.iconst 1, 1) := by decide +kernel
theorem dX13_isSum_72 : decode cX13_isSum 72 = .ok (.ireturn, 1) := by decide +kernel
theorem dX13_isProduct_0 : decode cX13_isProduct 0 = .ok (.aload_n 0, 1) := by decide +kernel
theorem dX13_isProduct_1 : decode cX13_isProduct 1 = .ok (.invokevirtual 202, 3) := by decide +kernel
theorem dX13_isProduct_4 : decode cX13_isProduct 4 = .ok (.ifCond .ne 5, 3) := by decide +kernel
theorem dX13_isProduct_7 : decode cX13_isProduct 7 = .ok (.iconst 0, 1) := by decide +kernel
theorem dX13_isProduct_8 : decode cX13_isProduct 8 = .ok (.ireturn, 1) := by decide +kernel
theorem dX13_isProduct_9 : decode cX13_isProduct 9 = .ok (.aload_n 0, 1) := by decide +kernel
theorem dX13_isProduct_10 : decode cX13_isProduct 10 = .ok (.bipush 42, 2) := by decide +kernel
theorem dX13_isProduct_12 : decode cX13_isProduct 12 = .ok (.invokevirtual 187, 3) := by decide +kernel
theorem dX13_isProduct_15 : decode cX13_isProduct 15 = .ok (.ifCond .ne 21, 3) := by decide +kernel
theorem dX13_isProduct_18 : decode cX13_isProduct 18 = .ok (.aload_n 0, 1) := by decide +kernel
theorem dX13_isProduct_19 : decode cX13_isProduct 19 = .ok (.bipush 47, 2) := by decide +kernel
theorem dX13_isProduct_21 : decode cX13_isProduct 21 = .ok (.invokevirtual 187, 3) := by decide +kernel
theorem dX13_isProduct_24 : decode cX13_isProduct 24 = .ok (.ifCond .ne 12, 3) := by decide +kernel
theorem dX13_isProduct_27 : decode cX13_isProduct 27 = .ok (.aload_n 0, 1) := by decide +kernel
theorem dX13_isProduct_28 : decode cX13_isProduct 28 = .ok (.bipush 37, 2) := by decide +kernel
theorem dX13_isProduct_30 : decode cX13_isProduct 30 = .ok (.invokevirtual 187, 3) := by decide +kernel
theorem dX13_isProduct_33 : decode cX13_isProduct 33 = .ok (.ifCond .eq 61, 3) := by decide +kernel
theorem dX13_isProduct_36 : decode cX13_isProduct 36 = .ok (.aload_n 0, 1) := by decide +kernel
theorem dX13_isProduct_37 : decode cX13_isProduct 37 = .ok (.bipush 42, 2) := by decide +kernel
theorem dX13_isProduct_39 : decode cX13_isProduct 39 = .ok (.invokevirtual 187, 3) := by decide +kernel
theorem dX13_isProduct_42 : decode cX13_isProduct 42 = .ok (.ifCond .eq 8, 3) := by decide +kernel
theorem dX13_isProduct_45 : decode cX13_isProduct 45 = .ok (.bipush 44, 2) := by decide +kernel
theorem dX13_isProduct_47 : decode cX13_isProduct 47 = .ok (.goto 19, 3) := by decide +kernel
theorem dX13_isProduct_50 : decode cX13_isProduct 50 = .ok (.aload_n 0, 1) := by decide +kernel
theorem dX13_isProduct_51 : decode cX13_isProduct 51 = .ok (.bipush 47, 2) := by decide +kernel
theorem dX13_isProduct_53 : decode cX13_isProduct 53 = .ok (.invokevirtual 187, 3) := by decide +kernel
theorem dX13_isProduct_56 : decode cX13_isProduct 56 = .ok (.ifCond .eq 8, 3) := by decide +kernel
theorem dX13_isProduct_59 : decode cX13_isProduct 59 = .ok (.bipush 45, 2) := by decide +kernel
theorem dX13_isProduct_61 : decode cX13_isProduct 61 = .ok (.goto 5, 3) := by decide +kernel
theorem dX13_isProduct_64 : decode cX13_isProduct 64 = .ok (.bipush 46, 2) := by decide +kernel
theorem dX13_isProduct_66 : decode cX13_isProduct 66 = .ok (.istore_n 1, 1) := by decide +kernel
theorem dX13_isProduct_67 : decode cX13_isProduct 67 = .ok (.aload_n 0, 1) := by decide +kernel
theorem dX13_isProduct_68 : decode cX13_isProduct 68 = .ok (.dup, 1) := by decide +kernel
theorem dX13_isProduct_69 : decode cX13_isProduct 69 = .ok (.getfield 113, 3) := by decide +kernel
theorem dX13_isProduct_72 : decode cX13_isProduct 72 = .ok (.iconst 1, 1) := by decide +kernel
theorem dX13_isProduct_73 : decode cX13_isProduct 73 = .ok (.iadd, 1) := by decide +kernel
theorem dX13_isProduct_74 : decode cX13_isProduct 74 = .ok (.putfield 113, 3) := by decide +kernel
theorem dX13_isProduct_77 : decode cX13_isProduct 77 = .ok (.aload_n 0, 1) := by decide +kernel
theorem dX13_isProduct_78 : decode cX13_isProduct 78 = .ok (.invokevirtual 202, 3) := by decide +kernel
theorem dX13_isProduct_81 : decode cX13_isProduct 81 = .ok (.ifCond .ne 5, 3) := by decide +kernel
theorem dX13_isProduct_84 : decode cX13_isProduct 84 = .ok (.iconst 0, 1) := by decide +kernel
theorem dX13_isProduct_85 : decode cX13_isProduct 85 = .ok (.ireturn, 1) := by decide +kernel
theorem dX13_isProduct_86 : decode cX13_isProduct 86 = .ok (.aload_n 0, 1) := by decide +kernel
theorem dX13_isProduct_87 : decode cX13_isProduct 87 = .ok (.iload_n 1, 1) := by decide +kernel
theorem dX13_isProduct_88 : decode cX13_isProduct 88 = .ok (.invokevirtual 133, 3) := by decide +kernel
theorem dX13_isProduct_91 : decode cX13_isProduct 91 = .ok (.goto (-82), 3) := by decide +kernel
theorem dX13_isProduct_94 : decode cX13_isProduct 94 = .ok (.iconst 1, 1) := by decide +kernel
theorem dX13_isProduct_95 : decode cX13_isProduct 95 = .ok (.ireturn, 1) := by decide +kernel
theorem dX13_isValue_0 : decode cX13_isValue 0 = .ok (.aload_n 0, 1) := by decide +kernel
theorem dX13_isValue_1 : decode cX13_isValue 1 = .ok (.bipush 31, 2) := by decide +kernel
theorem dX13_isValue_3 : decode cX13_isValue 3 = .ok (.invokevirtual 116, 3) := by decide +kernel
theorem dX13_isValue_6 : decode cX13_isValue 6 = .ok (.ifCond .eq 33, 3) := by decide +kernel
theorem dX13_isValue_9 : decode cX13_isValue 9 = .ok (.aload_n 0, 1) := by decide +kernel
theorem dX13_isValue_10 : decode cX13_isValue 10 = .ok (.bipush 40, 2) := by decide +kernel
theorem dX13_isValue_12 : decode cX13_isValue 12 = .ok (.invokevirtual 133, 3) := by decide +kernel
theorem dX13_isValue_15 : decode cX13_isValue 15 = .ok (.aload_n 0, 1) := by decide +kernel
theorem dX13_isValue_16 : decode cX13_isValue 16 = .ok (.aload_n 0, 1) := by decide +kernel
theorem dX13_isValue_17 : decode cX13_isValue 17 = .ok (.aload_n 0, 1) := by decide +kernel
theorem dX13_isValue_18 : decode cX13_isValue 18 = .ok (.getfield 113, 3) := by decide +kernel
theorem dX13_isValue_21 : decode cX13_isValue 21 = .ok (.invokevirtual 205, 3) := by decide +kernel
theorem dX13_isValue_24 : decode cX13_isValue 24 = .ok (.invokevirtual 133, 3) := by decide +kernel
theorem dX13_isValue_27 : decode cX13_isValue 27 = .ok (.aload_n 0, 1) := by decide +kernel
theorem dX13_isValue_28 : decode cX13_isValue 28 = .ok (.dup, 1) := by decide +kernel
theorem dX13_isValue_29 : decode cX13_isValue 29 = .ok (.getfield 113, 3) := by decide +kernel
theorem dX13_isValue_32 : decode cX13_isValue 32 = .ok (.iconst 1, 1) := by decide +kernel
theorem dX13_isValue_33 : decode cX13_isValue 33 = .ok (.iadd, 1) := by decide +kernel
theorem dX13_isValue_34 : decode cX13_isValue 34 = .ok (.putfield 113, 3) := by decide +kernel
theorem dX13_isValue_37 : decode cX13_isValue 37 = .ok (.iconst 1, 1) := by decide +kernel
theorem dX13_isValue_38 : decode cX13_isValue 38 = .ok (.ireturn, 1) := by decide +kernel
theorem dX13_isValue_39 : decode cX13_isValue 39 = .ok (.aload_n 0, 1) := by decide +kernel
theorem dX13_isValue_40 : decode cX13_isValue 40 = .ok (.bipush 15, 2) := by decide +kernel
theorem dX13_isValue_42 : decode cX13_isValue 42 = .ok (.invokevirtual 116, 3) := by decide +kernel
theorem dX13_isValue_45 : decode cX13_isValue 45 = .ok (.ifCond .ne 12, 3) := by decide +kernel
theorem dX13_isValue_48 : decode cX13_isValue 48 = .ok (.aload_n 0, 1) := by decide +kernel
theorem dX13_isValue_49 : decode cX13_isValue 49 = .ok (.bipush 16, 2) := by decide +kernel
theorem dX13_isValue_51 : decode cX13_isValue 51 = .ok (.invokevirtual 116, 3) := by decide +kernel
theorem dX13_isValue_54 : decode cX13_isValue 54 = .ok (.ifCond .eq 28, 3) := by decide +kernel
theorem dX13_isValue_57 : decode cX13_isValue 57 = .ok (.aload_n 0, 1) := by decide +kernel
theorem dX13_isValue_58 : decode cX13_isValue 58 = .ok (.aload_n 0, 1) := by decide +kernel
theorem dX13_isValue_59 : decode cX13_isValue 59 = .ok (.getfield 17, 3) := by decide +kernel
theorem dX13_isValue_62 : decode cX13_isValue 62 = .ok (.aload_n 0, 1) := by decide +kernel
theorem dX13_isValue_63 : decode cX13_isValue 63 = .ok (.getfield 113, 3) := by decide +kernel
theorem dX13_isValue_66 : decode cX13_isValue 66 = .ok (.iaload, 1) := by decide +kernel
theorem dX13_isValue_67 : decode cX13_isValue 67 = .ok (.invokevirtual 133, 3) := by decide +kernel
theorem dX13_isValue_70 : decode cX13_isValue 70 = .ok (.aload_n 0, 1) := by decide +kernel
theorem dX13_isValue_71 : decode cX13_isValue 71 = .ok (.dup, 1) := by decide +kernel
theorem dX13_isValue_72 : decode cX13_isValue 72 = .ok (.getfield 113, 3) := by decide +kernel
theorem dX13_isValue_75 : decode cX13_isValue 75 = .ok (.iconst 1, 1) := by decide +kernel
theorem dX13_isValue_76 : decode cX13_isValue 76 = .ok (.iadd, 1) := by decide +kernel
theorem dX13_isValue_77 : decode cX13_isValue 77 = .ok (.putfield 113, 3) := by decide +kernel
theorem dX13_isValue_80 : decode cX13_isValue 80 = .ok (.iconst 1, 1) := by decide +kernel
theorem dX13_isValue_81 : decode cX13_isValue 81 = .ok (.ireturn, 1) := by decide +kernel
theorem dX13_isValue_82 : decode cX13_isValue 82 = .ok (.aload_n 0, 1) := by decide +kernel
theorem dX13_isValue_83 : decode cX13_isValue 83 = .ok (.bipush 12, 2) := by decide +kernel
theorem dX13_isValue_85 : decode cX13_isValue 85 = .ok (.invokevirtual 116, 3) := by decide +kernel
theorem dX13_isValue_88 : decode cX13_isValue 88 = .ok (.ifCond .ne 12, 3) := by decide +kernel
theorem dX13_isValue_91 : decode cX13_isValue 91 = .ok (.aload_n 0, 1) := by decide +kernel
theorem dX13_isValue_92 : decode cX13_isValue 92 = .ok (.bipush 13, 2) := by decide +kernel
theorem dX13_isValue_94 : decode cX13_isValue 94 = .ok (.invokevirtual 116, 3) := by decide +kernel
theorem dX13_isValue_97 : decode cX13_isValue 97 = .ok (.ifCond .eq 17, 3) := by decide +kernel
theorem dX13_isValue_100 : decode cX13_isValue 100 = .ok (.aload_n 0, 1) := by decide +kernel
theorem dX13_isValue_101 : decode cX13_isValue 101 = .ok (.aload_n 0, 1) := by decide +kernel
theorem dX13_isValue_102 : decode cX13_isValue 102 = .ok (.getfield 17, 3) := by decide +kernel
theorem dX13_isValue_105 : decode cX13_isValue 105 = .ok (.aload_n 0, 1) := by decide +kernel
theorem dX13_isValue_106 : decode cX13_isValue 106 = .ok (.getfield 113, 3) := by decide +kernel
theorem dX13_isValue_109 : decode cX13_isValue 109 = .ok (.iaload, 1) := by decide +kernel
theorem dX13_isValue_110 : decode cX13_isValue 110 = .ok (.invokevirtual 193, 3) := by decide +kernel
theorem dX13_isValue_113 : decode cX13_isValue 113 = .ok (.ireturn, 1) := by decide +kernel
theorem dX13_isValue_114 : decode cX13_isValue 114 = .ok (.aload_n 0, 1) := by decide +kernel
theorem dX13_isValue_115 : decode cX13_isValue 115 = .ok (.bipush 14, 2) := by decide +kernel
theorem dX13_isValue_117 : decode cX13_isValue 117 = .ok (.invokevirtual 116, 3) := by decide +kernel
theorem dX13_isValue_120 : decode cX13_isValue 120 = .ok (.ifCond .eq 10, 3) := by decide +kernel
theorem dX13_isValue_123 : decode cX13_isValue 123 = .ok (.aload_n 0, 1) := by decide +kernel
theorem dX13_isValue_124 : decode cX13_isValue 124 = .ok (.bipush 14, 2) := by decide +kernel
theorem dX13_isValue_126 : decode cX13_isValue 126 = .ok (.invokevirtual 190, 3) := by decide +kernel
theorem dX13_isValue_129 : decode cX13_isValue 129 = .ok (.ireturn, 1) := by decide +kernel
theorem dX13_isValue_130 : decode cX13_isValue 130 = .ok (.aload_n 0, 1) := by decide +kernel
theorem dX13_isValue_131 : decode cX13_isValue 131 = .ok (.bipush 45, 2) := by decide +kernel
theorem dX13_isValue_133 : decode cX13_isValue 133 = .ok (.invokevirtual 187, 3) := by decide +kernel
theorem dX13_isValue_136 : decode cX13_isValue 136 = .ok (.ifCond .eq 37, 3) := by decide +kernel
theorem dX13_isValue_139 : decode cX13_isValue 139 = .ok (.aload_n 0, 1) := by decide +kernel
theorem dX13_isValue_140 : decode cX13_isValue 140 = .ok (.invokevirtual 185, 3) := by decide +kernel
theorem dX13_isValue_143 : decode cX13_isValue 143 = .ok (.ifCond .eq 10, 3) := by decide +kernel
theorem dX13_isValue_146 : decode cX13_isValue 146 = .ok (.aload_n 0, 1) := by decide +kernel
theorem dX13_isValue_147 : decode cX13_isValue 147 = .ok (.invokevirtual 202, 3) := by decide +kernel
theorem dX13_isValue_150 : decode cX13_isValue 150 = .ok (.ifCond .ne 5, 3) := by decide +kernel
theorem dX13_isValue_153 : decode cX13_isValue 153 = .ok (.iconst 0, 1) := by decide +kernel
theorem dX13_isValue_154 : decode cX13_isValue 154 = .ok (.ireturn, 1) := by decide +kernel
theorem dX13_isValue_155 : decode cX13_isValue 155 = .ok (.aload_n 0, 1) := by decide +kernel
theorem dX13_isValue_156 : decode cX13_isValue 156 = .ok (.dup, 1) := by decide +kernel
theorem dX13_isValue_157 : decode cX13_isValue 157 = .ok (.getfield 179, 3) := by decide +kernel
theorem dX13_isValue_160 : decode cX13_isValue 160 = .ok (.iconst 1, 1) := by decide +kernel
theorem dX13_isValue_161 : decode cX13_isValue 161 = .ok (.isub, 1) := by decide +kernel
theorem dX13_isValue_162 : decode cX13_isValue 162 = .ok (.putfield 179, 3) := by decide +kernel
theorem dX13_isValue_165 : decode cX13_isValue 165 = .ok (.aload_n 0, 1) := by decide +kernel
theorem dX13_isValue_166 : decode cX13_isValue 166 = .ok (.bipush 41, 2) := by decide +kernel
theorem dX13_isValue_168 : decode cX13_isValue 168 = .ok (.invokevirtual 133, 3) := by decide +kernel
theorem dX13_isValue_171 : decode cX13_isValue 171 = .ok (.iconst 1, 1) := by decide +kernel
theorem dX13_isValue_172 : decode cX13_isValue 172 = .ok (.ireturn, 1) := by decide +kernel
theorem dX13_isValue_173 : decode cX13_isValue 173 = .ok (.aload_n 0, 1) := by decide +kernel
theorem dX13_isValue_174 : decode cX13_isValue 174 = .ok (.getfield 17, 3) := by decide +kernel
theorem dX13_isValue_177 : decode cX13_isValue 177 = .ok (.aload_n 0, 1) := by decide +kernel
theorem dX13_isValue_178 : decode cX13_isValue 178 = .ok (.getfield 113, 3) := by decide +kernel
theorem dX13_isValue_181 : decode cX13_isValue 181 = .ok (.iaload, 1) := by decide +kernel
theorem dX13_isValue_182 : decode cX13_isValue 182 = .ok (.istore_n 1, 1) := by decide +kernel
theorem dX13_isValue_183 : decode cX13_isValue 183 = .ok (.aload_n 0, 1) := by decide +kernel
theorem dX13_isValue_184 : decode cX13_isValue 184 = .ok (.bipush 20, 2) := by decide +kernel
theorem dX13_isValue_186 : decode cX13_isValue 186 = .ok (.invokevirtual 119, 3) := by decide +kernel
theorem dX13_isValue_189 : decode cX13_isValue 189 = .ok (.ifCond .ne 12, 3) := by decide +kernel
theorem dX13_isValue_192 : decode cX13_isValue 192 = .ok (.aload_n 0, 1) := by decide +kernel
theorem dX13_isValue_193 : decode cX13_isValue 193 = .ok (.bipush 21, 2) := by decide +kernel
theorem dX13_isValue_195 : decode cX13_isValue 195 = .ok (.invokevirtual 119, 3) := by decide +kernel
theorem dX13_isValue_198 : decode cX13_isValue 198 = .ok (.ifCond .eq 7, 3) := by decide +kernel
theorem dX13_isValue_201 : decode cX13_isValue 201 = .ok (.iconst 1, 1) := by decide +kernel
theorem dX13_isValue_202 : decode cX13_isValue 202 = .ok (.goto 4, 3) := by decide +kernel
theorem dX13_isValue_205 : decode cX13_isValue 205 = .ok (.iconst 0, 1) := by decide +kernel
theorem dX13_isValue_206 : decode cX13_isValue 206 = .ok (.istore_n 2, 1) := by decide +kernel
theorem dX13_isValue_207 : decode cX13_isValue 207 = .ok (.aload_n 0, 1) := by decide +kernel
theorem dX13_isValue_208 : decode cX13_isValue 208 = .ok (.bipush 40, 2) := by decide +kernel
theorem dX13_isValue_210 : decode cX13_isValue 210 = .ok (.invokevirtual 187, 3) := by decide +kernel
theorem dX13_isValue_213 : decode cX13_isValue 213 = .ok (.ifCond .eq 37, 3) := by decide +kernel
theorem dX13_isValue_216 : decode cX13_isValue 216 = .ok (.aload_n 0, 1) := by decide +kernel
theorem dX13_isValue_217 : decode cX13_isValue 217 = .ok (.invokevirtual 185, 3) := by decide +kernel
theorem dX13_isValue_220 : decode cX13_isValue 220 = .ok (.ifCond .eq 30, 3) := by decide +kernel
theorem dX13_isValue_223 : decode cX13_isValue 223 = .ok (.aload_n 0, 1) := by decide +kernel
theorem dX13_isValue_224 : decode cX13_isValue 224 = .ok (.invokevirtual 167, 3) := by decide +kernel
theorem dX13_isValue_227 : decode cX13_isValue 227 = .ok (.ifCond .eq 23, 3) := by decide +kernel
theorem dX13_isValue_230 : decode cX13_isValue 230 = .ok (.iload_n 2, 1) := by decide +kernel
theorem dX13_isValue_231 : decode cX13_isValue 231 = .ok (.ifCond .eq 21, 3) := by decide +kernel
theorem dX13_isValue_234 : decode cX13_isValue 234 = .ok (.aload_n 0, 1) := by decide +kernel
theorem dX13_isValue_235 : decode cX13_isValue 235 = .ok (.bipush 44, 2) := by decide +kernel
theorem dX13_isValue_237 : decode cX13_isValue 237 = .ok (.invokevirtual 151, 3) := by decide +kernel
theorem dX13_isValue_240 : decode cX13_isValue 240 = .ok (.ifCond .eq 10, 3) := by decide +kernel
theorem dX13_isValue_243 : decode cX13_isValue 243 = .ok (.aload_n 0, 1) := by decide +kernel
theorem dX13_isValue_244 : decode cX13_isValue 244 = .ok (.invokevirtual 167, 3) := by decide +kernel
theorem dX13_isValue_247 : decode cX13_isValue 247 = .ok (.ifCond .ne 5, 3) := by decide +kernel
theorem dX13_isValue_250 : decode cX13_isValue 250 = .ok (.iconst 0, 1) := by decide +kernel
theorem dX13_isValue_251 : decode cX13_isValue 251 = .ok (.ireturn, 1) := by decide +kernel
theorem dX13_isValue_252 : decode cX13_isValue 252 = .ok (.aload_n 0, 1) := by decide +kernel
theorem dX13_isValue_253 : decode cX13_isValue 253 = .ok (.dup, 1) := by decide +kernel
theorem dX13_isValue_254 : decode cX13_isValue 254 = .ok (.getfield 179, 3) := by decide +kernel
theorem dX13_isValue_257 : decode cX13_isValue 257 = .ok (.iconst 1, 1) := by decide +kernel
theorem dX13_isValue_258 : decode cX13_isValue 258 = .ok (.isub, 1) := by decide +kernel
theorem dX13_isValue_259 : decode cX13_isValue 259 = .ok (.putfield 179, 3) := by decide +kernel
theorem dX13_isValue_262 : decode cX13_isValue 262 = .ok (.iload_n 2, 1) := by decide +kernel
theorem dX13_isValue_263 : decode cX13_isValue 263 = .ok (.ifCond .eq 8, 3) := by decide +kernel
theorem dX13_isValue_266 : decode cX13_isValue 266 = .ok (.aload_n 0, 1) := by decide +kernel
theorem dX13_isValue_267 : decode cX13_isValue 267 = .ok (.iload_n 1, 1) := by decide +kernel
theorem dX13_isValue_268 : decode cX13_isValue 268 = .ok (.invokevirtual 133, 3) := by decide +kernel
theorem dX13_isValue_271 : decode cX13_isValue 271 = .ok (.aload_n 0, 1) := by decide +kernel
theorem dX13_isValue_272 : decode cX13_isValue 272 = .ok (.bipush 41, 2) := by decide +kernel
theorem dX13_isValue_274 : decode cX13_isValue 274 = .ok (.invokevirtual 151, 3) := by decide +kernel
theorem dX13_isValue_277 : decode cX13_isValue 277 = .ok (.ireturn, 1) := by decide +kernel
theorem dX13_numberAt_0 : decode cX13_numberAt 0 = .ok (.iconst 0, 1) := by decide +kernel
theorem dX13_numberAt_1 : decode cX13_numberAt 1 = .ok (.istore_n 2, 1) := by decide +kernel
theorem dX13_numberAt_2 : decode cX13_numberAt 2 = .ok (.iconst 0, 1) := by decide +kernel
theorem dX13_numberAt_3 : decode cX13_numberAt 3 = .ok (.istore_n 3, 1) := by decide +kernel
theorem dX13_numberAt_4 : decode cX13_numberAt 4 = .ok (.iload_n 3, 1) := by decide +kernel
theorem dX13_numberAt_5 : decode cX13_numberAt 5 = .ok (.aload_n 0, 1) := by decide +kernel
theorem dX13_numberAt_6 : decode cX13_numberAt 6 = .ok (.getfield 23, 3) := by decide +kernel
theorem dX13_numberAt_9 : decode cX13_numberAt 9 = .ok (.iload_n 1, 1) := by decide +kernel
theorem dX13_numberAt_10 : decode cX13_numberAt 10 = .ok (.iaload, 1) := by decide +kernel
theorem dX13_numberAt_11 : decode cX13_numberAt 11 = .ok (.if_icmp .ge 31, 3) := by decide +kernel
theorem dX13_numberAt_14 : decode cX13_numberAt 14 = .ok (.bipush 10, 2) := by decide +kernel
theorem dX13_numberAt_16 : decode cX13_numberAt 16 = .ok (.iload_n 2, 1) := by decide +kernel
theorem dX13_numberAt_17 : decode cX13_numberAt 17 = .ok (.imul, 1) := by decide +kernel
theorem dX13_numberAt_18 : decode cX13_numberAt 18 = .ok (.aload_n 0, 1) := by decide +kernel
theorem dX13_numberAt_19 : decode cX13_numberAt 19 = .ok (.getfield 9, 3) := by decide +kernel
theorem dX13_numberAt_22 : decode cX13_numberAt 22 = .ok (.aload_n 0, 1) := by decide +kernel
theorem dX13_numberAt_23 : decode cX13_numberAt 23 = .ok (.getfield 20, 3) := by decide +kernel
theorem dX13_numberAt_26 : decode cX13_numberAt 26 = .ok (.iload_n 1, 1) := by decide +kernel
theorem dX13_numberAt_27 : decode cX13_numberAt 27 = .ok (.iaload, 1) := by decide +kernel
theorem dX13_numberAt_28 : decode cX13_numberAt 28 = .ok (.iload_n 3, 1) := by decide +kernel
theorem dX13_numberAt_29 : decode cX13_numberAt 29 = .ok (.iadd, 1) := by decide +kernel
theorem dX13_numberAt_30 : decode cX13_numberAt 30 = .ok (.iaload, 1) := by decide +kernel
theorem dX13_numberAt_31 : decode cX13_numberAt 31 = .ok (.iadd, 1) := by decide +kernel
theorem dX13_numberAt_32 : decode cX13_numberAt 32 = .ok (.bipush 48, 2) := by decide +kernel
theorem dX13_numberAt_34 : decode cX13_numberAt 34 = .ok (.isub, 1) := by decide +kernel
theorem dX13_numberAt_35 : decode cX13_numberAt 35 = .ok (.istore_n 2, 1) := by decide +kernel
theorem dX13_numberAt_36 : decode cX13_numberAt 36 = .ok (.iinc 3 1, 3) := by decide +kernel
theorem dX13_numberAt_39 : decode cX13_numberAt 39 = .ok (.goto (-35), 3) := by decide +kernel
theorem dX13_numberAt_42 : decode cX13_numberAt 42 = .ok (.iload_n 2, 1) := by decide +kernel
theorem dX13_numberAt_43 : decode cX13_numberAt 43 = .ok (.ireturn, 1) := by decide +kernel
theorem dX13_isSame_0 : decode cX13_isSame 0 = .ok (.aload_n 0, 1) := by decide +kernel
theorem dX13_isSame_1 : decode cX13_isSame 1 = .ok (.getfield 23, 3) := by decide +kernel
theorem dX13_isSame_4 : decode cX13_isSame 4 = .ok (.iload_n 1, 1) := by decide +kernel
theorem dX13_isSame_5 : decode cX13_isSame 5 = .ok (.iaload, 1) := by decide +kernel
theorem dX13_isSame_6 : decode cX13_isSame 6 = .ok (.aload_n 0, 1) := by decide +kernel
theorem dX13_isSame_7 : decode cX13_isSame 7 = .ok (.getfield 23, 3) := by decide +kernel
theorem dX13_isSame_10 : decode cX13_isSame 10 = .ok (.iload_n 2, 1) := by decide +kernel
theorem dX13_isSame_11 : decode cX13_isSame 11 = .ok (.iaload, 1) := by decide +kernel
theorem dX13_isSame_12 : decode cX13_isSame 12 = .ok (.if_icmp .eq 5, 3) := by decide +kernel
theorem dX13_isSame_15 : decode cX13_isSame 15 = .ok (.iconst 0, 1) := by decide +kernel
theorem dX13_isSame_16 : decode cX13_isSame 16 = .ok (.ireturn, 1) := by decide +kernel
theorem dX13_isSame_17 : decode cX13_isSame 17 = .ok (.iconst 0, 1) := by decide +kernel
theorem dX13_isSame_18 : decode cX13_isSame 18 = .ok (.istore_n 3, 1) := by decide +kernel
theorem dX13_isSame_19 : decode cX13_isSame 19 = .ok (.iload_n 3, 1) := by decide +kernel
theorem dX13_isSame_20 : decode cX13_isSame 20 = .ok (.aload_n 0, 1) := by decide +kernel
theorem dX13_isSame_21 : decode cX13_isSame 21 = .ok (.getfield 23, 3) := by decide +kernel
theorem dX13_isSame_24 : decode cX13_isSame 24 = .ok (.iload_n 1, 1) := by decide +kernel
theorem dX13_isSame_25 : decode cX13_isSame 25 = .ok (.iaload, 1) := by decide +kernel
theorem dX13_isSame_26 : decode cX13_isSame 26 = .ok (.if_icmp .ge 40, 3) := by decide +kernel
theorem dX13_isSame_29 : decode cX13_isSame 29 = .ok (.aload_n 0, 1) := by decide +kernel
theorem dX13_isSame_30 : decode cX13_isSame 30 = .ok (.getfield 9, 3) := by decide +kernel
theorem dX13_isSame_33 : decode cX13_isSame 33 = .ok (.aload_n 0, 1) := by decide +kernel
theorem dX13_isSame_34 : decode cX13_isSame 34 = .ok (.getfield 20, 3) := by decide +kernel
theorem dX13_isSame_37 : decode cX13_isSame 37 = .ok (.iload_n 1, 1) := by decide +kernel
theorem dX13_isSame_38 : decode cX13_isSame 38 = .ok (.iaload, 1) := by decide +kernel
theorem dX13_isSame_39 : decode cX13_isSame 39 = .ok (.iload_n 3, 1) := by decide +kernel
theorem dX13_isSame_40 : decode cX13_isSame 40 = .ok (.iadd, 1) := by decide +kernel
theorem dX13_isSame_41 : decode cX13_isSame 41 = .ok (.iaload, 1) := by decide +kernel
theorem dX13_isSame_42 : decode cX13_isSame 42 = .ok (.aload_n 0, 1) := by decide +kernel
theorem dX13_isSame_43 : decode cX13_isSame 43 = .ok (.getfield 9, 3) := by decide +kernel
theorem dX13_isSame_46 : decode cX13_isSame 46 = .ok (.aload_n 0, 1) := by decide +kernel
theorem dX13_isSame_47 : decode cX13_isSame 47 = .ok (.getfield 20, 3) := by decide +kernel
theorem dX13_isSame_50 : decode cX13_isSame 50 = .ok (.iload_n 2, 1) := by decide +kernel
theorem dX13_isSame_51 : decode cX13_isSame 51 = .ok (.iaload, 1) := by decide +kernel
theorem dX13_isSame_52 : decode cX13_isSame 52 = .ok (.iload_n 3, 1) := by decide +kernel
theorem dX13_isSame_53 : decode cX13_isSame 53 = .ok (.iadd, 1) := by decide +kernel
theorem dX13_isSame_54 : decode cX13_isSame 54 = .ok (.iaload, 1) := by decide +kernel
theorem dX13_isSame_55 : decode cX13_isSame 55 = .ok (.if_icmp .eq 5, 3) := by decide +kernel
theorem dX13_isSame_58 : decode cX13_isSame 58 = .ok (.iconst 0, 1) := by decide +kernel
theorem dX13_isSame_59 : decode cX13_isSame 59 = .ok (.ireturn, 1) := by decide +kernel
theorem dX13_isSame_60 : decode cX13_isSame 60 = .ok (.iinc 3 1, 3) := by decide +kernel
theorem dX13_isSame_63 : decode cX13_isSame 63 = .ok (.goto (-44), 3) := by decide +kernel
theorem dX13_isSame_66 : decode cX13_isSame 66 = .ok (.iconst 1, 1) := by decide +kernel
theorem dX13_isSame_67 : decode cX13_isSame 67 = .ok (.ireturn, 1) := by decide +kernel
theorem dX13_told_0 : decode cX13_told 0 = .ok (.iconst 0, 1) := by decide +kernel
theorem dX13_told_1 : decode cX13_told 1 = .ok (.istore_n 3, 1) := by decide +kernel
theorem dX13_told_2 : decode cX13_told 2 = .ok (.iconst 0, 1) := by decide +kernel
theorem dX13_told_3 : decode cX13_told 3 = .ok (.istore 4, 2) := by decide +kernel
theorem dX13_told_5 : decode cX13_told 5 = .ok (.iload 4, 2) := by decide +kernel
theorem dX13_told_7 : decode cX13_told 7 = .ok (.iload_n 1, 1) := by decide +kernel
theorem dX13_told_8 : decode cX13_told 8 = .ok (.if_icmp .ge 38, 3) := by decide +kernel
theorem dX13_told_11 : decode cX13_told 11 = .ok (.aload_n 0, 1) := by decide +kernel
theorem dX13_told_12 : decode cX13_told 12 = .ok (.getfield 26, 3) := by decide +kernel
theorem dX13_told_15 : decode cX13_told 15 = .ok (.iload 4, 2) := by decide +kernel
theorem dX13_told_17 : decode cX13_told 17 = .ok (.iaload, 1) := by decide +kernel
theorem dX13_told_18 : decode cX13_told 18 = .ok (.iload_n 2, 1) := by decide +kernel
theorem dX13_told_19 : decode cX13_told 19 = .ok (.if_icmp .eq 6, 3) := by decide +kernel
theorem dX13_told_22 : decode cX13_told 22 = .ok (.goto 18, 3) := by decide +kernel
theorem dX13_told_25 : decode cX13_told 25 = .ok (.aload_n 0, 1) := by decide +kernel
theorem dX13_told_26 : decode cX13_told 26 = .ok (.iload 4, 2) := by decide +kernel
theorem dX13_told_28 : decode cX13_told 28 = .ok (.iload_n 1, 1) := by decide +kernel
theorem dX13_told_29 : decode cX13_told 29 = .ok (.invokevirtual 208, 3) := by decide +kernel
theorem dX13_told_32 : decode cX13_told 32 = .ok (.ifCond .eq 5, 3) := by decide +kernel
theorem dX13_told_35 : decode cX13_told 35 = .ok (.iload_n 3, 1) := by decide +kernel
theorem dX13_told_36 : decode cX13_told 36 = .ok (.ireturn, 1) := by decide +kernel
theorem dX13_told_37 : decode cX13_told 37 = .ok (.iinc 3 1, 3) := by decide +kernel
theorem dX13_told_40 : decode cX13_told 40 = .ok (.iinc 4 1, 3) := by decide +kernel
theorem dX13_told_43 : decode cX13_told 43 = .ok (.goto (-38), 3) := by decide +kernel
theorem dX13_told_46 : decode cX13_told 46 = .ok (.iconst (-1), 1) := by decide +kernel
theorem dX13_told_47 : decode cX13_told 47 = .ok (.ireturn, 1) := by decide +kernel
theorem dX13_errorOf_0 : decode cX13_errorOf 0 = .ok (.aload_n 0, 1) := by decide +kernel
theorem dX13_errorOf_1 : decode cX13_errorOf 1 = .ok (.getfield 39, 3) := by decide +kernel
theorem dX13_errorOf_4 : decode cX13_errorOf 4 = .ok (.astore_n 2, 1) := by decide +kernel
theorem dX13_errorOf_5 : decode cX13_errorOf 5 = .ok (.iconst 5, 1) := by decide +kernel
theorem dX13_errorOf_6 : decode cX13_errorOf 6 = .ok (.aload_n 2, 1) := by decide +kernel
theorem dX13_errorOf_7 : decode cX13_errorOf 7 = .ok (.getfield 57, 3) := by decide +kernel
theorem dX13_errorOf_10 : decode cX13_errorOf 10 = .ok (.iconst 1, 1) := by decide +kernel
theorem dX13_errorOf_11 : decode cX13_errorOf 11 = .ok (.isub, 1) := by decide +kernel
theorem dX13_errorOf_12 : decode cX13_errorOf 12 = .ok (.imul, 1) := by decide +kernel
theorem dX13_errorOf_13 : decode cX13_errorOf 13 = .ok (.istore_n 3, 1) := by decide +kernel
theorem dX13_errorOf_14 : decode cX13_errorOf 14 = .ok (.aload_n 0, 1) := by decide +kernel
theorem dX13_errorOf_15 : decode cX13_errorOf 15 = .ok (.getfield 17, 3) := by decide +kernel
theorem dX13_errorOf_18 : decode cX13_errorOf 18 = .ok (.iload_n 1, 1) := by decide +kernel
theorem dX13_errorOf_19 : decode cX13_errorOf 19 = .ok (.iaload, 1) := by decide +kernel
theorem dX13_errorOf_20 : decode cX13_errorOf 20 = .ok (.bipush 31, 2) := by decide +kernel
theorem dX13_errorOf_22 : decode cX13_errorOf 22 = .ok (.if_icmp .ne 11, 3) := by decide +kernel
theorem dX13_errorOf_25 : decode cX13_errorOf 25 = .ok (.aload_n 0, 1) := by decide +kernel
theorem dX13_errorOf_26 : decode cX13_errorOf 26 = .ok (.iload_n 1, 1) := by decide +kernel
theorem dX13_errorOf_27 : decode cX13_errorOf 27 = .ok (.invokevirtual 205, 3) := by decide +kernel
theorem dX13_errorOf_30 : decode cX13_errorOf 30 = .ok (.goto 4, 3) := by decide +kernel
theorem dX13_errorOf_33 : decode cX13_errorOf 33 = .ok (.iconst 0, 1) := by decide +kernel
theorem dX13_errorOf_34 : decode cX13_errorOf 34 = .ok (.istore 4, 2) := by decide +kernel
theorem dX13_errorOf_36 : decode cX13_errorOf 36 = .ok (.aload_n 0, 1) := by decide +kernel
theorem dX13_errorOf_37 : decode cX13_errorOf 37 = .ok (.getfield 26, 3) := by decide +kernel
theorem dX13_errorOf_40 : decode cX13_errorOf 40 = .ok (.iload_n 1, 1) := by decide +kernel
theorem dX13_errorOf_41 : decode cX13_errorOf 41 = .ok (.iaload, 1) := by decide +kernel
theorem dX13_errorOf_42 : decode cX13_errorOf 42 = .ok (.tableswitch 421 1 12 #[62, 111, 146, 161, 161, 219, 247, 274, 299, 326, 354, 381], 62) := by decide +kernel
theorem dX13_errorOf_104 : decode cX13_errorOf 104 = .ok (.aload_n 0, 1) := by decide +kernel
theorem dX13_errorOf_105 : decode cX13_errorOf 105 = .ok (.iload_n 1, 1) := by decide +kernel
theorem dX13_errorOf_106 : decode cX13_errorOf 106 = .ok (.iconst 1, 1) := by decide +kernel
theorem dX13_errorOf_107 : decode cX13_errorOf 107 = .ok (.invokevirtual 211, 3) := by decide +kernel
theorem dX13_errorOf_110 : decode cX13_errorOf 110 = .ok (.iconst (-1), 1) := by decide +kernel
theorem dX13_errorOf_111 : decode cX13_errorOf 111 = .ok (.if_icmp .eq 5, 3) := by decide +kernel
theorem dX13_errorOf_114 : decode cX13_errorOf 114 = .ok (.iconst 2, 1) := by decide +kernel
theorem dX13_errorOf_115 : decode cX13_errorOf 115 = .ok (.ireturn, 1) := by decide +kernel
theorem dX13_errorOf_116 : decode cX13_errorOf 116 = .ok (.aload_n 2, 1) := by decide +kernel
theorem dX13_errorOf_117 : decode cX13_errorOf 117 = .ok (.getfield 57, 3) := by decide +kernel
theorem dX13_errorOf_120 : decode cX13_errorOf 120 = .ok (.bipush 8, 2) := by decide +kernel
theorem dX13_errorOf_122 : decode cX13_errorOf 122 = .ok (.if_icmp .ne 5, 3) := by decide +kernel
theorem dX13_errorOf_125 : decode cX13_errorOf 125 = .ok (.iconst 4, 1) := by decide +kernel
theorem dX13_errorOf_126 : decode cX13_errorOf 126 = .ok (.ireturn, 1) := by decide +kernel
theorem dX13_errorOf_127 : decode cX13_errorOf 127 = .ok (.aload_n 2, 1) := by decide +kernel
theorem dX13_errorOf_128 : decode cX13_errorOf 128 = .ok (.getfield 213, 3) := by decide +kernel
theorem dX13_errorOf_131 : decode cX13_errorOf 131 = .ok (.iconst 5, 1) := by decide +kernel
theorem dX13_errorOf_132 : decode cX13_errorOf 132 = .ok (.aload_n 2, 1) := by decide +kernel
theorem dX13_errorOf_133 : decode cX13_errorOf 133 = .ok (.getfield 57, 3) := by decide +kernel
theorem dX13_errorOf_136 : decode cX13_errorOf 136 = .ok (.imul, 1) := by decide +kernel
theorem dX13_errorOf_137 : decode cX13_errorOf 137 = .ok (.iconst 4, 1) := by decide +kernel
theorem dX13_errorOf_138 : decode cX13_errorOf 138 = .ok (.iadd, 1) := by decide +kernel
theorem dX13_errorOf_139 : decode cX13_errorOf 139 = .ok (.iconst 1, 1) := by decide +kernel
theorem dX13_errorOf_140 : decode cX13_errorOf 140 = .ok (.iastore, 1) := by decide +kernel
theorem dX13_errorOf_141 : decode cX13_errorOf 141 = .ok (.aload_n 2, 1) := by decide +kernel
theorem dX13_errorOf_142 : decode cX13_errorOf 142 = .ok (.dup, 1) := by decide +kernel
theorem dX13_errorOf_143 : decode cX13_errorOf 143 = .ok (.getfield 57, 3) := by decide +kernel
theorem dX13_errorOf_146 : decode cX13_errorOf 146 = .ok (.iconst 1, 1) := by decide +kernel
theorem dX13_errorOf_147 : decode cX13_errorOf 147 = .ok (.iadd, 1) := by decide +kernel
theorem dX13_errorOf_148 : decode cX13_errorOf 148 = .ok (.putfield 57, 3) := by decide +kernel
theorem dX13_errorOf_151 : decode cX13_errorOf 151 = .ok (.iconst 0, 1) := by decide +kernel
theorem dX13_errorOf_152 : decode cX13_errorOf 152 = .ok (.ireturn, 1) := by decide +kernel
theorem dX13_errorOf_153 : decode cX13_errorOf 153 = .ok (.aload_n 0, 1) := by decide +kernel
theorem dX13_errorOf_154 : decode cX13_errorOf 154 = .ok (.iload_n 1, 1) := by decide +kernel
theorem dX13_errorOf_155 : decode cX13_errorOf 155 = .ok (.iconst 2, 1) := by decide +kernel
theorem dX13_errorOf_156 : decode cX13_errorOf 156 = .ok (.invokevirtual 211, 3) := by decide +kernel
theorem dX13_errorOf_159 : decode cX13_errorOf 159 = .ok (.iconst (-1), 1) := by decide +kernel
theorem dX13_errorOf_160 : decode cX13_errorOf 160 = .ok (.if_icmp .eq 5, 3) := by decide +kernel
theorem dX13_errorOf_163 : decode cX13_errorOf 163 = .ok (.iconst 2, 1) := by decide +kernel
theorem dX13_errorOf_164 : decode cX13_errorOf 164 = .ok (.ireturn, 1) := by decide +kernel
theorem dX13_errorOf_165 : decode cX13_errorOf 165 = .ok (.aload_n 2, 1) := by decide +kernel
theorem dX13_errorOf_166 : decode cX13_errorOf 166 = .ok (.getfield 64, 3) := by decide +kernel
theorem dX13_errorOf_169 : decode cX13_errorOf 169 = .ok (.bipush 6, 2) := by decide +kernel
theorem dX13_errorOf_171 : decode cX13_errorOf 171 = .ok (.if_icmp .ne 5, 3) := by decide +kernel
theorem dX13_errorOf_174 : decode cX13_errorOf 174 = .ok (.iconst 4, 1) := by decide +kernel
theorem dX13_errorOf_175 : decode cX13_errorOf 175 = .ok (.ireturn, 1) := by decide +kernel
theorem dX13_errorOf_176 : decode cX13_errorOf 176 = .ok (.aload_n 2, 1) := by decide +kernel
theorem dX13_errorOf_177 : decode cX13_errorOf 177 = .ok (.dup, 1) := by decide +kernel
theorem dX13_errorOf_178 : decode cX13_errorOf 178 = .ok (.getfield 64, 3) := by decide +kernel
theorem dX13_errorOf_181 : decode cX13_errorOf 181 = .ok (.iconst 1, 1) := by decide +kernel
theorem dX13_errorOf_182 : decode cX13_errorOf 182 = .ok (.iadd, 1) := by decide +kernel
theorem dX13_errorOf_183 : decode cX13_errorOf 183 = .ok (.putfield 64, 3) := by decide +kernel
theorem dX13_errorOf_186 : decode cX13_errorOf 186 = .ok (.iconst 0, 1) := by decide +kernel
theorem dX13_errorOf_187 : decode cX13_errorOf 187 = .ok (.ireturn, 1) := by decide +kernel
theorem dX13_errorOf_188 : decode cX13_errorOf 188 = .ok (.aload_n 0, 1) := by decide +kernel
theorem dX13_errorOf_189 : decode cX13_errorOf 189 = .ok (.iload_n 1, 1) := by decide +kernel
theorem dX13_errorOf_190 : decode cX13_errorOf 190 = .ok (.invokevirtual 216, 3) := by decide +kernel
theorem dX13_errorOf_193 : decode cX13_errorOf 193 = .ok (.ifCond .eq 7, 3) := by decide +kernel
theorem dX13_errorOf_196 : decode cX13_errorOf 196 = .ok (.iconst 0, 1) := by decide +kernel
theorem dX13_errorOf_197 : decode cX13_errorOf 197 = .ok (.goto 5, 3) := by decide +kernel
theorem dX13_errorOf_200 : decode cX13_errorOf 200 = .ok (.bipush 7, 2) := by decide +kernel
theorem dX13_errorOf_202 : decode cX13_errorOf 202 = .ok (.ireturn, 1) := by decide +kernel
theorem dX13_errorOf_203 : decode cX13_errorOf 203 = .ok (.aload_n 0, 1) := by decide +kernel
theorem dX13_errorOf_204 : decode cX13_errorOf 204 = .ok (.getfield 29, 3) := by decide +kernel
theorem dX13_errorOf_207 : decode cX13_errorOf 207 = .ok (.iload_n 1, 1) := by decide +kernel
theorem dX13_errorOf_208 : decode cX13_errorOf 208 = .ok (.aload_n 0, 1) := by decide +kernel
theorem dX13_errorOf_209 : decode cX13_errorOf 209 = .ok (.iload_n 1, 1) := by decide +kernel
theorem dX13_errorOf_210 : decode cX13_errorOf 210 = .ok (.iconst 1, 1) := by decide +kernel
theorem dX13_errorOf_211 : decode cX13_errorOf 211 = .ok (.invokevirtual 211, 3) := by decide +kernel
theorem dX13_errorOf_214 : decode cX13_errorOf 214 = .ok (.iastore, 1) := by decide +kernel
theorem dX13_errorOf_215 : decode cX13_errorOf 215 = .ok (.aload_n 0, 1) := by decide +kernel
theorem dX13_errorOf_216 : decode cX13_errorOf 216 = .ok (.getfield 29, 3) := by decide +kernel
theorem dX13_errorOf_219 : decode cX13_errorOf 219 = .ok (.iload_n 1, 1) := by decide +kernel
theorem dX13_errorOf_220 : decode cX13_errorOf 220 = .ok (.iaload, 1) := by decide +kernel
theorem dX13_errorOf_221 : decode cX13_errorOf 221 = .ok (.iconst (-1), 1) := by decide +kernel
theorem dX13_errorOf_222 : decode cX13_errorOf 222 = .ok (.if_icmp .ne 5, 3) := by decide +kernel
theorem dX13_errorOf_225 : decode cX13_errorOf 225 = .ok (.iconst 3, 1) := by decide +kernel
theorem dX13_errorOf_226 : decode cX13_errorOf 226 = .ok (.ireturn, 1) := by decide +kernel
theorem dX13_errorOf_227 : decode cX13_errorOf 227 = .ok (.aload_n 0, 1) := by decide +kernel
theorem dX13_errorOf_228 : decode cX13_errorOf 228 = .ok (.getfield 26, 3) := by decide +kernel
theorem dX13_errorOf_231 : decode cX13_errorOf 231 = .ok (.iload_n 1, 1) := by decide +kernel
theorem dX13_errorOf_232 : decode cX13_errorOf 232 = .ok (.iaload, 1) := by decide +kernel
theorem dX13_errorOf_233 : decode cX13_errorOf 233 = .ok (.iconst 5, 1) := by decide +kernel
theorem dX13_errorOf_234 : decode cX13_errorOf 234 = .ok (.if_icmp .ne 25, 3) := by decide +kernel
theorem dX13_errorOf_237 : decode cX13_errorOf 237 = .ok (.aload_n 0, 1) := by decide +kernel
theorem dX13_errorOf_238 : decode cX13_errorOf 238 = .ok (.getfield 29, 3) := by decide +kernel
theorem dX13_errorOf_241 : decode cX13_errorOf 241 = .ok (.iload_n 1, 1) := by decide +kernel
theorem dX13_errorOf_242 : decode cX13_errorOf 242 = .ok (.iaload, 1) := by decide +kernel
theorem dX13_errorOf_243 : decode cX13_errorOf 243 = .ok (.aload_n 0, 1) := by decide +kernel
theorem dX13_errorOf_244 : decode cX13_errorOf 244 = .ok (.getfield 29, 3) := by decide +kernel
theorem dX13_errorOf_247 : decode cX13_errorOf 247 = .ok (.iload_n 1, 1) := by decide +kernel
theorem dX13_errorOf_248 : decode cX13_errorOf 248 = .ok (.iconst 1, 1) := by decide +kernel
theorem dX13_errorOf_249 : decode cX13_errorOf 249 = .ok (.isub, 1) := by decide +kernel
theorem dX13_errorOf_250 : decode cX13_errorOf 250 = .ok (.iaload, 1) := by decide +kernel
theorem dX13_errorOf_251 : decode cX13_errorOf 251 = .ok (.if_icmp .ne 8, 3) := by decide +kernel
theorem dX13_errorOf_254 : decode cX13_errorOf 254 = .ok (.bipush 6, 2) := by decide +kernel
theorem dX13_errorOf_256 : decode cX13_errorOf 256 = .ok (.goto 4, 3) := by decide +kernel
theorem dX13_errorOf_259 : decode cX13_errorOf 259 = .ok (.iconst 0, 1) := by decide +kernel
theorem dX13_errorOf_260 : decode cX13_errorOf 260 = .ok (.ireturn, 1) := by decide +kernel
theorem dX13_errorOf_261 : decode cX13_errorOf 261 = .ok (.aload_n 0, 1) := by decide +kernel
theorem dX13_errorOf_262 : decode cX13_errorOf 262 = .ok (.getfield 29, 3) := by decide +kernel
theorem dX13_errorOf_265 : decode cX13_errorOf 265 = .ok (.iload_n 1, 1) := by decide +kernel
theorem dX13_errorOf_266 : decode cX13_errorOf 266 = .ok (.aload_n 0, 1) := by decide +kernel
theorem dX13_errorOf_267 : decode cX13_errorOf 267 = .ok (.iload_n 1, 1) := by decide +kernel
theorem dX13_errorOf_268 : decode cX13_errorOf 268 = .ok (.iconst 2, 1) := by decide +kernel
theorem dX13_errorOf_269 : decode cX13_errorOf 269 = .ok (.invokevirtual 211, 3) := by decide +kernel
theorem dX13_errorOf_272 : decode cX13_errorOf 272 = .ok (.iastore, 1) := by decide +kernel
theorem dX13_errorOf_273 : decode cX13_errorOf 273 = .ok (.aload_n 0, 1) := by decide +kernel
theorem dX13_errorOf_274 : decode cX13_errorOf 274 = .ok (.getfield 29, 3) := by decide +kernel
theorem dX13_errorOf_277 : decode cX13_errorOf 277 = .ok (.iload_n 1, 1) := by decide +kernel
theorem dX13_errorOf_278 : decode cX13_errorOf 278 = .ok (.iaload, 1) := by decide +kernel
theorem dX13_errorOf_279 : decode cX13_errorOf 279 = .ok (.iconst (-1), 1) := by decide +kernel
theorem dX13_errorOf_280 : decode cX13_errorOf 280 = .ok (.if_icmp .ne 7, 3) := by decide +kernel
theorem dX13_errorOf_283 : decode cX13_errorOf 283 = .ok (.iconst 3, 1) := by decide +kernel
theorem dX13_errorOf_284 : decode cX13_errorOf 284 = .ok (.goto 4, 3) := by decide +kernel
theorem dX13_errorOf_287 : decode cX13_errorOf 287 = .ok (.iconst 0, 1) := by decide +kernel
theorem dX13_errorOf_288 : decode cX13_errorOf 288 = .ok (.ireturn, 1) := by decide +kernel
theorem dX13_errorOf_289 : decode cX13_errorOf 289 = .ok (.aload_n 0, 1) := by decide +kernel
theorem dX13_errorOf_290 : decode cX13_errorOf 290 = .ok (.getfield 29, 3) := by decide +kernel
theorem dX13_errorOf_293 : decode cX13_errorOf 293 = .ok (.iconst 0, 1) := by decide +kernel
theorem dX13_errorOf_294 : decode cX13_errorOf 294 = .ok (.dup2, 1) := by decide +kernel
theorem dX13_errorOf_295 : decode cX13_errorOf 295 = .ok (.iaload, 1) := by decide +kernel
theorem dX13_errorOf_296 : decode cX13_errorOf 296 = .ok (.iconst 1, 1) := by decide +kernel
theorem dX13_errorOf_297 : decode cX13_errorOf 297 = .ok (.iadd, 1) := by decide +kernel
theorem dX13_errorOf_298 : decode cX13_errorOf 298 = .ok (.iastore, 1) := by decide +kernel
theorem dX13_errorOf_299 : decode cX13_errorOf 299 = .ok (.aload_n 0, 1) := by decide +kernel
theorem dX13_errorOf_300 : decode cX13_errorOf 300 = .ok (.getfield 29, 3) := by decide +kernel
theorem dX13_errorOf_303 : decode cX13_errorOf 303 = .ok (.iconst 0, 1) := by decide +kernel
theorem dX13_errorOf_304 : decode cX13_errorOf 304 = .ok (.iaload, 1) := by decide +kernel
theorem dX13_errorOf_305 : decode cX13_errorOf 305 = .ok (.bipush 12, 2) := by decide +kernel
theorem dX13_errorOf_307 : decode cX13_errorOf 307 = .ok (.if_icmp .le 7, 3) := by decide +kernel
theorem dX13_errorOf_310 : decode cX13_errorOf 310 = .ok (.iconst 4, 1) := by decide +kernel
theorem dX13_errorOf_311 : decode cX13_errorOf 311 = .ok (.goto 4, 3) := by decide +kernel
theorem dX13_errorOf_314 : decode cX13_errorOf 314 = .ok (.iconst 0, 1) := by decide +kernel
theorem dX13_errorOf_315 : decode cX13_errorOf 315 = .ok (.ireturn, 1) := by decide +kernel
theorem dX13_errorOf_316 : decode cX13_errorOf 316 = .ok (.aload_n 2, 1) := by decide +kernel
theorem dX13_errorOf_317 : decode cX13_errorOf 317 = .ok (.getfield 213, 3) := by decide +kernel
theorem dX13_errorOf_320 : decode cX13_errorOf 320 = .ok (.iload_n 3, 1) := by decide +kernel
theorem dX13_errorOf_321 : decode cX13_errorOf 321 = .ok (.iload 4, 2) := by decide +kernel
theorem dX13_errorOf_323 : decode cX13_errorOf 323 = .ok (.iastore, 1) := by decide +kernel
theorem dX13_errorOf_324 : decode cX13_errorOf 324 = .ok (.iload 4, 2) := by decide +kernel
theorem dX13_errorOf_326 : decode cX13_errorOf 326 = .ok (.iconst 1, 1) := by decide +kernel
theorem dX13_errorOf_327 : decode cX13_errorOf 327 = .ok (.bipush 20, 2) := by decide +kernel
theorem dX13_errorOf_329 : decode cX13_errorOf 329 = .ok (.invokestatic 60, 3) := by decide +kernel
theorem dX13_errorOf_332 : decode cX13_errorOf 332 = .ok (.ifCond .eq 7, 3) := by decide +kernel
theorem dX13_errorOf_335 : decode cX13_errorOf 335 = .ok (.iconst 0, 1) := by decide +kernel
theorem dX13_errorOf_336 : decode cX13_errorOf 336 = .ok (.goto 4, 3) := by decide +kernel
theorem dX13_errorOf_339 : decode cX13_errorOf 339 = .ok (.iconst 5, 1) := by decide +kernel
theorem dX13_errorOf_340 : decode cX13_errorOf 340 = .ok (.ireturn, 1) := by decide +kernel
theorem dX13_errorOf_341 : decode cX13_errorOf 341 = .ok (.aload_n 2, 1) := by decide +kernel
theorem dX13_errorOf_342 : decode cX13_errorOf 342 = .ok (.getfield 213, 3) := by decide +kernel
theorem dX13_errorOf_345 : decode cX13_errorOf 345 = .ok (.iload_n 3, 1) := by decide +kernel
theorem dX13_errorOf_346 : decode cX13_errorOf 346 = .ok (.iconst 1, 1) := by decide +kernel
theorem dX13_errorOf_347 : decode cX13_errorOf 347 = .ok (.iadd, 1) := by decide +kernel
theorem dX13_errorOf_348 : decode cX13_errorOf 348 = .ok (.iload 4, 2) := by decide +kernel
theorem dX13_errorOf_350 : decode cX13_errorOf 350 = .ok (.iastore, 1) := by decide +kernel
theorem dX13_errorOf_351 : decode cX13_errorOf 351 = .ok (.iload 4, 2) := by decide +kernel
theorem dX13_errorOf_353 : decode cX13_errorOf 353 = .ok (.iconst 1, 1) := by decide +kernel
theorem dX13_errorOf_354 : decode cX13_errorOf 354 = .ok (.bipush 60, 2) := by decide +kernel
theorem dX13_errorOf_356 : decode cX13_errorOf 356 = .ok (.invokestatic 60, 3) := by decide +kernel
theorem dX13_errorOf_359 : decode cX13_errorOf 359 = .ok (.ifCond .eq 7, 3) := by decide +kernel
theorem dX13_errorOf_362 : decode cX13_errorOf 362 = .ok (.iconst 0, 1) := by decide +kernel
theorem dX13_errorOf_363 : decode cX13_errorOf 363 = .ok (.goto 4, 3) := by decide +kernel
theorem dX13_errorOf_366 : decode cX13_errorOf 366 = .ok (.iconst 5, 1) := by decide +kernel
theorem dX13_errorOf_367 : decode cX13_errorOf 367 = .ok (.ireturn, 1) := by decide +kernel
theorem dX13_errorOf_368 : decode cX13_errorOf 368 = .ok (.aload_n 2, 1) := by decide +kernel
theorem dX13_errorOf_369 : decode cX13_errorOf 369 = .ok (.getfield 213, 3) := by decide +kernel
theorem dX13_errorOf_372 : decode cX13_errorOf 372 = .ok (.iload_n 3, 1) := by decide +kernel
theorem dX13_errorOf_373 : decode cX13_errorOf 373 = .ok (.iconst 2, 1) := by decide +kernel
theorem dX13_errorOf_374 : decode cX13_errorOf 374 = .ok (.iadd, 1) := by decide +kernel
theorem dX13_errorOf_375 : decode cX13_errorOf 375 = .ok (.iload 4, 2) := by decide +kernel
theorem dX13_errorOf_377 : decode cX13_errorOf 377 = .ok (.iastore, 1) := by decide +kernel
theorem dX13_errorOf_378 : decode cX13_errorOf 378 = .ok (.iload 4, 2) := by decide +kernel
theorem dX13_errorOf_380 : decode cX13_errorOf 380 = .ok (.iconst 0, 1) := by decide +kernel
theorem dX13_errorOf_381 : decode cX13_errorOf 381 = .ok (.sipush 359, 3) := by decide +kernel
theorem dX13_errorOf_384 : decode cX13_errorOf 384 = .ok (.invokestatic 60, 3) := by decide +kernel
theorem dX13_errorOf_387 : decode cX13_errorOf 387 = .ok (.ifCond .eq 7, 3) := by decide +kernel
theorem dX13_errorOf_390 : decode cX13_errorOf 390 = .ok (.iconst 0, 1) := by decide +kernel
theorem dX13_errorOf_391 : decode cX13_errorOf 391 = .ok (.goto 4, 3) := by decide +kernel
theorem dX13_errorOf_394 : decode cX13_errorOf 394 = .ok (.iconst 5, 1) := by decide +kernel
theorem dX13_errorOf_395 : decode cX13_errorOf 395 = .ok (.ireturn, 1) := by decide +kernel
theorem dX13_errorOf_396 : decode cX13_errorOf 396 = .ok (.aload_n 2, 1) := by decide +kernel
theorem dX13_errorOf_397 : decode cX13_errorOf 397 = .ok (.getfield 213, 3) := by decide +kernel
theorem dX13_errorOf_400 : decode cX13_errorOf 400 = .ok (.iload_n 3, 1) := by decide +kernel
theorem dX13_errorOf_401 : decode cX13_errorOf 401 = .ok (.iconst 3, 1) := by decide +kernel
theorem dX13_errorOf_402 : decode cX13_errorOf 402 = .ok (.iadd, 1) := by decide +kernel
theorem dX13_errorOf_403 : decode cX13_errorOf 403 = .ok (.iload 4, 2) := by decide +kernel
theorem dX13_errorOf_405 : decode cX13_errorOf 405 = .ok (.iastore, 1) := by decide +kernel
theorem dX13_errorOf_406 : decode cX13_errorOf 406 = .ok (.iload 4, 2) := by decide +kernel
theorem dX13_errorOf_408 : decode cX13_errorOf 408 = .ok (.iconst 0, 1) := by decide +kernel
theorem dX13_errorOf_409 : decode cX13_errorOf 409 = .ok (.bipush 29, 2) := by decide +kernel
theorem dX13_errorOf_411 : decode cX13_errorOf 411 = .ok (.invokestatic 60, 3) := by decide +kernel
theorem dX13_errorOf_414 : decode cX13_errorOf 414 = .ok (.ifCond .eq 7, 3) := by decide +kernel
theorem dX13_errorOf_417 : decode cX13_errorOf 417 = .ok (.iconst 0, 1) := by decide +kernel
theorem dX13_errorOf_418 : decode cX13_errorOf 418 = .ok (.goto 4, 3) := by decide +kernel
theorem dX13_errorOf_421 : decode cX13_errorOf 421 = .ok (.iconst 5, 1) := by decide +kernel
theorem dX13_errorOf_422 : decode cX13_errorOf 422 = .ok (.ireturn, 1) := by decide +kernel
theorem dX13_errorOf_423 : decode cX13_errorOf 423 = .ok (.aload_n 2, 1) := by decide +kernel
theorem dX13_errorOf_424 : decode cX13_errorOf 424 = .ok (.getfield 213, 3) := by decide +kernel
theorem dX13_errorOf_427 : decode cX13_errorOf 427 = .ok (.iload_n 3, 1) := by decide +kernel
theorem dX13_errorOf_428 : decode cX13_errorOf 428 = .ok (.iconst 4, 1) := by decide +kernel
theorem dX13_errorOf_429 : decode cX13_errorOf 429 = .ok (.iadd, 1) := by decide +kernel
theorem dX13_errorOf_430 : decode cX13_errorOf 430 = .ok (.iload 4, 2) := by decide +kernel
theorem dX13_errorOf_432 : decode cX13_errorOf 432 = .ok (.iastore, 1) := by decide +kernel
theorem dX13_errorOf_433 : decode cX13_errorOf 433 = .ok (.iload 4, 2) := by decide +kernel
theorem dX13_errorOf_435 : decode cX13_errorOf 435 = .ok (.iconst 1, 1) := by decide +kernel
theorem dX13_errorOf_436 : decode cX13_errorOf 436 = .ok (.bipush 60, 2) := by decide +kernel
theorem dX13_errorOf_438 : decode cX13_errorOf 438 = .ok (.invokestatic 60, 3) := by decide +kernel
theorem dX13_errorOf_441 : decode cX13_errorOf 441 = .ok (.ifCond .eq 20, 3) := by decide +kernel
theorem dX13_errorOf_444 : decode cX13_errorOf 444 = .ok (.iload 4, 2) := by decide +kernel
theorem dX13_errorOf_446 : decode cX13_errorOf 446 = .ok (.aload_n 2, 1) := by decide +kernel
theorem dX13_errorOf_447 : decode cX13_errorOf 447 = .ok (.getfield 213, 3) := by decide +kernel
theorem dX13_errorOf_450 : decode cX13_errorOf 450 = .ok (.iload_n 3, 1) := by decide +kernel
theorem dX13_errorOf_451 : decode cX13_errorOf 451 = .ok (.iconst 3, 1) := by decide +kernel
theorem dX13_errorOf_452 : decode cX13_errorOf 452 = .ok (.iadd, 1) := by decide +kernel
theorem dX13_errorOf_453 : decode cX13_errorOf 453 = .ok (.iaload, 1) := by decide +kernel
theorem dX13_errorOf_454 : decode cX13_errorOf 454 = .ok (.if_icmp .le 7, 3) := by decide +kernel
theorem dX13_errorOf_457 : decode cX13_errorOf 457 = .ok (.iconst 0, 1) := by decide +kernel
theorem dX13_errorOf_458 : decode cX13_errorOf 458 = .ok (.goto 4, 3) := by decide +kernel
theorem dX13_errorOf_461 : decode cX13_errorOf 461 = .ok (.iconst 5, 1) := by decide +kernel
theorem dX13_errorOf_462 : decode cX13_errorOf 462 = .ok (.ireturn, 1) := by decide +kernel
theorem dX13_errorOf_463 : decode cX13_errorOf 463 = .ok (.iconst 0, 1) := by decide +kernel
theorem dX13_errorOf_464 : decode cX13_errorOf 464 = .ok (.ireturn, 1) := by decide +kernel
theorem dX13_areLetters_0 : decode cX13_areLetters 0 = .ok (.iconst 0, 1) := by decide +kernel
theorem dX13_areLetters_1 : decode cX13_areLetters 1 = .ok (.istore_n 2, 1) := by decide +kernel
theorem dX13_areLetters_2 : decode cX13_areLetters 2 = .ok (.aload_n 0, 1) := by decide +kernel
theorem dX13_areLetters_3 : decode cX13_areLetters 3 = .ok (.getfield 39, 3) := by decide +kernel
theorem dX13_areLetters_6 : decode cX13_areLetters 6 = .ok (.getfield 64, 3) := by decide +kernel
theorem dX13_areLetters_9 : decode cX13_areLetters 9 = .ok (.iconst 1, 1) := by decide +kernel
theorem dX13_areLetters_10 : decode cX13_areLetters 10 = .ok (.isub, 1) := by decide +kernel
theorem dX13_areLetters_11 : decode cX13_areLetters 11 = .ok (.istore_n 3, 1) := by decide +kernel
theorem dX13_areLetters_12 : decode cX13_areLetters 12 = .ok (.aload_n 0, 1) := by decide +kernel
theorem dX13_areLetters_13 : decode cX13_areLetters 13 = .ok (.getfield 39, 3) := by decide +kernel
theorem dX13_areLetters_16 : decode cX13_areLetters 16 = .ok (.getfield 219, 3) := by decide +kernel
theorem dX13_areLetters_19 : decode cX13_areLetters 19 = .ok (.iload_n 3, 1) := by decide +kernel
theorem dX13_areLetters_20 : decode cX13_areLetters 20 = .ok (.aload_n 0, 1) := by decide +kernel
theorem dX13_areLetters_21 : decode cX13_areLetters 21 = .ok (.getfield 23, 3) := by decide +kernel
theorem dX13_areLetters_24 : decode cX13_areLetters 24 = .ok (.iload_n 1, 1) := by decide +kernel
theorem dX13_areLetters_25 : decode cX13_areLetters 25 = .ok (.iaload, 1) := by decide +kernel
theorem dX13_areLetters_26 : decode cX13_areLetters 26 = .ok (.iastore, 1) := by decide +kernel
theorem dX13_areLetters_27 : decode cX13_areLetters 27 = .ok (.iconst 0, 1) := by decide +kernel
theorem dX13_areLetters_28 : decode cX13_areLetters 28 = .ok (.istore 4, 2) := by decide +kernel
theorem dX13_areLetters_30 : decode cX13_areLetters 30 = .ok (.iload 4, 2) := by decide +kernel
theorem dX13_areLetters_32 : decode cX13_areLetters 32 = .ok (.aload_n 0, 1) := by decide +kernel
theorem dX13_areLetters_33 : decode cX13_areLetters 33 = .ok (.getfield 23, 3) := by decide +kernel
theorem dX13_areLetters_36 : decode cX13_areLetters 36 = .ok (.iload_n 1, 1) := by decide +kernel
theorem dX13_areLetters_37 : decode cX13_areLetters 37 = .ok (.iaload, 1) := by decide +kernel
theorem dX13_areLetters_38 : decode cX13_areLetters 38 = .ok (.if_icmp .ge 75, 3) := by decide +kernel
theorem dX13_areLetters_41 : decode cX13_areLetters 41 = .ok (.aload_n 0, 1) := by decide +kernel
theorem dX13_areLetters_42 : decode cX13_areLetters 42 = .ok (.getfield 9, 3) := by decide +kernel
theorem dX13_areLetters_45 : decode cX13_areLetters 45 = .ok (.aload_n 0, 1) := by decide +kernel
theorem dX13_areLetters_46 : decode cX13_areLetters 46 = .ok (.getfield 20, 3) := by decide +kernel
theorem dX13_areLetters_49 : decode cX13_areLetters 49 = .ok (.iload_n 1, 1) := by decide +kernel
theorem dX13_areLetters_50 : decode cX13_areLetters 50 = .ok (.iaload, 1) := by decide +kernel
theorem dX13_areLetters_51 : decode cX13_areLetters 51 = .ok (.iload 4, 2) := by decide +kernel
theorem dX13_areLetters_53 : decode cX13_areLetters 53 = .ok (.iadd, 1) := by decide +kernel
theorem dX13_areLetters_54 : decode cX13_areLetters 54 = .ok (.iaload, 1) := by decide +kernel
theorem dX13_areLetters_55 : decode cX13_areLetters 55 = .ok (.istore 5, 2) := by decide +kernel
theorem dX13_areLetters_57 : decode cX13_areLetters 57 = .ok (.iload 5, 2) := by decide +kernel
theorem dX13_areLetters_59 : decode cX13_areLetters 59 = .ok (.invokestatic 86, 3) := by decide +kernel
theorem dX13_areLetters_62 : decode cX13_areLetters 62 = .ok (.ifCond .eq 16, 3) := by decide +kernel
theorem dX13_areLetters_65 : decode cX13_areLetters 65 = .ok (.iload_n 2, 1) := by decide +kernel
theorem dX13_areLetters_66 : decode cX13_areLetters 66 = .ok (.iload 5, 2) := by decide +kernel
theorem dX13_areLetters_68 : decode cX13_areLetters 68 = .ok (.bipush 97, 2) := by decide +kernel
theorem dX13_areLetters_70 : decode cX13_areLetters 70 = .ok (.isub, 1) := by decide +kernel
theorem dX13_areLetters_71 : decode cX13_areLetters 71 = .ok (.ishr, 1) := by decide +kernel
theorem dX13_areLetters_72 : decode cX13_areLetters 72 = .ok (.iconst 1, 1) := by decide +kernel
theorem dX13_areLetters_73 : decode cX13_areLetters 73 = .ok (.iand, 1) := by decide +kernel
theorem dX13_areLetters_74 : decode cX13_areLetters 74 = .ok (.iconst 1, 1) := by decide +kernel
theorem dX13_areLetters_75 : decode cX13_areLetters 75 = .ok (.if_icmp .ne 5, 3) := by decide +kernel
theorem dX13_areLetters_78 : decode cX13_areLetters 78 = .ok (.iconst 0, 1) := by decide +kernel
theorem dX13_areLetters_79 : decode cX13_areLetters 79 = .ok (.ireturn, 1) := by decide +kernel
theorem dX13_areLetters_80 : decode cX13_areLetters 80 = .ok (.iload_n 2, 1) := by decide +kernel
theorem dX13_areLetters_81 : decode cX13_areLetters 81 = .ok (.iconst 1, 1) := by decide +kernel
theorem dX13_areLetters_82 : decode cX13_areLetters 82 = .ok (.iload 5, 2) := by decide +kernel
theorem dX13_areLetters_84 : decode cX13_areLetters 84 = .ok (.bipush 97, 2) := by decide +kernel
theorem dX13_areLetters_86 : decode cX13_areLetters 86 = .ok (.isub, 1) := by decide +kernel
theorem dX13_areLetters_87 : decode cX13_areLetters 87 = .ok (.ishl, 1) := by decide +kernel
theorem dX13_areLetters_88 : decode cX13_areLetters 88 = .ok (.ior, 1) := by decide +kernel
theorem dX13_areLetters_89 : decode cX13_areLetters 89 = .ok (.istore_n 2, 1) := by decide +kernel
theorem dX13_areLetters_90 : decode cX13_areLetters 90 = .ok (.aload_n 0, 1) := by decide +kernel
theorem dX13_areLetters_91 : decode cX13_areLetters 91 = .ok (.getfield 39, 3) := by decide +kernel
theorem dX13_areLetters_94 : decode cX13_areLetters 94 = .ok (.getfield 222, 3) := by decide +kernel
theorem dX13_areLetters_97 : decode cX13_areLetters 97 = .ok (.bipush 12, 2) := by decide +kernel
theorem dX13_areLetters_99 : decode cX13_areLetters 99 = .ok (.iload_n 3, 1) := by decide +kernel
theorem dX13_areLetters_100 : decode cX13_areLetters 100 = .ok (.imul, 1) := by decide +kernel
theorem dX13_areLetters_101 : decode cX13_areLetters 101 = .ok (.iload 4, 2) := by decide +kernel
theorem dX13_areLetters_103 : decode cX13_areLetters 103 = .ok (.iadd, 1) := by decide +kernel
theorem dX13_areLetters_104 : decode cX13_areLetters 104 = .ok (.iload 5, 2) := by decide +kernel
theorem dX13_areLetters_106 : decode cX13_areLetters 106 = .ok (.iastore, 1) := by decide +kernel
theorem dX13_areLetters_107 : decode cX13_areLetters 107 = .ok (.iinc 4 1, 3) := by decide +kernel
theorem dX13_areLetters_110 : decode cX13_areLetters 110 = .ok (.goto (-80), 3) := by decide +kernel
theorem dX13_areLetters_113 : decode cX13_areLetters 113 = .ok (.iconst 1, 1) := by decide +kernel
theorem dX13_areLetters_114 : decode cX13_areLetters 114 = .ok (.ireturn, 1) := by decide +kernel
theorem dX13_read_0 : decode cX13_read 0 = .ok (.aload_n 0, 1) := by decide +kernel
theorem dX13_read_1 : decode cX13_read 1 = .ok (.new 32, 3) := by decide +kernel
theorem dX13_read_4 : decode cX13_read 4 = .ok (.dup, 1) := by decide +kernel
theorem dX13_read_5 : decode cX13_read 5 = .ok (.invokespecial 34, 3) := by decide +kernel
theorem dX13_read_8 : decode cX13_read 8 = .ok (.putfield 39, 3) := by decide +kernel
theorem dX13_read_11 : decode cX13_read 11 = .ok (.aload_n 0, 1) := by decide +kernel
theorem dX13_read_12 : decode cX13_read 12 = .ok (.invokevirtual 225, 3) := by decide +kernel
theorem dX13_read_15 : decode cX13_read 15 = .ok (.aload_n 0, 1) := by decide +kernel
theorem dX13_read_16 : decode cX13_read 16 = .ok (.iconst 0, 1) := by decide +kernel
theorem dX13_read_17 : decode cX13_read 17 = .ok (.putfield 113, 3) := by decide +kernel
theorem dX13_read_20 : decode cX13_read 20 = .ok (.aload_n 0, 1) := by decide +kernel
theorem dX13_read_21 : decode cX13_read 21 = .ok (.iconst 0, 1) := by decide +kernel
theorem dX13_read_22 : decode cX13_read 22 = .ok (.putfield 179, 3) := by decide +kernel
theorem dX13_read_25 : decode cX13_read 25 = .ok (.aload_n 0, 1) := by decide +kernel
theorem dX13_read_26 : decode cX13_read 26 = .ok (.invokevirtual 228, 3) := by decide +kernel
theorem dX13_read_29 : decode cX13_read 29 = .ok (.ifCond .ne 18, 3) := by decide +kernel
theorem dX13_read_32 : decode cX13_read 32 = .ok (.aload_n 0, 1) := by decide +kernel
theorem dX13_read_33 : decode cX13_read 33 = .ok (.aload_n 0, 1) := by decide +kernel
theorem dX13_read_34 : decode cX13_read 34 = .ok (.getfield 20, 3) := by decide +kernel
theorem dX13_read_37 : decode cX13_read 37 = .ok (.aload_n 0, 1) := by decide +kernel
theorem dX13_read_38 : decode cX13_read 38 = .ok (.getfield 113, 3) := by decide +kernel
theorem dX13_read_41 : decode cX13_read 41 = .ok (.iaload, 1) := by decide +kernel
theorem dX13_read_42 : decode cX13_read 42 = .ok (.putfield 13, 3) := by decide +kernel
theorem dX13_read_45 : decode cX13_read 45 = .ok (.iconst 1, 1) := by decide +kernel
theorem dX13_read_46 : decode cX13_read 46 = .ok (.ireturn, 1) := by decide +kernel
theorem dX13_read_47 : decode cX13_read 47 = .ok (.aload_n 0, 1) := by decide +kernel
theorem dX13_read_48 : decode cX13_read 48 = .ok (.getfield 113, 3) := by decide +kernel
theorem dX13_read_51 : decode cX13_read 51 = .ok (.istore_n 1, 1) := by decide +kernel
theorem dX13_read_52 : decode cX13_read 52 = .ok (.aload_n 0, 1) := by decide +kernel
theorem dX13_read_53 : decode cX13_read 53 = .ok (.getfield 29, 3) := by decide +kernel
theorem dX13_read_56 : decode cX13_read 56 = .ok (.iconst 0, 1) := by decide +kernel
theorem dX13_read_57 : decode cX13_read 57 = .ok (.iconst 0, 1) := by decide +kernel
theorem dX13_read_58 : decode cX13_read 58 = .ok (.iastore, 1) := by decide +kernel
theorem dX13_read_59 : decode cX13_read 59 = .ok (.aload_n 0, 1) := by decide +kernel
theorem dX13_read_60 : decode cX13_read 60 = .ok (.iconst 0, 1) := by decide +kernel
theorem dX13_read_61 : decode cX13_read 61 = .ok (.putfield 113, 3) := by decide +kernel
theorem dX13_read_64 : decode cX13_read 64 = .ok (.aload_n 0, 1) := by decide +kernel
theorem dX13_read_65 : decode cX13_read 65 = .ok (.getfield 113, 3) := by decide +kernel
theorem dX13_read_68 : decode cX13_read 68 = .ok (.iload_n 1, 1) := by decide +kernel
theorem dX13_read_69 : decode cX13_read 69 = .ok (.if_icmp .ge 47, 3) := by decide +kernel
theorem dX13_read_72 : decode cX13_read 72 = .ok (.aload_n 0, 1) := by decide +kernel
theorem dX13_read_73 : decode cX13_read 73 = .ok (.aload_n 0, 1) := by decide +kernel
theorem dX13_read_74 : decode cX13_read 74 = .ok (.getfield 113, 3) := by decide +kernel
theorem dX13_read_77 : decode cX13_read 77 = .ok (.invokevirtual 231, 3) := by decide +kernel
theorem dX13_read_80 : decode cX13_read 80 = .ok (.istore_n 2, 1) := by decide +kernel
theorem dX13_read_81 : decode cX13_read 81 = .ok (.iload_n 2, 1) := by decide +kernel
theorem dX13_read_82 : decode cX13_read 82 = .ok (.ifCond .ne 6, 3) := by decide +kernel
theorem dX13_read_85 : decode cX13_read 85 = .ok (.goto 18, 3) := by decide +kernel
theorem dX13_read_88 : decode cX13_read 88 = .ok (.aload_n 0, 1) := by decide +kernel
theorem dX13_read_89 : decode cX13_read 89 = .ok (.aload_n 0, 1) := by decide +kernel
theorem dX13_read_90 : decode cX13_read 90 = .ok (.getfield 20, 3) := by decide +kernel
theorem dX13_read_93 : decode cX13_read 93 = .ok (.aload_n 0, 1) := by decide +kernel
theorem dX13_read_94 : decode cX13_read 94 = .ok (.getfield 113, 3) := by decide +kernel
theorem dX13_read_97 : decode cX13_read 97 = .ok (.iaload, 1) := by decide +kernel
theorem dX13_read_98 : decode cX13_read 98 = .ok (.putfield 13, 3) := by decide +kernel
theorem dX13_read_101 : decode cX13_read 101 = .ok (.iload_n 2, 1) := by decide +kernel
theorem dX13_read_102 : decode cX13_read 102 = .ok (.ireturn, 1) := by decide +kernel
theorem dX13_read_103 : decode cX13_read 103 = .ok (.aload_n 0, 1) := by decide +kernel
theorem dX13_read_104 : decode cX13_read 104 = .ok (.dup, 1) := by decide +kernel
theorem dX13_read_105 : decode cX13_read 105 = .ok (.getfield 113, 3) := by decide +kernel
theorem dX13_read_108 : decode cX13_read 108 = .ok (.iconst 1, 1) := by decide +kernel
theorem dX13_read_109 : decode cX13_read 109 = .ok (.iadd, 1) := by decide +kernel
theorem dX13_read_110 : decode cX13_read 110 = .ok (.putfield 113, 3) := by decide +kernel
theorem dX13_read_113 : decode cX13_read 113 = .ok (.goto (-49), 3) := by decide +kernel
theorem dX13_read_116 : decode cX13_read 116 = .ok (.iconst 0, 1) := by decide +kernel
theorem dX13_read_117 : decode cX13_read 117 = .ok (.istore_n 2, 1) := by decide +kernel
theorem dX13_read_118 : decode cX13_read 118 = .ok (.iload_n 2, 1) := by decide +kernel
theorem dX13_read_119 : decode cX13_read 119 = .ok (.aload_n 0, 1) := by decide +kernel
theorem dX13_read_120 : decode cX13_read 120 = .ok (.getfield 39, 3) := by decide +kernel
theorem dX13_read_123 : decode cX13_read 123 = .ok (.getfield 130, 3) := by decide +kernel
theorem dX13_read_126 : decode cX13_read 126 = .ok (.if_icmp .ge 48, 3) := by decide +kernel
theorem dX13_read_129 : decode cX13_read 129 = .ok (.aload_n 0, 1) := by decide +kernel
theorem dX13_read_130 : decode cX13_read 130 = .ok (.getfield 39, 3) := by decide +kernel
theorem dX13_read_133 : decode cX13_read 133 = .ok (.getfield 122, 3) := by decide +kernel
theorem dX13_read_136 : decode cX13_read 136 = .ok (.aload_n 0, 1) := by decide +kernel
theorem dX13_read_137 : decode cX13_read 137 = .ok (.getfield 39, 3) := by decide +kernel
theorem dX13_read_140 : decode cX13_read 140 = .ok (.getfield 127, 3) := by decide +kernel
theorem dX13_read_143 : decode cX13_read 143 = .ok (.iload_n 2, 1) := by decide +kernel
theorem dX13_read_144 : decode cX13_read 144 = .ok (.iaload, 1) := by decide +kernel
theorem dX13_read_145 : decode cX13_read 145 = .ok (.aload_n 0, 1) := by decide +kernel
theorem dX13_read_146 : decode cX13_read 146 = .ok (.getfield 29, 3) := by decide +kernel
theorem dX13_read_149 : decode cX13_read 149 = .ok (.aload_n 0, 1) := by decide +kernel
theorem dX13_read_150 : decode cX13_read 150 = .ok (.getfield 39, 3) := by decide +kernel
theorem dX13_read_153 : decode cX13_read 153 = .ok (.getfield 122, 3) := by decide +kernel
theorem dX13_read_156 : decode cX13_read 156 = .ok (.aload_n 0, 1) := by decide +kernel
theorem dX13_read_157 : decode cX13_read 157 = .ok (.getfield 39, 3) := by decide +kernel
theorem dX13_read_160 : decode cX13_read 160 = .ok (.getfield 127, 3) := by decide +kernel
theorem dX13_read_163 : decode cX13_read 163 = .ok (.iload_n 2, 1) := by decide +kernel
theorem dX13_read_164 : decode cX13_read 164 = .ok (.iaload, 1) := by decide +kernel
theorem dX13_read_165 : decode cX13_read 165 = .ok (.iaload, 1) := by decide +kernel
theorem dX13_read_166 : decode cX13_read 166 = .ok (.iaload, 1) := by decide +kernel
theorem dX13_read_167 : decode cX13_read 167 = .ok (.iastore, 1) := by decide +kernel
theorem dX13_read_168 : decode cX13_read 168 = .ok (.iinc 2 1, 3) := by decide +kernel
theorem dX13_read_171 : decode cX13_read 171 = .ok (.goto (-53), 3) := by decide +kernel
theorem dX13_read_174 : decode cX13_read 174 = .ok (.iconst 0, 1) := by decide +kernel
theorem dX13_read_175 : decode cX13_read 175 = .ok (.istore_n 2, 1) := by decide +kernel
theorem dX13_read_176 : decode cX13_read 176 = .ok (.iload_n 2, 1) := by decide +kernel
theorem dX13_read_177 : decode cX13_read 177 = .ok (.aload_n 0, 1) := by decide +kernel
theorem dX13_read_178 : decode cX13_read 178 = .ok (.getfield 39, 3) := by decide +kernel
theorem dX13_read_181 : decode cX13_read 181 = .ok (.getfield 155, 3) := by decide +kernel
theorem dX13_read_184 : decode cX13_read 184 = .ok (.if_icmp .ge 32, 3) := by decide +kernel
theorem dX13_read_187 : decode cX13_read 187 = .ok (.aload_n 0, 1) := by decide +kernel
theorem dX13_read_188 : decode cX13_read 188 = .ok (.getfield 39, 3) := by decide +kernel
theorem dX13_read_191 : decode cX13_read 191 = .ok (.getfield 170, 3) := by decide +kernel
theorem dX13_read_194 : decode cX13_read 194 = .ok (.iload_n 2, 1) := by decide +kernel
theorem dX13_read_195 : decode cX13_read 195 = .ok (.aload_n 0, 1) := by decide +kernel
theorem dX13_read_196 : decode cX13_read 196 = .ok (.getfield 29, 3) := by decide +kernel
theorem dX13_read_199 : decode cX13_read 199 = .ok (.aload_n 0, 1) := by decide +kernel
theorem dX13_read_200 : decode cX13_read 200 = .ok (.getfield 39, 3) := by decide +kernel
theorem dX13_read_203 : decode cX13_read 203 = .ok (.getfield 170, 3) := by decide +kernel
theorem dX13_read_206 : decode cX13_read 206 = .ok (.iload_n 2, 1) := by decide +kernel
