theorem dX12_leafOf_167 : decode cX12_leafOf 167 = .ok (.goto (-121), 3) := by decide +kernel
theorem dX12_leafOf_170 : decode cX12_leafOf 170 = .ok (.aload_n 0, 1) := by decide +kernel
theorem dX12_leafOf_171 : decode cX12_leafOf 171 = .ok (.bipush 59, 2) := by decide +kernel
theorem dX12_leafOf_173 : decode cX12_leafOf 173 = .ok (.invokevirtual 291, 3) := by decide +kernel
theorem dX12_leafOf_176 : decode cX12_leafOf 176 = .ok (.iload_n 3, 1) := by decide +kernel
theorem dX12_leafOf_177 : decode cX12_leafOf 177 = .ok (.iload 5, 2) := by decide +kernel
theorem dX12_leafOf_179 : decode cX12_leafOf 179 = .ok (.ior, 1) := by decide +kernel
theorem dX12_leafOf_180 : decode cX12_leafOf 180 = .ok (.istore_n 3, 1) := by decide +kernel
theorem dX12_leafOf_181 : decode cX12_leafOf 181 = .ok (.iload 4, 2) := by decide +kernel
theorem dX12_leafOf_183 : decode cX12_leafOf 183 = .ok (.iload 6, 2) := by decide +kernel
theorem dX12_leafOf_185 : decode cX12_leafOf 185 = .ok (.iadd, 1) := by decide +kernel
theorem dX12_leafOf_186 : decode cX12_leafOf 186 = .ok (.istore 4, 2) := by decide +kernel
theorem dX12_leafOf_188 : decode cX12_leafOf 188 = .ok (.goto (-183), 3) := by decide +kernel
theorem dX12_leafOf_191 : decode cX12_leafOf 191 = .ok (.aload_n 0, 1) := by decide +kernel
theorem dX12_leafOf_192 : decode cX12_leafOf 192 = .ok (.invokevirtual 269, 3) := by decide +kernel
theorem dX12_leafOf_195 : decode cX12_leafOf 195 = .ok (.ifCond .eq 26, 3) := by decide +kernel
theorem dX12_leafOf_198 : decode cX12_leafOf 198 = .ok (.iload 4, 2) := by decide +kernel
theorem dX12_leafOf_200 : decode cX12_leafOf 200 = .ok (.aload_n 0, 1) := by decide +kernel
theorem dX12_leafOf_201 : decode cX12_leafOf 201 = .ok (.iload_n 1, 1) := by decide +kernel
theorem dX12_leafOf_202 : decode cX12_leafOf 202 = .ok (.iload_n 3, 1) := by decide +kernel
theorem dX12_leafOf_203 : decode cX12_leafOf 203 = .ok (.iconst (-1), 1) := by decide +kernel
theorem dX12_leafOf_204 : decode cX12_leafOf 204 = .ok (.ixor, 1) := by decide +kernel
theorem dX12_leafOf_205 : decode cX12_leafOf 205 = .ok (.iand, 1) := by decide +kernel
theorem dX12_leafOf_206 : decode cX12_leafOf 206 = .ok (.invokevirtual 195, 3) := by decide +kernel
theorem dX12_leafOf_209 : decode cX12_leafOf 209 = .ok (.iadd, 1) := by decide +kernel
theorem dX12_leafOf_210 : decode cX12_leafOf 210 = .ok (.aload_n 0, 1) := by decide +kernel
theorem dX12_leafOf_211 : decode cX12_leafOf 211 = .ok (.getfield 294, 3) := by decide +kernel
theorem dX12_leafOf_214 : decode cX12_leafOf 214 = .ok (.if_icmp .le 7, 3) := by decide +kernel
theorem dX12_leafOf_217 : decode cX12_leafOf 217 = .ok (.aload_n 0, 1) := by decide +kernel
theorem dX12_leafOf_218 : decode cX12_leafOf 218 = .ok (.invokevirtual 279, 3) := by decide +kernel
theorem dX12_leafOf_221 : decode cX12_leafOf 221 = .ok (.aload_n 0, 1) := by decide +kernel
theorem dX12_leafOf_222 : decode cX12_leafOf 222 = .ok (.bipush 93, 2) := by decide +kernel
theorem dX12_leafOf_224 : decode cX12_leafOf 224 = .ok (.invokevirtual 291, 3) := by decide +kernel
theorem dX12_leafOf_227 : decode cX12_leafOf 227 = .ok (.return_, 1) := by decide +kernel
theorem dX12_check_0 : decode cX12_check 0 = .ok (.aload_n 0, 1) := by decide +kernel
theorem dX12_check_1 : decode cX12_check 1 = .ok (.aload_n 0, 1) := by decide +kernel
theorem dX12_check_2 : decode cX12_check 2 = .ok (.getfield 251, 3) := by decide +kernel
theorem dX12_check_5 : decode cX12_check 5 = .ok (.putfield 254, 3) := by decide +kernel
theorem dX12_check_8 : decode cX12_check 8 = .ok (.aload_n 0, 1) := by decide +kernel
theorem dX12_check_9 : decode cX12_check 9 = .ok (.iconst 0, 1) := by decide +kernel
theorem dX12_check_10 : decode cX12_check 10 = .ok (.putfield 251, 3) := by decide +kernel
theorem dX12_check_13 : decode cX12_check 13 = .ok (.aload_n 0, 1) := by decide +kernel
theorem dX12_check_14 : decode cX12_check 14 = .ok (.iload_n 1, 1) := by decide +kernel
theorem dX12_check_15 : decode cX12_check 15 = .ok (.invokevirtual 113, 3) := by decide +kernel
theorem dX12_check_18 : decode cX12_check 18 = .ok (.ifCond .eq 10, 3) := by decide +kernel
theorem dX12_check_21 : decode cX12_check 21 = .ok (.iload_n 2, 1) := by decide +kernel
theorem dX12_check_22 : decode cX12_check 22 = .ok (.invokestatic 109, 3) := by decide +kernel
theorem dX12_check_25 : decode cX12_check 25 = .ok (.ifCond .ne 5, 3) := by decide +kernel
theorem dX12_check_28 : decode cX12_check 28 = .ok (.iconst (-1), 1) := by decide +kernel
theorem dX12_check_29 : decode cX12_check 29 = .ok (.ireturn, 1) := by decide +kernel
theorem dX12_check_30 : decode cX12_check 30 = .ok (.iconst 0, 1) := by decide +kernel
theorem dX12_check_31 : decode cX12_check 31 = .ok (.istore 4, 2) := by decide +kernel
theorem dX12_check_33 : decode cX12_check 33 = .ok (.iload 4, 2) := by decide +kernel
theorem dX12_check_35 : decode cX12_check 35 = .ok (.aload_n 0, 1) := by decide +kernel
theorem dX12_check_36 : decode cX12_check 36 = .ok (.getfield 254, 3) := by decide +kernel
theorem dX12_check_39 : decode cX12_check 39 = .ok (.if_icmp .ge 23, 3) := by decide +kernel
theorem dX12_check_42 : decode cX12_check 42 = .ok (.aload_n 0, 1) := by decide +kernel
theorem dX12_check_43 : decode cX12_check 43 = .ok (.getfield 62, 3) := by decide +kernel
theorem dX12_check_46 : decode cX12_check 46 = .ok (.iload 4, 2) := by decide +kernel
theorem dX12_check_48 : decode cX12_check 48 = .ok (.aload_n 0, 1) := by decide +kernel
theorem dX12_check_49 : decode cX12_check 49 = .ok (.getfield 59, 3) := by decide +kernel
theorem dX12_check_52 : decode cX12_check 52 = .ok (.iload 4, 2) := by decide +kernel
theorem dX12_check_54 : decode cX12_check 54 = .ok (.baload, 1) := by decide +kernel
theorem dX12_check_55 : decode cX12_check 55 = .ok (.bastore, 1) := by decide +kernel
theorem dX12_check_56 : decode cX12_check 56 = .ok (.iinc 4 1, 3) := by decide +kernel
theorem dX12_check_59 : decode cX12_check 59 = .ok (.goto (-26), 3) := by decide +kernel
theorem dX12_check_62 : decode cX12_check 62 = .ok (.aload_n 0, 1) := by decide +kernel
theorem dX12_check_63 : decode cX12_check 63 = .ok (.iload_n 1, 1) := by decide +kernel
theorem dX12_check_64 : decode cX12_check 64 = .ok (.iload_n 2, 1) := by decide +kernel
theorem dX12_check_65 : decode cX12_check 65 = .ok (.invokevirtual 214, 3) := by decide +kernel
theorem dX12_check_68 : decode cX12_check 68 = .ok (.istore 4, 2) := by decide +kernel
theorem dX12_check_70 : decode cX12_check 70 = .ok (.aload_n 0, 1) := by decide +kernel
theorem dX12_check_71 : decode cX12_check 71 = .ok (.iload_n 3, 1) := by decide +kernel
theorem dX12_check_72 : decode cX12_check 72 = .ok (.putfield 294, 3) := by decide +kernel
theorem dX12_check_75 : decode cX12_check 75 = .ok (.aload_n 0, 1) := by decide +kernel
theorem dX12_check_76 : decode cX12_check 76 = .ok (.iconst (-1), 1) := by decide +kernel
theorem dX12_check_77 : decode cX12_check 77 = .ok (.putfield 266, 3) := by decide +kernel
theorem dX12_check_80 : decode cX12_check 80 = .ok (.aload_n 0, 1) := by decide +kernel
theorem dX12_check_81 : decode cX12_check 81 = .ok (.iconst 0, 1) := by decide +kernel
theorem dX12_check_82 : decode cX12_check 82 = .ok (.putfield 257, 3) := by decide +kernel
theorem dX12_check_85 : decode cX12_check 85 = .ok (.aload_n 0, 1) := by decide +kernel
theorem dX12_check_86 : decode cX12_check 86 = .ok (.invokevirtual 273, 3) := by decide +kernel
theorem dX12_check_89 : decode cX12_check 89 = .ok (.aload_n 0, 1) := by decide +kernel
theorem dX12_check_90 : decode cX12_check 90 = .ok (.iload 4, 2) := by decide +kernel
theorem dX12_check_92 : decode cX12_check 92 = .ok (.iconst 0, 1) := by decide +kernel
theorem dX12_check_93 : decode cX12_check 93 = .ok (.iconst 0, 1) := by decide +kernel
theorem dX12_check_94 : decode cX12_check 94 = .ok (.invokevirtual 288, 3) := by decide +kernel
theorem dX12_check_97 : decode cX12_check 97 = .ok (.aload_n 0, 1) := by decide +kernel
theorem dX12_check_98 : decode cX12_check 98 = .ok (.invokevirtual 269, 3) := by decide +kernel
theorem dX12_check_101 : decode cX12_check 101 = .ok (.ifCond .eq 18, 3) := by decide +kernel
theorem dX12_check_104 : decode cX12_check 104 = .ok (.aload_n 0, 1) := by decide +kernel
theorem dX12_check_105 : decode cX12_check 105 = .ok (.getfield 260, 3) := by decide +kernel
theorem dX12_check_108 : decode cX12_check 108 = .ok (.aload_n 0, 1) := by decide +kernel
theorem dX12_check_109 : decode cX12_check 109 = .ok (.getfield 254, 3) := by decide +kernel
theorem dX12_check_112 : decode cX12_check 112 = .ok (.if_icmp .ge 7, 3) := by decide +kernel
theorem dX12_check_115 : decode cX12_check 115 = .ok (.aload_n 0, 1) := by decide +kernel
theorem dX12_check_116 : decode cX12_check 116 = .ok (.invokevirtual 279, 3) := by decide +kernel
theorem dX12_check_119 : decode cX12_check 119 = .ok (.aload_n 0, 1) := by decide +kernel
theorem dX12_check_120 : decode cX12_check 120 = .ok (.aload_n 0, 1) := by decide +kernel
theorem dX12_check_121 : decode cX12_check 121 = .ok (.getfield 266, 3) := by decide +kernel
theorem dX12_check_124 : decode cX12_check 124 = .ok (.putfield 68, 3) := by decide +kernel
theorem dX12_check_127 : decode cX12_check 127 = .ok (.aload_n 0, 1) := by decide +kernel
theorem dX12_check_128 : decode cX12_check 128 = .ok (.invokevirtual 269, 3) := by decide +kernel
theorem dX12_check_131 : decode cX12_check 131 = .ok (.ifCond .eq 7, 3) := by decide +kernel
theorem dX12_check_134 : decode cX12_check 134 = .ok (.iconst 1, 1) := by decide +kernel
theorem dX12_check_135 : decode cX12_check 135 = .ok (.goto 4, 3) := by decide +kernel
theorem dX12_check_138 : decode cX12_check 138 = .ok (.iconst 0, 1) := by decide +kernel
theorem dX12_check_139 : decode cX12_check 139 = .ok (.ireturn, 1) := by decide +kernel
theorem dX12_fault_0 : decode cX12_fault 0 = .ok (.aload_n 0, 1) := by decide +kernel
theorem dX12_fault_1 : decode cX12_fault 1 = .ok (.getfield 68, 3) := by decide +kernel
theorem dX12_fault_4 : decode cX12_fault 4 = .ok (.ireturn, 1) := by decide +kernel
theorem dX12_lays_0 : decode cX12_lays 0 = .ok (.iconst 0, 1) := by decide +kernel
theorem dX12_lays_1 : decode cX12_lays 1 = .ok (.istore_n 3, 1) := by decide +kernel
theorem dX12_lays_2 : decode cX12_lays 2 = .ok (.iload_n 3, 1) := by decide +kernel
theorem dX12_lays_3 : decode cX12_lays 3 = .ok (.bipush 120, 2) := by decide +kernel
theorem dX12_lays_5 : decode cX12_lays 5 = .ok (.if_icmp .ge 67, 3) := by decide +kernel
theorem dX12_lays_8 : decode cX12_lays 8 = .ok (.aload_n 0, 1) := by decide +kernel
theorem dX12_lays_9 : decode cX12_lays 9 = .ok (.iload_n 1, 1) := by decide +kernel
theorem dX12_lays_10 : decode cX12_lays 10 = .ok (.iload_n 3, 1) := by decide +kernel
theorem dX12_lays_11 : decode cX12_lays 11 = .ok (.invokevirtual 116, 3) := by decide +kernel
theorem dX12_lays_14 : decode cX12_lays 14 = .ok (.istore 4, 2) := by decide +kernel
theorem dX12_lays_16 : decode cX12_lays 16 = .ok (.iconst 0, 1) := by decide +kernel
theorem dX12_lays_17 : decode cX12_lays 17 = .ok (.istore 5, 2) := by decide +kernel
theorem dX12_lays_19 : decode cX12_lays 19 = .ok (.iload 5, 2) := by decide +kernel
theorem dX12_lays_21 : decode cX12_lays 21 = .ok (.sipush 1001, 3) := by decide +kernel
theorem dX12_lays_24 : decode cX12_lays 24 = .ok (.if_icmp .ge 42, 3) := by decide +kernel
theorem dX12_lays_27 : decode cX12_lays 27 = .ok (.aload_n 0, 1) := by decide +kernel
theorem dX12_lays_28 : decode cX12_lays 28 = .ok (.getfield 72, 3) := by decide +kernel
theorem dX12_lays_31 : decode cX12_lays 31 = .ok (.sipush 1001, 3) := by decide +kernel
theorem dX12_lays_34 : decode cX12_lays 34 = .ok (.iload_n 3, 1) := by decide +kernel
theorem dX12_lays_35 : decode cX12_lays 35 = .ok (.imul, 1) := by decide +kernel
theorem dX12_lays_36 : decode cX12_lays 36 = .ok (.iload 5, 2) := by decide +kernel
theorem dX12_lays_38 : decode cX12_lays 38 = .ok (.iadd, 1) := by decide +kernel
theorem dX12_lays_39 : decode cX12_lays 39 = .ok (.iload 4, 2) := by decide +kernel
theorem dX12_lays_41 : decode cX12_lays 41 = .ok (.iconst (-1), 1) := by decide +kernel
theorem dX12_lays_42 : decode cX12_lays 42 = .ok (.if_icmp .eq 16, 3) := by decide +kernel
theorem dX12_lays_45 : decode cX12_lays 45 = .ok (.iload 5, 2) := by decide +kernel
theorem dX12_lays_47 : decode cX12_lays 47 = .ok (.iload 4, 2) := by decide +kernel
theorem dX12_lays_49 : decode cX12_lays 49 = .ok (.if_icmp .le 9, 3) := by decide +kernel
theorem dX12_lays_52 : decode cX12_lays 52 = .ok (.ldc_w 297, 3) := by decide +kernel
theorem dX12_lays_55 : decode cX12_lays 55 = .ok (.goto 4, 3) := by decide +kernel
theorem dX12_lays_58 : decode cX12_lays 58 = .ok (.iconst 0, 1) := by decide +kernel
theorem dX12_lays_59 : decode cX12_lays 59 = .ok (.iastore, 1) := by decide +kernel
theorem dX12_lays_60 : decode cX12_lays 60 = .ok (.iinc 5 1, 3) := by decide +kernel
theorem dX12_lays_63 : decode cX12_lays 63 = .ok (.goto (-44), 3) := by decide +kernel
theorem dX12_lays_66 : decode cX12_lays 66 = .ok (.iinc 3 1, 3) := by decide +kernel
theorem dX12_lays_69 : decode cX12_lays 69 = .ok (.goto (-67), 3) := by decide +kernel
theorem dX12_lays_72 : decode cX12_lays 72 = .ok (.iconst 0, 1) := by decide +kernel
theorem dX12_lays_73 : decode cX12_lays 73 = .ok (.istore_n 3, 1) := by decide +kernel
theorem dX12_lays_74 : decode cX12_lays 74 = .ok (.iload_n 3, 1) := by decide +kernel
theorem dX12_lays_75 : decode cX12_lays 75 = .ok (.aload_n 0, 1) := by decide +kernel
theorem dX12_lays_76 : decode cX12_lays 76 = .ok (.iconst 3, 1) := by decide +kernel
theorem dX12_lays_77 : decode cX12_lays 77 = .ok (.invokevirtual 102, 3) := by decide +kernel
theorem dX12_lays_80 : decode cX12_lays 80 = .ok (.if_icmp .ge 129, 3) := by decide +kernel
theorem dX12_lays_83 : decode cX12_lays 83 = .ok (.iload_n 2, 1) := by decide +kernel
theorem dX12_lays_84 : decode cX12_lays 84 = .ok (.iload_n 3, 1) := by decide +kernel
theorem dX12_lays_85 : decode cX12_lays 85 = .ok (.ishr, 1) := by decide +kernel
theorem dX12_lays_86 : decode cX12_lays 86 = .ok (.iconst 1, 1) := by decide +kernel
theorem dX12_lays_87 : decode cX12_lays 87 = .ok (.iand, 1) := by decide +kernel
theorem dX12_lays_88 : decode cX12_lays 88 = .ok (.ifCond .ne 6, 3) := by decide +kernel
theorem dX12_lays_91 : decode cX12_lays 91 = .ok (.goto 112, 3) := by decide +kernel
theorem dX12_lays_94 : decode cX12_lays 94 = .ok (.aload_n 0, 1) := by decide +kernel
theorem dX12_lays_95 : decode cX12_lays 95 = .ok (.iload_n 3, 1) := by decide +kernel
theorem dX12_lays_96 : decode cX12_lays 96 = .ok (.iconst 0, 1) := by decide +kernel
theorem dX12_lays_97 : decode cX12_lays 97 = .ok (.invokevirtual 157, 3) := by decide +kernel
theorem dX12_lays_100 : decode cX12_lays 100 = .ok (.istore 4, 2) := by decide +kernel
theorem dX12_lays_102 : decode cX12_lays 102 = .ok (.aload_n 0, 1) := by decide +kernel
theorem dX12_lays_103 : decode cX12_lays 103 = .ok (.iload_n 3, 1) := by decide +kernel
theorem dX12_lays_104 : decode cX12_lays 104 = .ok (.iconst 1, 1) := by decide +kernel
theorem dX12_lays_105 : decode cX12_lays 105 = .ok (.invokevirtual 157, 3) := by decide +kernel
theorem dX12_lays_108 : decode cX12_lays 108 = .ok (.istore 5, 2) := by decide +kernel
theorem dX12_lays_110 : decode cX12_lays 110 = .ok (.iconst 0, 1) := by decide +kernel
theorem dX12_lays_111 : decode cX12_lays 111 = .ok (.istore 6, 2) := by decide +kernel
theorem dX12_lays_113 : decode cX12_lays 113 = .ok (.iload 6, 2) := by decide +kernel
theorem dX12_lays_115 : decode cX12_lays 115 = .ok (.sipush 1001, 3) := by decide +kernel
theorem dX12_lays_118 : decode cX12_lays 118 = .ok (.if_icmp .ge 85, 3) := by decide +kernel
theorem dX12_lays_121 : decode cX12_lays 121 = .ok (.sipush 1001, 3) := by decide +kernel
theorem dX12_lays_124 : decode cX12_lays 124 = .ok (.aload_n 0, 1) := by decide +kernel
theorem dX12_lays_125 : decode cX12_lays 125 = .ok (.iload_n 3, 1) := by decide +kernel
theorem dX12_lays_126 : decode cX12_lays 126 = .ok (.iconst 1, 1) := by decide +kernel
theorem dX12_lays_127 : decode cX12_lays 127 = .ok (.invokevirtual 151, 3) := by decide +kernel
theorem dX12_lays_130 : decode cX12_lays 130 = .ok (.imul, 1) := by decide +kernel
theorem dX12_lays_131 : decode cX12_lays 131 = .ok (.iload 6, 2) := by decide +kernel
theorem dX12_lays_133 : decode cX12_lays 133 = .ok (.iadd, 1) := by decide +kernel
theorem dX12_lays_134 : decode cX12_lays 134 = .ok (.istore 7, 2) := by decide +kernel
theorem dX12_lays_136 : decode cX12_lays 136 = .ok (.aload_n 0, 1) := by decide +kernel
theorem dX12_lays_137 : decode cX12_lays 137 = .ok (.getfield 72, 3) := by decide +kernel
theorem dX12_lays_140 : decode cX12_lays 140 = .ok (.iload 7, 2) := by decide +kernel
theorem dX12_lays_142 : decode cX12_lays 142 = .ok (.iaload, 1) := by decide +kernel
theorem dX12_lays_143 : decode cX12_lays 143 = .ok (.ldc_w 297, 3) := by decide +kernel
theorem dX12_lays_146 : decode cX12_lays 146 = .ok (.if_icmp .ge 51, 3) := by decide +kernel
theorem dX12_lays_149 : decode cX12_lays 149 = .ok (.aload_n 0, 1) := by decide +kernel
theorem dX12_lays_150 : decode cX12_lays 150 = .ok (.getfield 72, 3) := by decide +kernel
theorem dX12_lays_153 : decode cX12_lays 153 = .ok (.iload 7, 2) := by decide +kernel
theorem dX12_lays_155 : decode cX12_lays 155 = .ok (.dup2, 1) := by decide +kernel
theorem dX12_lays_156 : decode cX12_lays 156 = .ok (.iaload, 1) := by decide +kernel
theorem dX12_lays_157 : decode cX12_lays 157 = .ok (.aload_n 0, 1) := by decide +kernel
theorem dX12_lays_158 : decode cX12_lays 158 = .ok (.iload_n 3, 1) := by decide +kernel
theorem dX12_lays_159 : decode cX12_lays 159 = .ok (.iconst 4, 1) := by decide +kernel
theorem dX12_lays_160 : decode cX12_lays 160 = .ok (.invokevirtual 151, 3) := by decide +kernel
theorem dX12_lays_163 : decode cX12_lays 163 = .ok (.iload 6, 2) := by decide +kernel
theorem dX12_lays_165 : decode cX12_lays 165 = .ok (.iload 4, 2) := by decide +kernel
theorem dX12_lays_167 : decode cX12_lays 167 = .ok (.if_icmp .ge 11, 3) := by decide +kernel
theorem dX12_lays_170 : decode cX12_lays 170 = .ok (.iload 4, 2) := by decide +kernel
theorem dX12_lays_172 : decode cX12_lays 172 = .ok (.iload 6, 2) := by decide +kernel
theorem dX12_lays_174 : decode cX12_lays 174 = .ok (.isub, 1) := by decide +kernel
theorem dX12_lays_175 : decode cX12_lays 175 = .ok (.goto 19, 3) := by decide +kernel
theorem dX12_lays_178 : decode cX12_lays 178 = .ok (.iload 6, 2) := by decide +kernel
theorem dX12_lays_180 : decode cX12_lays 180 = .ok (.iload 5, 2) := by decide +kernel
theorem dX12_lays_182 : decode cX12_lays 182 = .ok (.if_icmp .le 11, 3) := by decide +kernel
theorem dX12_lays_185 : decode cX12_lays 185 = .ok (.iload 6, 2) := by decide +kernel
theorem dX12_lays_187 : decode cX12_lays 187 = .ok (.iload 5, 2) := by decide +kernel
theorem dX12_lays_189 : decode cX12_lays 189 = .ok (.isub, 1) := by decide +kernel
theorem dX12_lays_190 : decode cX12_lays 190 = .ok (.goto 4, 3) := by decide +kernel
theorem dX12_lays_193 : decode cX12_lays 193 = .ok (.iconst 0, 1) := by decide +kernel
theorem dX12_lays_194 : decode cX12_lays 194 = .ok (.imul, 1) := by decide +kernel
theorem dX12_lays_195 : decode cX12_lays 195 = .ok (.iadd, 1) := by decide +kernel
theorem dX12_lays_196 : decode cX12_lays 196 = .ok (.iastore, 1) := by decide +kernel
theorem dX12_lays_197 : decode cX12_lays 197 = .ok (.iinc 6 1, 3) := by decide +kernel
theorem dX12_lays_200 : decode cX12_lays 200 = .ok (.goto (-87), 3) := by decide +kernel
theorem dX12_lays_203 : decode cX12_lays 203 = .ok (.iinc 3 1, 3) := by decide +kernel
theorem dX12_lays_206 : decode cX12_lays 206 = .ok (.goto (-132), 3) := by decide +kernel
theorem dX12_lays_209 : decode cX12_lays 209 = .ok (.return_, 1) := by decide +kernel
theorem dX12_slides_0 : decode cX12_slides 0 = .ok (.iconst 0, 1) := by decide +kernel
theorem dX12_slides_1 : decode cX12_slides 1 = .ok (.istore 4, 2) := by decide +kernel
theorem dX12_slides_3 : decode cX12_slides 3 = .ok (.iconst 0, 1) := by decide +kernel
theorem dX12_slides_4 : decode cX12_slides 4 = .ok (.istore 5, 2) := by decide +kernel
theorem dX12_slides_6 : decode cX12_slides 6 = .ok (.iconst 0, 1) := by decide +kernel
theorem dX12_slides_7 : decode cX12_slides 7 = .ok (.istore 6, 2) := by decide +kernel
theorem dX12_slides_9 : decode cX12_slides 9 = .ok (.iconst 0, 1) := by decide +kernel
theorem dX12_slides_10 : decode cX12_slides 10 = .ok (.istore 7, 2) := by decide +kernel
theorem dX12_slides_12 : decode cX12_slides 12 = .ok (.iload 7, 2) := by decide +kernel
theorem dX12_slides_14 : decode cX12_slides 14 = .ok (.sipush 1001, 3) := by decide +kernel
theorem dX12_slides_17 : decode cX12_slides 17 = .ok (.if_icmp .ge 140, 3) := by decide +kernel
theorem dX12_slides_20 : decode cX12_slides 20 = .ok (.iload 6, 2) := by decide +kernel
theorem dX12_slides_22 : decode cX12_slides 22 = .ok (.sipush 1001, 3) := by decide +kernel
theorem dX12_slides_25 : decode cX12_slides 25 = .ok (.if_icmp .ge 67, 3) := by decide +kernel
theorem dX12_slides_28 : decode cX12_slides 28 = .ok (.iload 6, 2) := by decide +kernel
theorem dX12_slides_30 : decode cX12_slides 30 = .ok (.iload 7, 2) := by decide +kernel
theorem dX12_slides_32 : decode cX12_slides 32 = .ok (.iload_n 3, 1) := by decide +kernel
theorem dX12_slides_33 : decode cX12_slides 33 = .ok (.iadd, 1) := by decide +kernel
theorem dX12_slides_34 : decode cX12_slides 34 = .ok (.if_icmp .gt 58, 3) := by decide +kernel
theorem dX12_slides_37 : decode cX12_slides 37 = .ok (.iload 5, 2) := by decide +kernel
theorem dX12_slides_39 : decode cX12_slides 39 = .ok (.iload 4, 2) := by decide +kernel
theorem dX12_slides_41 : decode cX12_slides 41 = .ok (.if_icmp .le 33, 3) := by decide +kernel
theorem dX12_slides_44 : decode cX12_slides 44 = .ok (.aload_n 0, 1) := by decide +kernel
theorem dX12_slides_45 : decode cX12_slides 45 = .ok (.iload_n 1, 1) := by decide +kernel
theorem dX12_slides_46 : decode cX12_slides 46 = .ok (.aload_n 0, 1) := by decide +kernel
theorem dX12_slides_47 : decode cX12_slides 47 = .ok (.getfield 81, 3) := by decide +kernel
theorem dX12_slides_50 : decode cX12_slides 50 = .ok (.iload 5, 2) := by decide +kernel
theorem dX12_slides_52 : decode cX12_slides 52 = .ok (.iconst 1, 1) := by decide +kernel
theorem dX12_slides_53 : decode cX12_slides 53 = .ok (.isub, 1) := by decide +kernel
theorem dX12_slides_54 : decode cX12_slides 54 = .ok (.iaload, 1) := by decide +kernel
theorem dX12_slides_55 : decode cX12_slides 55 = .ok (.invokevirtual 298, 3) := by decide +kernel
theorem dX12_slides_58 : decode cX12_slides 58 = .ok (.aload_n 0, 1) := by decide +kernel
theorem dX12_slides_59 : decode cX12_slides 59 = .ok (.iload_n 1, 1) := by decide +kernel
theorem dX12_slides_60 : decode cX12_slides 60 = .ok (.iload 6, 2) := by decide +kernel
theorem dX12_slides_62 : decode cX12_slides 62 = .ok (.invokevirtual 298, 3) := by decide +kernel
theorem dX12_slides_65 : decode cX12_slides 65 = .ok (.if_icmp .lt 9, 3) := by decide +kernel
theorem dX12_slides_68 : decode cX12_slides 68 = .ok (.iinc 5 (-1), 3) := by decide +kernel
theorem dX12_slides_71 : decode cX12_slides 71 = .ok (.goto (-34), 3) := by decide +kernel
theorem dX12_slides_74 : decode cX12_slides 74 = .ok (.aload_n 0, 1) := by decide +kernel
theorem dX12_slides_75 : decode cX12_slides 75 = .ok (.getfield 81, 3) := by decide +kernel
theorem dX12_slides_78 : decode cX12_slides 78 = .ok (.iload 5, 2) := by decide +kernel
theorem dX12_slides_80 : decode cX12_slides 80 = .ok (.iload 6, 2) := by decide +kernel
theorem dX12_slides_82 : decode cX12_slides 82 = .ok (.iastore, 1) := by decide +kernel
theorem dX12_slides_83 : decode cX12_slides 83 = .ok (.iinc 5 1, 3) := by decide +kernel
theorem dX12_slides_86 : decode cX12_slides 86 = .ok (.iinc 6 1, 3) := by decide +kernel
theorem dX12_slides_89 : decode cX12_slides 89 = .ok (.goto (-69), 3) := by decide +kernel
theorem dX12_slides_92 : decode cX12_slides 92 = .ok (.iload 4, 2) := by decide +kernel
theorem dX12_slides_94 : decode cX12_slides 94 = .ok (.iload 5, 2) := by decide +kernel
theorem dX12_slides_96 : decode cX12_slides 96 = .ok (.if_icmp .ge 23, 3) := by decide +kernel
theorem dX12_slides_99 : decode cX12_slides 99 = .ok (.aload_n 0, 1) := by decide +kernel
theorem dX12_slides_100 : decode cX12_slides 100 = .ok (.getfield 81, 3) := by decide +kernel
theorem dX12_slides_103 : decode cX12_slides 103 = .ok (.iload 4, 2) := by decide +kernel
theorem dX12_slides_105 : decode cX12_slides 105 = .ok (.iaload, 1) := by decide +kernel
theorem dX12_slides_106 : decode cX12_slides 106 = .ok (.iload 7, 2) := by decide +kernel
theorem dX12_slides_108 : decode cX12_slides 108 = .ok (.iload_n 2, 1) := by decide +kernel
theorem dX12_slides_109 : decode cX12_slides 109 = .ok (.iadd, 1) := by decide +kernel
theorem dX12_slides_110 : decode cX12_slides 110 = .ok (.if_icmp .ge 9, 3) := by decide +kernel
theorem dX12_slides_113 : decode cX12_slides 113 = .ok (.iinc 4 1, 3) := by decide +kernel
theorem dX12_slides_116 : decode cX12_slides 116 = .ok (.goto (-24), 3) := by decide +kernel
theorem dX12_slides_119 : decode cX12_slides 119 = .ok (.aload_n 0, 1) := by decide +kernel
theorem dX12_slides_120 : decode cX12_slides 120 = .ok (.getfield 78, 3) := by decide +kernel
theorem dX12_slides_123 : decode cX12_slides 123 = .ok (.iload 7, 2) := by decide +kernel
theorem dX12_slides_125 : decode cX12_slides 125 = .ok (.iload 4, 2) := by decide +kernel
theorem dX12_slides_127 : decode cX12_slides 127 = .ok (.iload 5, 2) := by decide +kernel
theorem dX12_slides_129 : decode cX12_slides 129 = .ok (.if_icmp .ge 18, 3) := by decide +kernel
theorem dX12_slides_132 : decode cX12_slides 132 = .ok (.aload_n 0, 1) := by decide +kernel
theorem dX12_slides_133 : decode cX12_slides 133 = .ok (.iload_n 1, 1) := by decide +kernel
theorem dX12_slides_134 : decode cX12_slides 134 = .ok (.aload_n 0, 1) := by decide +kernel
theorem dX12_slides_135 : decode cX12_slides 135 = .ok (.getfield 81, 3) := by decide +kernel
theorem dX12_slides_138 : decode cX12_slides 138 = .ok (.iload 4, 2) := by decide +kernel
theorem dX12_slides_140 : decode cX12_slides 140 = .ok (.iaload, 1) := by decide +kernel
theorem dX12_slides_141 : decode cX12_slides 141 = .ok (.invokevirtual 298, 3) := by decide +kernel
theorem dX12_slides_144 : decode cX12_slides 144 = .ok (.goto 6, 3) := by decide +kernel
theorem dX12_slides_147 : decode cX12_slides 147 = .ok (.ldc_w 297, 3) := by decide +kernel
theorem dX12_slides_150 : decode cX12_slides 150 = .ok (.iastore, 1) := by decide +kernel
theorem dX12_slides_151 : decode cX12_slides 151 = .ok (.iinc 7 1, 3) := by decide +kernel
theorem dX12_slides_154 : decode cX12_slides 154 = .ok (.goto (-142), 3) := by decide +kernel
theorem dX12_slides_157 : decode cX12_slides 157 = .ok (.return_, 1) := by decide +kernel
theorem dX12_behind0_0 : decode cX12_behind0 0 = .ok (.iload_n 1, 1) := by decide +kernel
theorem dX12_behind0_1 : decode cX12_behind0 1 = .ok (.ifCond .ge 12, 3) := by decide +kernel
theorem dX12_behind0_4 : decode cX12_behind0 4 = .ok (.aload_n 0, 1) := by decide +kernel
theorem dX12_behind0_5 : decode cX12_behind0 5 = .ok (.getfield 90, 3) := by decide +kernel
theorem dX12_behind0_8 : decode cX12_behind0 8 = .ok (.iload_n 2, 1) := by decide +kernel
theorem dX12_behind0_9 : decode cX12_behind0 9 = .ok (.iaload, 1) := by decide +kernel
theorem dX12_behind0_10 : decode cX12_behind0 10 = .ok (.goto 11, 3) := by decide +kernel
theorem dX12_behind0_13 : decode cX12_behind0 13 = .ok (.aload_n 0, 1) := by decide +kernel
theorem dX12_behind0_14 : decode cX12_behind0 14 = .ok (.getfield 75, 3) := by decide +kernel
theorem dX12_behind0_17 : decode cX12_behind0 17 = .ok (.iload_n 1, 1) := by decide +kernel
theorem dX12_behind0_18 : decode cX12_behind0 18 = .ok (.iload_n 2, 1) := by decide +kernel
theorem dX12_behind0_19 : decode cX12_behind0 19 = .ok (.iadd, 1) := by decide +kernel
theorem dX12_behind0_20 : decode cX12_behind0 20 = .ok (.iaload, 1) := by decide +kernel
theorem dX12_behind0_21 : decode cX12_behind0 21 = .ok (.ireturn, 1) := by decide +kernel
theorem dX12_adds2_0 : decode cX12_adds2 0 = .ok (.iload_n 0, 1) := by decide +kernel
theorem dX12_adds2_1 : decode cX12_adds2 1 = .ok (.ldc_w 297, 3) := by decide +kernel
theorem dX12_adds2_4 : decode cX12_adds2 4 = .ok (.if_icmp .ge 10, 3) := by decide +kernel
theorem dX12_adds2_7 : decode cX12_adds2 7 = .ok (.iload_n 1, 1) := by decide +kernel
theorem dX12_adds2_8 : decode cX12_adds2 8 = .ok (.ldc_w 297, 3) := by decide +kernel
theorem dX12_adds2_11 : decode cX12_adds2 11 = .ok (.if_icmp .lt 9, 3) := by decide +kernel
theorem dX12_adds2_14 : decode cX12_adds2 14 = .ok (.ldc_w 297, 3) := by decide +kernel
theorem dX12_adds2_17 : decode cX12_adds2 17 = .ok (.goto 6, 3) := by decide +kernel
theorem dX12_adds2_20 : decode cX12_adds2 20 = .ok (.iload_n 0, 1) := by decide +kernel
theorem dX12_adds2_21 : decode cX12_adds2 21 = .ok (.iload_n 1, 1) := by decide +kernel
theorem dX12_adds2_22 : decode cX12_adds2 22 = .ok (.iadd, 1) := by decide +kernel
theorem dX12_adds2_23 : decode cX12_adds2 23 = .ok (.ireturn, 1) := by decide +kernel
theorem dX12_leastOf_0 : decode cX12_leastOf 0 = .ok (.ldc_w 297, 3) := by decide +kernel
theorem dX12_leastOf_3 : decode cX12_leastOf 3 = .ok (.istore_n 2, 1) := by decide +kernel
theorem dX12_leastOf_4 : decode cX12_leastOf 4 = .ok (.iconst 0, 1) := by decide +kernel
theorem dX12_leastOf_5 : decode cX12_leastOf 5 = .ok (.istore_n 3, 1) := by decide +kernel
theorem dX12_leastOf_6 : decode cX12_leastOf 6 = .ok (.iload_n 3, 1) := by decide +kernel
theorem dX12_leastOf_7 : decode cX12_leastOf 7 = .ok (.sipush 1001, 3) := by decide +kernel
theorem dX12_leastOf_10 : decode cX12_leastOf 10 = .ok (.if_icmp .ge 30, 3) := by decide +kernel
theorem dX12_leastOf_13 : decode cX12_leastOf 13 = .ok (.aload_n 0, 1) := by decide +kernel
theorem dX12_leastOf_14 : decode cX12_leastOf 14 = .ok (.iload_n 1, 1) := by decide +kernel
theorem dX12_leastOf_15 : decode cX12_leastOf 15 = .ok (.iload_n 3, 1) := by decide +kernel
theorem dX12_leastOf_16 : decode cX12_leastOf 16 = .ok (.invokevirtual 298, 3) := by decide +kernel
theorem dX12_leastOf_19 : decode cX12_leastOf 19 = .ok (.iload_n 2, 1) := by decide +kernel
theorem dX12_leastOf_20 : decode cX12_leastOf 20 = .ok (.if_icmp .ge 12, 3) := by decide +kernel
theorem dX12_leastOf_23 : decode cX12_leastOf 23 = .ok (.aload_n 0, 1) := by decide +kernel
theorem dX12_leastOf_24 : decode cX12_leastOf 24 = .ok (.iload_n 1, 1) := by decide +kernel
theorem dX12_leastOf_25 : decode cX12_leastOf 25 = .ok (.iload_n 3, 1) := by decide +kernel
theorem dX12_leastOf_26 : decode cX12_leastOf 26 = .ok (.invokevirtual 298, 3) := by decide +kernel
theorem dX12_leastOf_29 : decode cX12_leastOf 29 = .ok (.goto 4, 3) := by decide +kernel
theorem dX12_leastOf_32 : decode cX12_leastOf 32 = .ok (.iload_n 2, 1) := by decide +kernel
theorem dX12_leastOf_33 : decode cX12_leastOf 33 = .ok (.istore_n 2, 1) := by decide +kernel
theorem dX12_leastOf_34 : decode cX12_leastOf 34 = .ok (.iinc 3 1, 3) := by decide +kernel
theorem dX12_leastOf_37 : decode cX12_leastOf 37 = .ok (.goto (-31), 3) := by decide +kernel
theorem dX12_leastOf_40 : decode cX12_leastOf 40 = .ok (.iload_n 2, 1) := by decide +kernel
theorem dX12_leastOf_41 : decode cX12_leastOf 41 = .ok (.ireturn, 1) := by decide +kernel
theorem dX12_miss_0 : decode cX12_miss 0 = .ok (.aload_n 0, 1) := by decide +kernel
theorem dX12_miss_1 : decode cX12_miss 1 = .ok (.iload_n 1, 1) := by decide +kernel
theorem dX12_miss_2 : decode cX12_miss 2 = .ok (.invokevirtual 113, 3) := by decide +kernel
theorem dX12_miss_5 : decode cX12_miss 5 = .ok (.ifCond .eq 10, 3) := by decide +kernel
theorem dX12_miss_8 : decode cX12_miss 8 = .ok (.iload_n 2, 1) := by decide +kernel
theorem dX12_miss_9 : decode cX12_miss 9 = .ok (.invokestatic 109, 3) := by decide +kernel
theorem dX12_miss_12 : decode cX12_miss 12 = .ok (.ifCond .ne 5, 3) := by decide +kernel
theorem dX12_miss_15 : decode cX12_miss 15 = .ok (.iconst (-1), 1) := by decide +kernel
theorem dX12_miss_16 : decode cX12_miss 16 = .ok (.ireturn, 1) := by decide +kernel
theorem dX12_miss_17 : decode cX12_miss 17 = .ok (.aload_n 0, 1) := by decide +kernel
theorem dX12_miss_18 : decode cX12_miss 18 = .ok (.iload_n 1, 1) := by decide +kernel
theorem dX12_miss_19 : decode cX12_miss 19 = .ok (.aload_n 0, 1) := by decide +kernel
theorem dX12_miss_20 : decode cX12_miss 20 = .ok (.iload_n 1, 1) := by decide +kernel
theorem dX12_miss_21 : decode cX12_miss 21 = .ok (.iload_n 2, 1) := by decide +kernel
theorem dX12_miss_22 : decode cX12_miss 22 = .ok (.invokevirtual 177, 3) := by decide +kernel
theorem dX12_miss_25 : decode cX12_miss 25 = .ok (.invokevirtual 301, 3) := by decide +kernel
theorem dX12_miss_28 : decode cX12_miss 28 = .ok (.bipush 119, 2) := by decide +kernel
theorem dX12_miss_30 : decode cX12_miss 30 = .ok (.istore_n 3, 1) := by decide +kernel
theorem dX12_miss_31 : decode cX12_miss 31 = .ok (.iload_n 3, 1) := by decide +kernel
theorem dX12_miss_32 : decode cX12_miss 32 = .ok (.ifCond .lt 163, 3) := by decide +kernel
theorem dX12_miss_35 : decode cX12_miss 35 = .ok (.iload_n 3, 1) := by decide +kernel
theorem dX12_miss_36 : decode cX12_miss 36 = .ok (.bipush 119, 2) := by decide +kernel
theorem dX12_miss_38 : decode cX12_miss 38 = .ok (.if_icmp .ge 40, 3) := by decide +kernel
theorem dX12_miss_41 : decode cX12_miss 41 = .ok (.aload_n 0, 1) := by decide +kernel
theorem dX12_miss_42 : decode cX12_miss 42 = .ok (.iload_n 1, 1) := by decide +kernel
theorem dX12_miss_43 : decode cX12_miss 43 = .ok (.iload_n 3, 1) := by decide +kernel
theorem dX12_miss_44 : decode cX12_miss 44 = .ok (.iconst 1, 1) := by decide +kernel
theorem dX12_miss_45 : decode cX12_miss 45 = .ok (.iadd, 1) := by decide +kernel
theorem dX12_miss_46 : decode cX12_miss 46 = .ok (.invokevirtual 116, 3) := by decide +kernel
theorem dX12_miss_49 : decode cX12_miss 49 = .ok (.iconst (-1), 1) := by decide +kernel
theorem dX12_miss_50 : decode cX12_miss 50 = .ok (.if_icmp .ne 28, 3) := by decide +kernel
theorem dX12_miss_53 : decode cX12_miss 53 = .ok (.aload_n 0, 1) := by decide +kernel
theorem dX12_miss_54 : decode cX12_miss 54 = .ok (.sipush 1001, 3) := by decide +kernel
theorem dX12_miss_57 : decode cX12_miss 57 = .ok (.iload_n 3, 1) := by decide +kernel
theorem dX12_miss_58 : decode cX12_miss 58 = .ok (.iconst 1, 1) := by decide +kernel
theorem dX12_miss_59 : decode cX12_miss 59 = .ok (.iadd, 1) := by decide +kernel
theorem dX12_miss_60 : decode cX12_miss 60 = .ok (.imul, 1) := by decide +kernel
theorem dX12_miss_61 : decode cX12_miss 61 = .ok (.aload_n 0, 1) := by decide +kernel
theorem dX12_miss_62 : decode cX12_miss 62 = .ok (.iload_n 1, 1) := by decide +kernel
theorem dX12_miss_63 : decode cX12_miss 63 = .ok (.iload_n 3, 1) := by decide +kernel
theorem dX12_miss_64 : decode cX12_miss 64 = .ok (.iconst 0, 1) := by decide +kernel
theorem dX12_miss_65 : decode cX12_miss 65 = .ok (.invokevirtual 137, 3) := by decide +kernel
theorem dX12_miss_68 : decode cX12_miss 68 = .ok (.aload_n 0, 1) := by decide +kernel
theorem dX12_miss_69 : decode cX12_miss 69 = .ok (.iload_n 1, 1) := by decide +kernel
theorem dX12_miss_70 : decode cX12_miss 70 = .ok (.iload_n 3, 1) := by decide +kernel
theorem dX12_miss_71 : decode cX12_miss 71 = .ok (.iconst 1, 1) := by decide +kernel
theorem dX12_miss_72 : decode cX12_miss 72 = .ok (.invokevirtual 137, 3) := by decide +kernel
theorem dX12_miss_75 : decode cX12_miss 75 = .ok (.invokevirtual 304, 3) := by decide +kernel
theorem dX12_miss_78 : decode cX12_miss 78 = .ok (.iload_n 3, 1) := by decide +kernel
theorem dX12_miss_79 : decode cX12_miss 79 = .ok (.bipush 119, 2) := by decide +kernel
theorem dX12_miss_81 : decode cX12_miss 81 = .ok (.if_icmp .ge 29, 3) := by decide +kernel
theorem dX12_miss_84 : decode cX12_miss 84 = .ok (.aload_n 0, 1) := by decide +kernel
theorem dX12_miss_85 : decode cX12_miss 85 = .ok (.iload_n 1, 1) := by decide +kernel
theorem dX12_miss_86 : decode cX12_miss 86 = .ok (.iload_n 3, 1) := by decide +kernel
theorem dX12_miss_87 : decode cX12_miss 87 = .ok (.iconst 1, 1) := by decide +kernel
theorem dX12_miss_88 : decode cX12_miss 88 = .ok (.iadd, 1) := by decide +kernel
theorem dX12_miss_89 : decode cX12_miss 89 = .ok (.invokevirtual 116, 3) := by decide +kernel
theorem dX12_miss_92 : decode cX12_miss 92 = .ok (.iconst (-1), 1) := by decide +kernel
theorem dX12_miss_93 : decode cX12_miss 93 = .ok (.if_icmp .eq 17, 3) := by decide +kernel
theorem dX12_miss_96 : decode cX12_miss 96 = .ok (.aload_n 0, 1) := by decide +kernel
theorem dX12_miss_97 : decode cX12_miss 97 = .ok (.sipush 1001, 3) := by decide +kernel
theorem dX12_miss_100 : decode cX12_miss 100 = .ok (.iload_n 3, 1) := by decide +kernel
theorem dX12_miss_101 : decode cX12_miss 101 = .ok (.iconst 1, 1) := by decide +kernel
theorem dX12_miss_102 : decode cX12_miss 102 = .ok (.iadd, 1) := by decide +kernel
theorem dX12_miss_103 : decode cX12_miss 103 = .ok (.imul, 1) := by decide +kernel
theorem dX12_miss_104 : decode cX12_miss 104 = .ok (.invokevirtual 307, 3) := by decide +kernel
theorem dX12_miss_107 : decode cX12_miss 107 = .ok (.goto 4, 3) := by decide +kernel
theorem dX12_miss_110 : decode cX12_miss 110 = .ok (.iconst 0, 1) := by decide +kernel
theorem dX12_miss_111 : decode cX12_miss 111 = .ok (.istore 4, 2) := by decide +kernel
theorem dX12_miss_113 : decode cX12_miss 113 = .ok (.iconst 0, 1) := by decide +kernel
theorem dX12_miss_114 : decode cX12_miss 114 = .ok (.istore 5, 2) := by decide +kernel
theorem dX12_miss_116 : decode cX12_miss 116 = .ok (.iload 5, 2) := by decide +kernel
theorem dX12_miss_118 : decode cX12_miss 118 = .ok (.sipush 1001, 3) := by decide +kernel
theorem dX12_miss_121 : decode cX12_miss 121 = .ok (.if_icmp .ge 68, 3) := by decide +kernel
theorem dX12_miss_124 : decode cX12_miss 124 = .ok (.aload_n 0, 1) := by decide +kernel
theorem dX12_miss_125 : decode cX12_miss 125 = .ok (.getfield 75, 3) := by decide +kernel
theorem dX12_miss_128 : decode cX12_miss 128 = .ok (.sipush 1001, 3) := by decide +kernel
theorem dX12_miss_131 : decode cX12_miss 131 = .ok (.iload_n 3, 1) := by decide +kernel
theorem dX12_miss_132 : decode cX12_miss 132 = .ok (.imul, 1) := by decide +kernel
theorem dX12_miss_133 : decode cX12_miss 133 = .ok (.iload 5, 2) := by decide +kernel
theorem dX12_miss_135 : decode cX12_miss 135 = .ok (.iadd, 1) := by decide +kernel
theorem dX12_miss_136 : decode cX12_miss 136 = .ok (.aload_n 0, 1) := by decide +kernel
theorem dX12_miss_137 : decode cX12_miss 137 = .ok (.getfield 72, 3) := by decide +kernel
theorem dX12_miss_140 : decode cX12_miss 140 = .ok (.sipush 1001, 3) := by decide +kernel
theorem dX12_miss_143 : decode cX12_miss 143 = .ok (.iload_n 3, 1) := by decide +kernel
theorem dX12_miss_144 : decode cX12_miss 144 = .ok (.imul, 1) := by decide +kernel
theorem dX12_miss_145 : decode cX12_miss 145 = .ok (.iload 5, 2) := by decide +kernel
theorem dX12_miss_147 : decode cX12_miss 147 = .ok (.iadd, 1) := by decide +kernel
theorem dX12_miss_148 : decode cX12_miss 148 = .ok (.iaload, 1) := by decide +kernel
theorem dX12_miss_149 : decode cX12_miss 149 = .ok (.iload_n 3, 1) := by decide +kernel
theorem dX12_miss_150 : decode cX12_miss 150 = .ok (.bipush 119, 2) := by decide +kernel
theorem dX12_miss_152 : decode cX12_miss 152 = .ok (.if_icmp .eq 15, 3) := by decide +kernel
theorem dX12_miss_155 : decode cX12_miss 155 = .ok (.aload_n 0, 1) := by decide +kernel
theorem dX12_miss_156 : decode cX12_miss 156 = .ok (.iload_n 1, 1) := by decide +kernel
theorem dX12_miss_157 : decode cX12_miss 157 = .ok (.iload_n 3, 1) := by decide +kernel
theorem dX12_miss_158 : decode cX12_miss 158 = .ok (.iconst 1, 1) := by decide +kernel
theorem dX12_miss_159 : decode cX12_miss 159 = .ok (.iadd, 1) := by decide +kernel
theorem dX12_miss_160 : decode cX12_miss 160 = .ok (.invokevirtual 116, 3) := by decide +kernel
theorem dX12_miss_163 : decode cX12_miss 163 = .ok (.iconst (-1), 1) := by decide +kernel
theorem dX12_miss_164 : decode cX12_miss 164 = .ok (.if_icmp .eq 8, 3) := by decide +kernel
theorem dX12_miss_167 : decode cX12_miss 167 = .ok (.iload 4, 2) := by decide +kernel
theorem dX12_miss_169 : decode cX12_miss 169 = .ok (.goto 10, 3) := by decide +kernel
theorem dX12_miss_172 : decode cX12_miss 172 = .ok (.aload_n 0, 1) := by decide +kernel
theorem dX12_miss_173 : decode cX12_miss 173 = .ok (.getfield 78, 3) := by decide +kernel
theorem dX12_miss_176 : decode cX12_miss 176 = .ok (.iload 5, 2) := by decide +kernel
theorem dX12_miss_178 : decode cX12_miss 178 = .ok (.iaload, 1) := by decide +kernel
theorem dX12_miss_179 : decode cX12_miss 179 = .ok (.invokestatic 310, 3) := by decide +kernel
theorem dX12_miss_182 : decode cX12_miss 182 = .ok (.iastore, 1) := by decide +kernel
theorem dX12_miss_183 : decode cX12_miss 183 = .ok (.iinc 5 1, 3) := by decide +kernel
theorem dX12_miss_186 : decode cX12_miss 186 = .ok (.goto (-70), 3) := by decide +kernel
theorem dX12_miss_189 : decode cX12_miss 189 = .ok (.iinc 3 (-1), 3) := by decide +kernel
theorem dX12_miss_192 : decode cX12_miss 192 = .ok (.goto (-161), 3) := by decide +kernel
theorem dX12_miss_195 : decode cX12_miss 195 = .ok (.aload_n 0, 1) := by decide +kernel
theorem dX12_miss_196 : decode cX12_miss 196 = .ok (.iconst 0, 1) := by decide +kernel
theorem dX12_miss_197 : decode cX12_miss 197 = .ok (.invokevirtual 307, 3) := by decide +kernel
theorem dX12_miss_200 : decode cX12_miss 200 = .ok (.istore_n 3, 1) := by decide +kernel
theorem dX12_miss_201 : decode cX12_miss 201 = .ok (.iload_n 3, 1) := by decide +kernel
theorem dX12_miss_202 : decode cX12_miss 202 = .ok (.ldc_w 297, 3) := by decide +kernel
theorem dX12_miss_205 : decode cX12_miss 205 = .ok (.if_icmp .lt 5, 3) := by decide +kernel
theorem dX12_miss_208 : decode cX12_miss 208 = .ok (.iconst (-1), 1) := by decide +kernel
theorem dX12_miss_209 : decode cX12_miss 209 = .ok (.ireturn, 1) := by decide +kernel
theorem dX12_miss_210 : decode cX12_miss 210 = .ok (.iconst 0, 1) := by decide +kernel
theorem dX12_miss_211 : decode cX12_miss 211 = .ok (.istore 4, 2) := by decide +kernel
theorem dX12_miss_213 : decode cX12_miss 213 = .ok (.iload 4, 2) := by decide +kernel
theorem dX12_miss_215 : decode cX12_miss 215 = .ok (.bipush 120, 2) := by decide +kernel
theorem dX12_miss_217 : decode cX12_miss 217 = .ok (.if_icmp .ge 183, 3) := by decide +kernel
theorem dX12_miss_220 : decode cX12_miss 220 = .ok (.iload 4, 2) := by decide +kernel
theorem dX12_miss_222 : decode cX12_miss 222 = .ok (.ifCond .eq 14, 3) := by decide +kernel
theorem dX12_miss_225 : decode cX12_miss 225 = .ok (.aload_n 0, 1) := by decide +kernel
theorem dX12_miss_226 : decode cX12_miss 226 = .ok (.iload_n 1, 1) := by decide +kernel
theorem dX12_miss_227 : decode cX12_miss 227 = .ok (.iload 4, 2) := by decide +kernel
theorem dX12_miss_229 : decode cX12_miss 229 = .ok (.invokevirtual 116, 3) := by decide +kernel
theorem dX12_miss_232 : decode cX12_miss 232 = .ok (.iconst (-1), 1) := by decide +kernel
theorem dX12_miss_233 : decode cX12_miss 233 = .ok (.if_icmp .eq 7, 3) := by decide +kernel
theorem dX12_miss_236 : decode cX12_miss 236 = .ok (.iconst 1, 1) := by decide +kernel
theorem dX12_miss_237 : decode cX12_miss 237 = .ok (.goto 4, 3) := by decide +kernel
theorem dX12_miss_240 : decode cX12_miss 240 = .ok (.iconst 0, 1) := by decide +kernel
theorem dX12_miss_241 : decode cX12_miss 241 = .ok (.istore 5, 2) := by decide +kernel
theorem dX12_miss_243 : decode cX12_miss 243 = .ok (.iload 5, 2) := by decide +kernel
theorem dX12_miss_245 : decode cX12_miss 245 = .ok (.ifCond .eq 7, 3) := by decide +kernel
theorem dX12_miss_248 : decode cX12_miss 248 = .ok (.iconst 0, 1) := by decide +kernel
theorem dX12_miss_249 : decode cX12_miss 249 = .ok (.goto 23, 3) := by decide +kernel
theorem dX12_miss_252 : decode cX12_miss 252 = .ok (.aload_n 0, 1) := by decide +kernel
theorem dX12_miss_253 : decode cX12_miss 253 = .ok (.getfield 87, 3) := by decide +kernel
theorem dX12_miss_256 : decode cX12_miss 256 = .ok (.iload 4, 2) := by decide +kernel
theorem dX12_miss_258 : decode cX12_miss 258 = .ok (.iconst 1, 1) := by decide +kernel
theorem dX12_miss_259 : decode cX12_miss 259 = .ok (.isub, 1) := by decide +kernel
theorem dX12_miss_260 : decode cX12_miss 260 = .ok (.iaload, 1) := by decide +kernel
theorem dX12_miss_261 : decode cX12_miss 261 = .ok (.aload_n 0, 1) := by decide +kernel
theorem dX12_miss_262 : decode cX12_miss 262 = .ok (.iload_n 1, 1) := by decide +kernel
theorem dX12_miss_263 : decode cX12_miss 263 = .ok (.iload 4, 2) := by decide +kernel
theorem dX12_miss_265 : decode cX12_miss 265 = .ok (.iconst 1, 1) := by decide +kernel
theorem dX12_miss_266 : decode cX12_miss 266 = .ok (.isub, 1) := by decide +kernel
theorem dX12_miss_267 : decode cX12_miss 267 = .ok (.iconst 0, 1) := by decide +kernel
theorem dX12_miss_268 : decode cX12_miss 268 = .ok (.invokevirtual 137, 3) := by decide +kernel
theorem dX12_miss_271 : decode cX12_miss 271 = .ok (.iadd, 1) := by decide +kernel
theorem dX12_miss_272 : decode cX12_miss 272 = .ok (.istore 6, 2) := by decide +kernel
theorem dX12_miss_274 : decode cX12_miss 274 = .ok (.iload 5, 2) := by decide +kernel
theorem dX12_miss_276 : decode cX12_miss 276 = .ok (.ifCond .eq 9, 3) := by decide +kernel
theorem dX12_miss_279 : decode cX12_miss 279 = .ok (.sipush 1000, 3) := by decide +kernel
theorem dX12_miss_282 : decode cX12_miss 282 = .ok (.goto 23, 3) := by decide +kernel
theorem dX12_miss_285 : decode cX12_miss 285 = .ok (.aload_n 0, 1) := by decide +kernel
theorem dX12_miss_286 : decode cX12_miss 286 = .ok (.getfield 87, 3) := by decide +kernel
theorem dX12_miss_289 : decode cX12_miss 289 = .ok (.iload 4, 2) := by decide +kernel
theorem dX12_miss_291 : decode cX12_miss 291 = .ok (.iconst 1, 1) := by decide +kernel
theorem dX12_miss_292 : decode cX12_miss 292 = .ok (.isub, 1) := by decide +kernel
theorem dX12_miss_293 : decode cX12_miss 293 = .ok (.iaload, 1) := by decide +kernel
theorem dX12_miss_294 : decode cX12_miss 294 = .ok (.aload_n 0, 1) := by decide +kernel
theorem dX12_miss_295 : decode cX12_miss 295 = .ok (.iload_n 1, 1) := by decide +kernel
theorem dX12_miss_296 : decode cX12_miss 296 = .ok (.iload 4, 2) := by decide +kernel
theorem dX12_miss_298 : decode cX12_miss 298 = .ok (.iconst 1, 1) := by decide +kernel
theorem dX12_miss_299 : decode cX12_miss 299 = .ok (.isub, 1) := by decide +kernel
theorem dX12_miss_300 : decode cX12_miss 300 = .ok (.iconst 1, 1) := by decide +kernel
theorem dX12_miss_301 : decode cX12_miss 301 = .ok (.invokevirtual 137, 3) := by decide +kernel
theorem dX12_miss_304 : decode cX12_miss 304 = .ok (.iadd, 1) := by decide +kernel
theorem dX12_miss_305 : decode cX12_miss 305 = .ok (.istore 7, 2) := by decide +kernel
theorem dX12_miss_307 : decode cX12_miss 307 = .ok (.iconst (-1), 1) := by decide +kernel
theorem dX12_miss_308 : decode cX12_miss 308 = .ok (.istore 8, 2) := by decide +kernel
theorem dX12_miss_310 : decode cX12_miss 310 = .ok (.iload 6, 2) := by decide +kernel
theorem dX12_miss_312 : decode cX12_miss 312 = .ok (.ifCond .ge 7, 3) := by decide +kernel
theorem dX12_miss_315 : decode cX12_miss 315 = .ok (.iconst 0, 1) := by decide +kernel
theorem dX12_miss_316 : decode cX12_miss 316 = .ok (.goto 5, 3) := by decide +kernel
theorem dX12_miss_319 : decode cX12_miss 319 = .ok (.iload 6, 2) := by decide +kernel
theorem dX12_miss_321 : decode cX12_miss 321 = .ok (.istore 9, 2) := by decide +kernel
theorem dX12_miss_323 : decode cX12_miss 323 = .ok (.iload 9, 2) := by decide +kernel
theorem dX12_miss_325 : decode cX12_miss 325 = .ok (.iload 7, 2) := by decide +kernel
theorem dX12_miss_327 : decode cX12_miss 327 = .ok (.if_icmp .gt 58, 3) := by decide +kernel
theorem dX12_miss_330 : decode cX12_miss 330 = .ok (.iload 9, 2) := by decide +kernel
theorem dX12_miss_332 : decode cX12_miss 332 = .ok (.sipush 1000, 3) := by decide +kernel
theorem dX12_miss_335 : decode cX12_miss 335 = .ok (.if_icmp .gt 50, 3) := by decide +kernel
theorem dX12_miss_338 : decode cX12_miss 338 = .ok (.iload 8, 2) := by decide +kernel
theorem dX12_miss_340 : decode cX12_miss 340 = .ok (.iconst (-1), 1) := by decide +kernel
theorem dX12_miss_341 : decode cX12_miss 341 = .ok (.if_icmp .eq 34, 3) := by decide +kernel
theorem dX12_miss_344 : decode cX12_miss 344 = .ok (.aload_n 0, 1) := by decide +kernel
theorem dX12_miss_345 : decode cX12_miss 345 = .ok (.getfield 75, 3) := by decide +kernel
theorem dX12_miss_348 : decode cX12_miss 348 = .ok (.sipush 1001, 3) := by decide +kernel
theorem dX12_miss_351 : decode cX12_miss 351 = .ok (.iload 4, 2) := by decide +kernel
theorem dX12_miss_353 : decode cX12_miss 353 = .ok (.imul, 1) := by decide +kernel
theorem dX12_miss_354 : decode cX12_miss 354 = .ok (.iload 9, 2) := by decide +kernel
theorem dX12_miss_356 : decode cX12_miss 356 = .ok (.iadd, 1) := by decide +kernel
theorem dX12_miss_357 : decode cX12_miss 357 = .ok (.iaload, 1) := by decide +kernel
theorem dX12_miss_358 : decode cX12_miss 358 = .ok (.aload_n 0, 1) := by decide +kernel
theorem dX12_miss_359 : decode cX12_miss 359 = .ok (.getfield 75, 3) := by decide +kernel
theorem dX12_miss_362 : decode cX12_miss 362 = .ok (.sipush 1001, 3) := by decide +kernel
theorem dX12_miss_365 : decode cX12_miss 365 = .ok (.iload 4, 2) := by decide +kernel
theorem dX12_miss_367 : decode cX12_miss 367 = .ok (.imul, 1) := by decide +kernel
theorem dX12_miss_368 : decode cX12_miss 368 = .ok (.iload 8, 2) := by decide +kernel
theorem dX12_miss_370 : decode cX12_miss 370 = .ok (.iadd, 1) := by decide +kernel
theorem dX12_miss_371 : decode cX12_miss 371 = .ok (.iaload, 1) := by decide +kernel
theorem dX12_miss_372 : decode cX12_miss 372 = .ok (.if_icmp .ge 7, 3) := by decide +kernel
theorem dX12_miss_375 : decode cX12_miss 375 = .ok (.iload 9, 2) := by decide +kernel
theorem dX12_miss_377 : decode cX12_miss 377 = .ok (.istore 8, 2) := by decide +kernel
theorem dX12_miss_379 : decode cX12_miss 379 = .ok (.iinc 9 1, 3) := by decide +kernel
theorem dX12_miss_382 : decode cX12_miss 382 = .ok (.goto (-59), 3) := by decide +kernel
theorem dX12_miss_385 : decode cX12_miss 385 = .ok (.aload_n 0, 1) := by decide +kernel
theorem dX12_miss_386 : decode cX12_miss 386 = .ok (.getfield 87, 3) := by decide +kernel
theorem dX12_miss_389 : decode cX12_miss 389 = .ok (.iload 4, 2) := by decide +kernel
theorem dX12_miss_391 : decode cX12_miss 391 = .ok (.iload 8, 2) := by decide +kernel
theorem dX12_miss_393 : decode cX12_miss 393 = .ok (.iastore, 1) := by decide +kernel
theorem dX12_miss_394 : decode cX12_miss 394 = .ok (.iinc 4 1, 3) := by decide +kernel
theorem dX12_miss_397 : decode cX12_miss 397 = .ok (.goto (-184), 3) := by decide +kernel
theorem dX12_miss_400 : decode cX12_miss 400 = .ok (.aload_n 0, 1) := by decide +kernel
theorem dX12_miss_401 : decode cX12_miss 401 = .ok (.iconst 1, 1) := by decide +kernel
theorem dX12_miss_402 : decode cX12_miss 402 = .ok (.putfield 313, 3) := by decide +kernel
theorem dX12_miss_405 : decode cX12_miss 405 = .ok (.iload_n 3, 1) := by decide +kernel
theorem dX12_miss_406 : decode cX12_miss 406 = .ok (.ireturn, 1) := by decide +kernel
theorem dX12_curve_0 : decode cX12_curve 0 = .ok (.aload_n 0, 1) := by decide +kernel
theorem dX12_curve_1 : decode cX12_curve 1 = .ok (.getfield 313, 3) := by decide +kernel
theorem dX12_curve_4 : decode cX12_curve 4 = .ok (.ifCond .eq 19, 3) := by decide +kernel
theorem dX12_curve_7 : decode cX12_curve 7 = .ok (.iload_n 1, 1) := by decide +kernel
theorem dX12_curve_8 : decode cX12_curve 8 = .ok (.invokestatic 109, 3) := by decide +kernel
theorem dX12_curve_11 : decode cX12_curve 11 = .ok (.ifCond .eq 12, 3) := by decide +kernel
theorem dX12_curve_14 : decode cX12_curve 14 = .ok (.aload_n 0, 1) := by decide +kernel
theorem dX12_curve_15 : decode cX12_curve 15 = .ok (.getfield 87, 3) := by decide +kernel
theorem dX12_curve_18 : decode cX12_curve 18 = .ok (.iload_n 1, 1) := by decide +kernel
theorem dX12_curve_19 : decode cX12_curve 19 = .ok (.iaload, 1) := by decide +kernel
theorem dX12_curve_20 : decode cX12_curve 20 = .ok (.goto 4, 3) := by decide +kernel
theorem dX12_curve_23 : decode cX12_curve 23 = .ok (.iconst (-1), 1) := by decide +kernel
theorem dX12_curve_24 : decode cX12_curve 24 = .ok (.ireturn, 1) := by decide +kernel
theorem dX12_runs_0 : decode cX12_runs 0 = .ok (.iconst 0, 1) := by decide +kernel
theorem dX12_runs_1 : decode cX12_runs 1 = .ok (.istore 4, 2) := by decide +kernel
theorem dX12_runs_3 : decode cX12_runs 3 = .ok (.iload 4, 2) := by decide +kernel
theorem dX12_runs_5 : decode cX12_runs 5 = .ok (.sipush 1001, 3) := by decide +kernel
theorem dX12_runs_8 : decode cX12_runs 8 = .ok (.if_icmp .ge 44, 3) := by decide +kernel
theorem dX12_runs_11 : decode cX12_runs 11 = .ok (.aload_n 0, 1) := by decide +kernel
theorem dX12_runs_12 : decode cX12_runs 12 = .ok (.getfield 90, 3) := by decide +kernel
theorem dX12_runs_15 : decode cX12_runs 15 = .ok (.iload 4, 2) := by decide +kernel
theorem dX12_runs_17 : decode cX12_runs 17 = .ok (.iload_n 3, 1) := by decide +kernel
theorem dX12_runs_18 : decode cX12_runs 18 = .ok (.ifCond .eq 14, 3) := by decide +kernel
theorem dX12_runs_21 : decode cX12_runs 21 = .ok (.iload 4, 2) := by decide +kernel
theorem dX12_runs_23 : decode cX12_runs 23 = .ok (.ifCond .le 9, 3) := by decide +kernel
theorem dX12_runs_26 : decode cX12_runs 26 = .ok (.ldc_w 297, 3) := by decide +kernel
theorem dX12_runs_29 : decode cX12_runs 29 = .ok (.goto 16, 3) := by decide +kernel
theorem dX12_runs_32 : decode cX12_runs 32 = .ok (.aload_n 0, 1) := by decide +kernel
theorem dX12_runs_33 : decode cX12_runs 33 = .ok (.getfield 72, 3) := by decide +kernel
theorem dX12_runs_36 : decode cX12_runs 36 = .ok (.sipush 1001, 3) := by decide +kernel
theorem dX12_runs_39 : decode cX12_runs 39 = .ok (.iload_n 2, 1) := by decide +kernel
theorem dX12_runs_40 : decode cX12_runs 40 = .ok (.imul, 1) := by decide +kernel
theorem dX12_runs_41 : decode cX12_runs 41 = .ok (.iload 4, 2) := by decide +kernel
theorem dX12_runs_43 : decode cX12_runs 43 = .ok (.iadd, 1) := by decide +kernel
theorem dX12_runs_44 : decode cX12_runs 44 = .ok (.iaload, 1) := by decide +kernel
theorem dX12_runs_45 : decode cX12_runs 45 = .ok (.iastore, 1) := by decide +kernel
theorem dX12_runs_46 : decode cX12_runs 46 = .ok (.iinc 4 1, 3) := by decide +kernel
theorem dX12_runs_49 : decode cX12_runs 49 = .ok (.goto (-46), 3) := by decide +kernel
theorem dX12_runs_52 : decode cX12_runs 52 = .ok (.aload_n 0, 1) := by decide +kernel
theorem dX12_runs_53 : decode cX12_runs 53 = .ok (.getfield 84, 3) := by decide +kernel
theorem dX12_runs_56 : decode cX12_runs 56 = .ok (.bipush 120, 2) := by decide +kernel
theorem dX12_runs_58 : decode cX12_runs 58 = .ok (.iload_n 2, 1) := by decide +kernel
theorem dX12_runs_59 : decode cX12_runs 59 = .ok (.imul, 1) := by decide +kernel
theorem dX12_runs_60 : decode cX12_runs 60 = .ok (.iload_n 2, 1) := by decide +kernel
theorem dX12_runs_61 : decode cX12_runs 61 = .ok (.iadd, 1) := by decide +kernel
theorem dX12_runs_62 : decode cX12_runs 62 = .ok (.aload_n 0, 1) := by decide +kernel
theorem dX12_runs_63 : decode cX12_runs 63 = .ok (.iconst (-1), 1) := by decide +kernel
theorem dX12_runs_64 : decode cX12_runs 64 = .ok (.invokevirtual 307, 3) := by decide +kernel
theorem dX12_runs_67 : decode cX12_runs 67 = .ok (.iastore, 1) := by decide +kernel
theorem dX12_runs_68 : decode cX12_runs 68 = .ok (.iload_n 2, 1) := by decide +kernel
theorem dX12_runs_69 : decode cX12_runs 69 = .ok (.iconst 1, 1) := by decide +kernel
theorem dX12_runs_70 : decode cX12_runs 70 = .ok (.iadd, 1) := by decide +kernel
theorem dX12_runs_71 : decode cX12_runs 71 = .ok (.istore 4, 2) := by decide +kernel
theorem dX12_runs_73 : decode cX12_runs 73 = .ok (.iload 4, 2) := by decide +kernel
theorem dX12_runs_75 : decode cX12_runs 75 = .ok (.bipush 120, 2) := by decide +kernel
theorem dX12_runs_77 : decode cX12_runs 77 = .ok (.if_icmp .ge 147, 3) := by decide +kernel
theorem dX12_runs_80 : decode cX12_runs 80 = .ok (.iconst 0, 1) := by decide +kernel
theorem dX12_runs_81 : decode cX12_runs 81 = .ok (.istore 5, 2) := by decide +kernel
theorem dX12_runs_83 : decode cX12_runs 83 = .ok (.aload_n 0, 1) := by decide +kernel
theorem dX12_runs_84 : decode cX12_runs 84 = .ok (.iload_n 1, 1) := by decide +kernel
theorem dX12_runs_85 : decode cX12_runs 85 = .ok (.iload 4, 2) := by decide +kernel
theorem dX12_runs_87 : decode cX12_runs 87 = .ok (.invokevirtual 116, 3) := by decide +kernel
theorem dX12_runs_90 : decode cX12_runs 90 = .ok (.iconst (-1), 1) := by decide +kernel
theorem dX12_runs_91 : decode cX12_runs 91 = .ok (.if_icmp .eq 7, 3) := by decide +kernel
theorem dX12_runs_94 : decode cX12_runs 94 = .ok (.iconst 1, 1) := by decide +kernel
theorem dX12_runs_95 : decode cX12_runs 95 = .ok (.goto 4, 3) := by decide +kernel
theorem dX12_runs_98 : decode cX12_runs 98 = .ok (.iconst 0, 1) := by decide +kernel
theorem dX12_runs_99 : decode cX12_runs 99 = .ok (.istore 6, 2) := by decide +kernel
theorem dX12_runs_101 : decode cX12_runs 101 = .ok (.iload 6, 2) := by decide +kernel
theorem dX12_runs_103 : decode cX12_runs 103 = .ok (.ifCond .eq 13, 3) := by decide +kernel
theorem dX12_runs_106 : decode cX12_runs 106 = .ok (.aload_n 0, 1) := by decide +kernel
theorem dX12_runs_107 : decode cX12_runs 107 = .ok (.iconst (-1), 1) := by decide +kernel
theorem dX12_runs_108 : decode cX12_runs 108 = .ok (.invokevirtual 307, 3) := by decide +kernel
theorem dX12_runs_111 : decode cX12_runs 111 = .ok (.istore 5, 2) := by decide +kernel
theorem dX12_runs_113 : decode cX12_runs 113 = .ok (.goto 30, 3) := by decide +kernel
theorem dX12_runs_116 : decode cX12_runs 116 = .ok (.aload_n 0, 1) := by decide +kernel
theorem dX12_runs_117 : decode cX12_runs 117 = .ok (.iconst (-1), 1) := by decide +kernel
theorem dX12_runs_118 : decode cX12_runs 118 = .ok (.aload_n 0, 1) := by decide +kernel
theorem dX12_runs_119 : decode cX12_runs 119 = .ok (.iload_n 1, 1) := by decide +kernel
theorem dX12_runs_120 : decode cX12_runs 120 = .ok (.iload 4, 2) := by decide +kernel
theorem dX12_runs_122 : decode cX12_runs 122 = .ok (.iconst 1, 1) := by decide +kernel
theorem dX12_runs_123 : decode cX12_runs 123 = .ok (.isub, 1) := by decide +kernel
theorem dX12_runs_124 : decode cX12_runs 124 = .ok (.iconst 1, 1) := by decide +kernel
theorem dX12_runs_125 : decode cX12_runs 125 = .ok (.invokevirtual 137, 3) := by decide +kernel
theorem dX12_runs_128 : decode cX12_runs 128 = .ok (.ineg, 1) := by decide +kernel
theorem dX12_runs_129 : decode cX12_runs 129 = .ok (.aload_n 0, 1) := by decide +kernel
theorem dX12_runs_130 : decode cX12_runs 130 = .ok (.iload_n 1, 1) := by decide +kernel
theorem dX12_runs_131 : decode cX12_runs 131 = .ok (.iload 4, 2) := by decide +kernel
theorem dX12_runs_133 : decode cX12_runs 133 = .ok (.iconst 1, 1) := by decide +kernel
theorem dX12_runs_134 : decode cX12_runs 134 = .ok (.isub, 1) := by decide +kernel
theorem dX12_runs_135 : decode cX12_runs 135 = .ok (.iconst 0, 1) := by decide +kernel
theorem dX12_runs_136 : decode cX12_runs 136 = .ok (.invokevirtual 137, 3) := by decide +kernel
theorem dX12_runs_139 : decode cX12_runs 139 = .ok (.ineg, 1) := by decide +kernel
theorem dX12_runs_140 : decode cX12_runs 140 = .ok (.invokevirtual 304, 3) := by decide +kernel
theorem dX12_runs_143 : decode cX12_runs 143 = .ok (.iconst 0, 1) := by decide +kernel
theorem dX12_runs_144 : decode cX12_runs 144 = .ok (.istore 7, 2) := by decide +kernel
theorem dX12_runs_146 : decode cX12_runs 146 = .ok (.iload 7, 2) := by decide +kernel
theorem dX12_runs_148 : decode cX12_runs 148 = .ok (.sipush 1001, 3) := by decide +kernel
theorem dX12_runs_151 : decode cX12_runs 151 = .ok (.if_icmp .ge 50, 3) := by decide +kernel
theorem dX12_runs_154 : decode cX12_runs 154 = .ok (.aload_n 0, 1) := by decide +kernel
theorem dX12_runs_155 : decode cX12_runs 155 = .ok (.getfield 90, 3) := by decide +kernel
theorem dX12_runs_158 : decode cX12_runs 158 = .ok (.iload 7, 2) := by decide +kernel
theorem dX12_runs_160 : decode cX12_runs 160 = .ok (.aload_n 0, 1) := by decide +kernel
theorem dX12_runs_161 : decode cX12_runs 161 = .ok (.getfield 72, 3) := by decide +kernel
theorem dX12_runs_164 : decode cX12_runs 164 = .ok (.sipush 1001, 3) := by decide +kernel
theorem dX12_runs_167 : decode cX12_runs 167 = .ok (.iload 4, 2) := by decide +kernel
theorem dX12_runs_169 : decode cX12_runs 169 = .ok (.imul, 1) := by decide +kernel
theorem dX12_runs_170 : decode cX12_runs 170 = .ok (.iload 7, 2) := by decide +kernel
theorem dX12_runs_172 : decode cX12_runs 172 = .ok (.iadd, 1) := by decide +kernel
theorem dX12_runs_173 : decode cX12_runs 173 = .ok (.iaload, 1) := by decide +kernel
theorem dX12_runs_174 : decode cX12_runs 174 = .ok (.iload 6, 2) := by decide +kernel
theorem dX12_runs_176 : decode cX12_runs 176 = .ok (.ifCond .eq 8, 3) := by decide +kernel
theorem dX12_runs_179 : decode cX12_runs 179 = .ok (.iload 5, 2) := by decide +kernel
theorem dX12_runs_181 : decode cX12_runs 181 = .ok (.goto 10, 3) := by decide +kernel
theorem dX12_runs_184 : decode cX12_runs 184 = .ok (.aload_n 0, 1) := by decide +kernel
theorem dX12_runs_185 : decode cX12_runs 185 = .ok (.getfield 78, 3) := by decide +kernel
theorem dX12_runs_188 : decode cX12_runs 188 = .ok (.iload 7, 2) := by decide +kernel
theorem dX12_runs_190 : decode cX12_runs 190 = .ok (.iaload, 1) := by decide +kernel
theorem dX12_runs_191 : decode cX12_runs 191 = .ok (.invokestatic 310, 3) := by decide +kernel
theorem dX12_runs_194 : decode cX12_runs 194 = .ok (.iastore, 1) := by decide +kernel
theorem dX12_runs_195 : decode cX12_runs 195 = .ok (.iinc 7 1, 3) := by decide +kernel
theorem dX12_runs_198 : decode cX12_runs 198 = .ok (.goto (-52), 3) := by decide +kernel
theorem dX12_runs_201 : decode cX12_runs 201 = .ok (.aload_n 0, 1) := by decide +kernel
theorem dX12_runs_202 : decode cX12_runs 202 = .ok (.getfield 84, 3) := by decide +kernel
theorem dX12_runs_205 : decode cX12_runs 205 = .ok (.bipush 120, 2) := by decide +kernel
theorem dX12_runs_207 : decode cX12_runs 207 = .ok (.iload_n 2, 1) := by decide +kernel
theorem dX12_runs_208 : decode cX12_runs 208 = .ok (.imul, 1) := by decide +kernel
theorem dX12_runs_209 : decode cX12_runs 209 = .ok (.iload 4, 2) := by decide +kernel
theorem dX12_runs_211 : decode cX12_runs 211 = .ok (.iadd, 1) := by decide +kernel
theorem dX12_runs_212 : decode cX12_runs 212 = .ok (.aload_n 0, 1) := by decide +kernel
theorem dX12_runs_213 : decode cX12_runs 213 = .ok (.iconst (-1), 1) := by decide +kernel
theorem dX12_runs_214 : decode cX12_runs 214 = .ok (.invokevirtual 307, 3) := by decide +kernel
theorem dX12_runs_217 : decode cX12_runs 217 = .ok (.iastore, 1) := by decide +kernel
theorem dX12_runs_218 : decode cX12_runs 218 = .ok (.iinc 4 1, 3) := by decide +kernel
theorem dX12_runs_221 : decode cX12_runs 221 = .ok (.goto (-148), 3) := by decide +kernel
theorem dX12_runs_224 : decode cX12_runs 224 = .ok (.return_, 1) := by decide +kernel
theorem dX12_offers_0 : decode cX12_offers 0 = .ok (.iload_n 1, 1) := by decide +kernel
theorem dX12_offers_1 : decode cX12_offers 1 = .ok (.ldc_w 297, 3) := by decide +kernel
theorem dX12_offers_4 : decode cX12_offers 4 = .ok (.if_icmp .ge 19, 3) := by decide +kernel
theorem dX12_offers_7 : decode cX12_offers 7 = .ok (.aload_n 0, 1) := by decide +kernel
theorem dX12_offers_8 : decode cX12_offers 8 = .ok (.getfield 317, 3) := by decide +kernel
theorem dX12_offers_11 : decode cX12_offers 11 = .ok (.iconst (-1), 1) := by decide +kernel
theorem dX12_offers_12 : decode cX12_offers 12 = .ok (.if_icmp .eq 12, 3) := by decide +kernel
theorem dX12_offers_15 : decode cX12_offers 15 = .ok (.iload_n 1, 1) := by decide +kernel
theorem dX12_offers_16 : decode cX12_offers 16 = .ok (.aload_n 0, 1) := by decide +kernel
theorem dX12_offers_17 : decode cX12_offers 17 = .ok (.getfield 320, 3) := by decide +kernel
theorem dX12_offers_20 : decode cX12_offers 20 = .ok (.if_icmp .lt 4, 3) := by decide +kernel
theorem dX12_offers_23 : decode cX12_offers 23 = .ok (.return_, 1) := by decide +kernel
theorem dX12_offers_24 : decode cX12_offers 24 = .ok (.aload_n 0, 1) := by decide +kernel
theorem dX12_offers_25 : decode cX12_offers 25 = .ok (.iload_n 1, 1) := by decide +kernel
theorem dX12_offers_26 : decode cX12_offers 26 = .ok (.putfield 320, 3) := by decide +kernel
theorem dX12_offers_29 : decode cX12_offers 29 = .ok (.aload_n 0, 1) := by decide +kernel
theorem dX12_offers_30 : decode cX12_offers 30 = .ok (.iload_n 2, 1) := by decide +kernel
theorem dX12_offers_31 : decode cX12_offers 31 = .ok (.putfield 317, 3) := by decide +kernel
theorem dX12_offers_34 : decode cX12_offers 34 = .ok (.aload_n 0, 1) := by decide +kernel
theorem dX12_offers_35 : decode cX12_offers 35 = .ok (.iload_n 3, 1) := by decide +kernel
theorem dX12_offers_36 : decode cX12_offers 36 = .ok (.putfield 323, 3) := by decide +kernel
theorem dX12_offers_39 : decode cX12_offers 39 = .ok (.aload_n 0, 1) := by decide +kernel
theorem dX12_offers_40 : decode cX12_offers 40 = .ok (.iload 4, 2) := by decide +kernel
theorem dX12_offers_42 : decode cX12_offers 42 = .ok (.putfield 326, 3) := by decide +kernel
theorem dX12_offers_45 : decode cX12_offers 45 = .ok (.return_, 1) := by decide +kernel
theorem dX12_hidden_0 : decode cX12_hidden 0 = .ok (.aload_n 0, 1) := by decide +kernel
theorem dX12_hidden_1 : decode cX12_hidden 1 = .ok (.iload_n 1, 1) := by decide +kernel
theorem dX12_hidden_2 : decode cX12_hidden 2 = .ok (.invokevirtual 113, 3) := by decide +kernel
theorem dX12_hidden_5 : decode cX12_hidden 5 = .ok (.ifCond .eq 20, 3) := by decide +kernel
theorem dX12_hidden_8 : decode cX12_hidden 8 = .ok (.iload_n 2, 1) := by decide +kernel
theorem dX12_hidden_9 : decode cX12_hidden 9 = .ok (.invokestatic 109, 3) := by decide +kernel
theorem dX12_hidden_12 : decode cX12_hidden 12 = .ok (.ifCond .eq 13, 3) := by decide +kernel
theorem dX12_hidden_15 : decode cX12_hidden 15 = .ok (.iload_n 3, 1) := by decide +kernel
theorem dX12_hidden_16 : decode cX12_hidden 16 = .ok (.iconst 0, 1) := by decide +kernel
theorem dX12_hidden_17 : decode cX12_hidden 17 = .ok (.ldc 120, 2) := by decide +kernel
theorem dX12_hidden_19 : decode cX12_hidden 19 = .ok (.invokestatic 3, 3) := by decide +kernel
theorem dX12_hidden_22 : decode cX12_hidden 22 = .ok (.ifCond .ne 5, 3) := by decide +kernel
theorem dX12_hidden_25 : decode cX12_hidden 25 = .ok (.iconst (-1), 1) := by decide +kernel
theorem dX12_hidden_26 : decode cX12_hidden 26 = .ok (.ireturn, 1) := by decide +kernel
theorem dX12_hidden_27 : decode cX12_hidden 27 = .ok (.aload_n 0, 1) := by decide +kernel
theorem dX12_hidden_28 : decode cX12_hidden 28 = .ok (.iload_n 1, 1) := by decide +kernel
theorem dX12_hidden_29 : decode cX12_hidden 29 = .ok (.aload_n 0, 1) := by decide +kernel
theorem dX12_hidden_30 : decode cX12_hidden 30 = .ok (.iload_n 1, 1) := by decide +kernel
theorem dX12_hidden_31 : decode cX12_hidden 31 = .ok (.iload_n 2, 1) := by decide +kernel
theorem dX12_hidden_32 : decode cX12_hidden 32 = .ok (.invokevirtual 177, 3) := by decide +kernel
theorem dX12_hidden_35 : decode cX12_hidden 35 = .ok (.invokevirtual 301, 3) := by decide +kernel
theorem dX12_hidden_38 : decode cX12_hidden 38 = .ok (.iconst 0, 1) := by decide +kernel
theorem dX12_hidden_39 : decode cX12_hidden 39 = .ok (.istore 4, 2) := by decide +kernel
theorem dX12_hidden_41 : decode cX12_hidden 41 = .ok (.iload 4, 2) := by decide +kernel
theorem dX12_hidden_43 : decode cX12_hidden 43 = .ok (.bipush 120, 2) := by decide +kernel
theorem dX12_hidden_45 : decode cX12_hidden 45 = .ok (.if_icmp .ge 26, 3) := by decide +kernel
theorem dX12_hidden_48 : decode cX12_hidden 48 = .ok (.aload_n 0, 1) := by decide +kernel
theorem dX12_hidden_49 : decode cX12_hidden 49 = .ok (.iload_n 1, 1) := by decide +kernel
theorem dX12_hidden_50 : decode cX12_hidden 50 = .ok (.iload 4, 2) := by decide +kernel
theorem dX12_hidden_52 : decode cX12_hidden 52 = .ok (.iload 4, 2) := by decide +kernel
theorem dX12_hidden_54 : decode cX12_hidden 54 = .ok (.ifCond .le 7, 3) := by decide +kernel
theorem dX12_hidden_57 : decode cX12_hidden 57 = .ok (.iconst 1, 1) := by decide +kernel
theorem dX12_hidden_58 : decode cX12_hidden 58 = .ok (.goto 4, 3) := by decide +kernel
theorem dX12_hidden_61 : decode cX12_hidden 61 = .ok (.iconst 0, 1) := by decide +kernel
theorem dX12_hidden_62 : decode cX12_hidden 62 = .ok (.invokevirtual 329, 3) := by decide +kernel
theorem dX12_hidden_65 : decode cX12_hidden 65 = .ok (.iinc 4 1, 3) := by decide +kernel
theorem dX12_hidden_68 : decode cX12_hidden 68 = .ok (.goto (-27), 3) := by decide +kernel
theorem dX12_hidden_71 : decode cX12_hidden 71 = .ok (.aload_n 0, 1) := by decide +kernel
theorem dX12_hidden_72 : decode cX12_hidden 72 = .ok (.iconst (-1), 1) := by decide +kernel
theorem dX12_hidden_73 : decode cX12_hidden 73 = .ok (.putfield 317, 3) := by decide +kernel
theorem dX12_hidden_76 : decode cX12_hidden 76 = .ok (.aload_n 0, 1) := by decide +kernel
theorem dX12_hidden_77 : decode cX12_hidden 77 = .ok (.aload_n 0, 1) := by decide +kernel
theorem dX12_hidden_78 : decode cX12_hidden 78 = .ok (.getfield 84, 3) := by decide +kernel
theorem dX12_hidden_81 : decode cX12_hidden 81 = .ok (.bipush 119, 2) := by decide +kernel
theorem dX12_hidden_83 : decode cX12_hidden 83 = .ok (.iaload, 1) := by decide +kernel
theorem dX12_hidden_84 : decode cX12_hidden 84 = .ok (.iconst 0, 1) := by decide +kernel
theorem dX12_hidden_85 : decode cX12_hidden 85 = .ok (.iconst 0, 1) := by decide +kernel
theorem dX12_hidden_86 : decode cX12_hidden 86 = .ok (.iconst 0, 1) := by decide +kernel
theorem dX12_hidden_87 : decode cX12_hidden 87 = .ok (.invokevirtual 333, 3) := by decide +kernel
theorem dX12_hidden_90 : decode cX12_hidden 90 = .ok (.iconst 1, 1) := by decide +kernel
theorem dX12_hidden_91 : decode cX12_hidden 91 = .ok (.istore 4, 2) := by decide +kernel
theorem dX12_hidden_93 : decode cX12_hidden 93 = .ok (.iload 4, 2) := by decide +kernel
theorem dX12_hidden_95 : decode cX12_hidden 95 = .ok (.bipush 120, 2) := by decide +kernel
theorem dX12_hidden_97 : decode cX12_hidden 97 = .ok (.if_icmp .ge 59, 3) := by decide +kernel
theorem dX12_hidden_100 : decode cX12_hidden 100 = .ok (.aload_n 0, 1) := by decide +kernel
theorem dX12_hidden_101 : decode cX12_hidden 101 = .ok (.iload_n 1, 1) := by decide +kernel
theorem dX12_hidden_102 : decode cX12_hidden 102 = .ok (.iload 4, 2) := by decide +kernel
theorem dX12_hidden_104 : decode cX12_hidden 104 = .ok (.invokevirtual 116, 3) := by decide +kernel
theorem dX12_hidden_107 : decode cX12_hidden 107 = .ok (.iconst (-1), 1) := by decide +kernel
theorem dX12_hidden_108 : decode cX12_hidden 108 = .ok (.if_icmp .ne 42, 3) := by decide +kernel
theorem dX12_hidden_111 : decode cX12_hidden 111 = .ok (.aload_n 0, 1) := by decide +kernel
theorem dX12_hidden_112 : decode cX12_hidden 112 = .ok (.aload_n 0, 1) := by decide +kernel
theorem dX12_hidden_113 : decode cX12_hidden 113 = .ok (.getfield 84, 3) := by decide +kernel
theorem dX12_hidden_116 : decode cX12_hidden 116 = .ok (.iload 4, 2) := by decide +kernel
theorem dX12_hidden_118 : decode cX12_hidden 118 = .ok (.iconst 1, 1) := by decide +kernel
theorem dX12_hidden_119 : decode cX12_hidden 119 = .ok (.isub, 1) := by decide +kernel
theorem dX12_hidden_120 : decode cX12_hidden 120 = .ok (.iaload, 1) := by decide +kernel
theorem dX12_hidden_121 : decode cX12_hidden 121 = .ok (.aload_n 0, 1) := by decide +kernel
theorem dX12_hidden_122 : decode cX12_hidden 122 = .ok (.getfield 84, 3) := by decide +kernel
theorem dX12_hidden_125 : decode cX12_hidden 125 = .ok (.bipush 120, 2) := by decide +kernel
theorem dX12_hidden_127 : decode cX12_hidden 127 = .ok (.iload 4, 2) := by decide +kernel
theorem dX12_hidden_129 : decode cX12_hidden 129 = .ok (.imul, 1) := by decide +kernel
theorem dX12_hidden_130 : decode cX12_hidden 130 = .ok (.bipush 120, 2) := by decide +kernel
theorem dX12_hidden_132 : decode cX12_hidden 132 = .ok (.iadd, 1) := by decide +kernel
theorem dX12_hidden_133 : decode cX12_hidden 133 = .ok (.iconst 1, 1) := by decide +kernel
theorem dX12_hidden_134 : decode cX12_hidden 134 = .ok (.isub, 1) := by decide +kernel
theorem dX12_hidden_135 : decode cX12_hidden 135 = .ok (.iaload, 1) := by decide +kernel
theorem dX12_hidden_136 : decode cX12_hidden 136 = .ok (.invokestatic 310, 3) := by decide +kernel
theorem dX12_hidden_139 : decode cX12_hidden 139 = .ok (.iload_n 3, 1) := by decide +kernel
theorem dX12_hidden_140 : decode cX12_hidden 140 = .ok (.invokestatic 310, 3) := by decide +kernel
theorem dX12_hidden_143 : decode cX12_hidden 143 = .ok (.iconst 1, 1) := by decide +kernel
theorem dX12_hidden_144 : decode cX12_hidden 144 = .ok (.iload 4, 2) := by decide +kernel
theorem dX12_hidden_146 : decode cX12_hidden 146 = .ok (.iconst 0, 1) := by decide +kernel
theorem dX12_hidden_147 : decode cX12_hidden 147 = .ok (.invokevirtual 333, 3) := by decide +kernel
theorem dX12_hidden_150 : decode cX12_hidden 150 = .ok (.iinc 4 1, 3) := by decide +kernel
theorem dX12_hidden_153 : decode cX12_hidden 153 = .ok (.goto (-60), 3) := by decide +kernel
theorem dX12_hidden_156 : decode cX12_hidden 156 = .ok (.iconst 1, 1) := by decide +kernel
theorem dX12_hidden_157 : decode cX12_hidden 157 = .ok (.istore 4, 2) := by decide +kernel
theorem dX12_hidden_159 : decode cX12_hidden 159 = .ok (.iload 4, 2) := by decide +kernel
theorem dX12_hidden_161 : decode cX12_hidden 161 = .ok (.bipush 120, 2) := by decide +kernel
theorem dX12_hidden_163 : decode cX12_hidden 163 = .ok (.if_icmp .ge 113, 3) := by decide +kernel
theorem dX12_hidden_166 : decode cX12_hidden 166 = .ok (.aload_n 0, 1) := by decide +kernel
theorem dX12_hidden_167 : decode cX12_hidden 167 = .ok (.iload_n 1, 1) := by decide +kernel
theorem dX12_hidden_168 : decode cX12_hidden 168 = .ok (.iload 4, 2) := by decide +kernel
theorem dX12_hidden_170 : decode cX12_hidden 170 = .ok (.invokevirtual 116, 3) := by decide +kernel
theorem dX12_hidden_173 : decode cX12_hidden 173 = .ok (.iconst (-1), 1) := by decide +kernel
theorem dX12_hidden_174 : decode cX12_hidden 174 = .ok (.if_icmp .eq 6, 3) := by decide +kernel
theorem dX12_hidden_177 : decode cX12_hidden 177 = .ok (.goto 93, 3) := by decide +kernel
theorem dX12_hidden_180 : decode cX12_hidden 180 = .ok (.iload 4, 2) := by decide +kernel
theorem dX12_hidden_182 : decode cX12_hidden 182 = .ok (.iconst 1, 1) := by decide +kernel
theorem dX12_hidden_183 : decode cX12_hidden 183 = .ok (.iadd, 1) := by decide +kernel
theorem dX12_hidden_184 : decode cX12_hidden 184 = .ok (.istore 5, 2) := by decide +kernel
theorem dX12_hidden_186 : decode cX12_hidden 186 = .ok (.iload 5, 2) := by decide +kernel
theorem dX12_hidden_188 : decode cX12_hidden 188 = .ok (.bipush 120, 2) := by decide +kernel
theorem dX12_hidden_190 : decode cX12_hidden 190 = .ok (.if_icmp .ge 80, 3) := by decide +kernel
theorem dX12_hidden_193 : decode cX12_hidden 193 = .ok (.aload_n 0, 1) := by decide +kernel
theorem dX12_hidden_194 : decode cX12_hidden 194 = .ok (.iload_n 1, 1) := by decide +kernel
theorem dX12_hidden_195 : decode cX12_hidden 195 = .ok (.iload 5, 2) := by decide +kernel
theorem dX12_hidden_197 : decode cX12_hidden 197 = .ok (.invokevirtual 116, 3) := by decide +kernel
theorem dX12_hidden_200 : decode cX12_hidden 200 = .ok (.iconst (-1), 1) := by decide +kernel
theorem dX12_hidden_201 : decode cX12_hidden 201 = .ok (.if_icmp .ne 63, 3) := by decide +kernel
theorem dX12_hidden_204 : decode cX12_hidden 204 = .ok (.aload_n 0, 1) := by decide +kernel
theorem dX12_hidden_205 : decode cX12_hidden 205 = .ok (.aload_n 0, 1) := by decide +kernel
theorem dX12_hidden_206 : decode cX12_hidden 206 = .ok (.getfield 84, 3) := by decide +kernel
theorem dX12_hidden_209 : decode cX12_hidden 209 = .ok (.iload 4, 2) := by decide +kernel
theorem dX12_hidden_211 : decode cX12_hidden 211 = .ok (.iconst 1, 1) := by decide +kernel
theorem dX12_hidden_212 : decode cX12_hidden 212 = .ok (.isub, 1) := by decide +kernel
theorem dX12_hidden_213 : decode cX12_hidden 213 = .ok (.iaload, 1) := by decide +kernel
theorem dX12_hidden_214 : decode cX12_hidden 214 = .ok (.aload_n 0, 1) := by decide +kernel
theorem dX12_hidden_215 : decode cX12_hidden 215 = .ok (.getfield 84, 3) := by decide +kernel
theorem dX12_hidden_218 : decode cX12_hidden 218 = .ok (.bipush 120, 2) := by decide +kernel
theorem dX12_hidden_220 : decode cX12_hidden 220 = .ok (.iload 4, 2) := by decide +kernel
theorem dX12_hidden_222 : decode cX12_hidden 222 = .ok (.imul, 1) := by decide +kernel
theorem dX12_hidden_223 : decode cX12_hidden 223 = .ok (.iload 5, 2) := by decide +kernel
theorem dX12_hidden_225 : decode cX12_hidden 225 = .ok (.iadd, 1) := by decide +kernel
theorem dX12_hidden_226 : decode cX12_hidden 226 = .ok (.iconst 1, 1) := by decide +kernel
theorem dX12_hidden_227 : decode cX12_hidden 227 = .ok (.isub, 1) := by decide +kernel
theorem dX12_hidden_228 : decode cX12_hidden 228 = .ok (.iaload, 1) := by decide +kernel
theorem dX12_hidden_229 : decode cX12_hidden 229 = .ok (.invokestatic 310, 3) := by decide +kernel
theorem dX12_hidden_232 : decode cX12_hidden 232 = .ok (.aload_n 0, 1) := by decide +kernel
theorem dX12_hidden_233 : decode cX12_hidden 233 = .ok (.getfield 84, 3) := by decide +kernel
theorem dX12_hidden_236 : decode cX12_hidden 236 = .ok (.bipush 120, 2) := by decide +kernel
theorem dX12_hidden_238 : decode cX12_hidden 238 = .ok (.iload 5, 2) := by decide +kernel
theorem dX12_hidden_240 : decode cX12_hidden 240 = .ok (.imul, 1) := by decide +kernel
theorem dX12_hidden_241 : decode cX12_hidden 241 = .ok (.bipush 120, 2) := by decide +kernel
theorem dX12_hidden_243 : decode cX12_hidden 243 = .ok (.iadd, 1) := by decide +kernel
theorem dX12_hidden_244 : decode cX12_hidden 244 = .ok (.iconst 1, 1) := by decide +kernel
theorem dX12_hidden_245 : decode cX12_hidden 245 = .ok (.isub, 1) := by decide +kernel
theorem dX12_hidden_246 : decode cX12_hidden 246 = .ok (.iaload, 1) := by decide +kernel
theorem dX12_hidden_247 : decode cX12_hidden 247 = .ok (.iconst 2, 1) := by decide +kernel
theorem dX12_hidden_248 : decode cX12_hidden 248 = .ok (.iload_n 3, 1) := by decide +kernel
theorem dX12_hidden_249 : decode cX12_hidden 249 = .ok (.imul, 1) := by decide +kernel
theorem dX12_hidden_250 : decode cX12_hidden 250 = .ok (.invokestatic 310, 3) := by decide +kernel
theorem dX12_hidden_253 : decode cX12_hidden 253 = .ok (.invokestatic 310, 3) := by decide +kernel
theorem dX12_hidden_256 : decode cX12_hidden 256 = .ok (.iconst 2, 1) := by decide +kernel
theorem dX12_hidden_257 : decode cX12_hidden 257 = .ok (.iload 4, 2) := by decide +kernel
theorem dX12_hidden_259 : decode cX12_hidden 259 = .ok (.iload 5, 2) := by decide +kernel
theorem dX12_hidden_261 : decode cX12_hidden 261 = .ok (.invokevirtual 333, 3) := by decide +kernel
theorem dX12_hidden_264 : decode cX12_hidden 264 = .ok (.iinc 5 1, 3) := by decide +kernel
theorem dX12_hidden_267 : decode cX12_hidden 267 = .ok (.goto (-81), 3) := by decide +kernel
theorem dX12_hidden_270 : decode cX12_hidden 270 = .ok (.iinc 4 1, 3) := by decide +kernel
theorem dX12_hidden_273 : decode cX12_hidden 273 = .ok (.goto (-114), 3) := by decide +kernel
theorem dX12_hidden_276 : decode cX12_hidden 276 = .ok (.aload_n 0, 1) := by decide +kernel
theorem dX12_hidden_277 : decode cX12_hidden 277 = .ok (.getfield 317, 3) := by decide +kernel
theorem dX12_hidden_280 : decode cX12_hidden 280 = .ok (.iconst (-1), 1) := by decide +kernel
theorem dX12_hidden_281 : decode cX12_hidden 281 = .ok (.if_icmp .ne 5, 3) := by decide +kernel
theorem dX12_hidden_284 : decode cX12_hidden 284 = .ok (.iconst (-1), 1) := by decide +kernel
theorem dX12_hidden_285 : decode cX12_hidden 285 = .ok (.ireturn, 1) := by decide +kernel
theorem dX12_hidden_286 : decode cX12_hidden 286 = .ok (.aload_n 0, 1) := by decide +kernel
theorem dX12_hidden_287 : decode cX12_hidden 287 = .ok (.aload_n 0, 1) := by decide +kernel
theorem dX12_hidden_288 : decode cX12_hidden 288 = .ok (.getfield 317, 3) := by decide +kernel
theorem dX12_hidden_291 : decode cX12_hidden 291 = .ok (.putfield 96, 3) := by decide +kernel
theorem dX12_hidden_294 : decode cX12_hidden 294 = .ok (.aload_n 0, 1) := by decide +kernel
theorem dX12_hidden_295 : decode cX12_hidden 295 = .ok (.getfield 93, 3) := by decide +kernel
theorem dX12_hidden_298 : decode cX12_hidden 298 = .ok (.iconst 0, 1) := by decide +kernel
theorem dX12_hidden_299 : decode cX12_hidden 299 = .ok (.aload_n 0, 1) := by decide +kernel
theorem dX12_hidden_300 : decode cX12_hidden 300 = .ok (.getfield 323, 3) := by decide +kernel
theorem dX12_hidden_303 : decode cX12_hidden 303 = .ok (.iastore, 1) := by decide +kernel
theorem dX12_hidden_304 : decode cX12_hidden 304 = .ok (.aload_n 0, 1) := by decide +kernel
theorem dX12_hidden_305 : decode cX12_hidden 305 = .ok (.getfield 93, 3) := by decide +kernel
theorem dX12_hidden_308 : decode cX12_hidden 308 = .ok (.iconst 1, 1) := by decide +kernel
theorem dX12_hidden_309 : decode cX12_hidden 309 = .ok (.aload_n 0, 1) := by decide +kernel
theorem dX12_hidden_310 : decode cX12_hidden 310 = .ok (.getfield 326, 3) := by decide +kernel
theorem dX12_hidden_313 : decode cX12_hidden 313 = .ok (.iastore, 1) := by decide +kernel
theorem dX12_hidden_314 : decode cX12_hidden 314 = .ok (.aload_n 0, 1) := by decide +kernel
theorem dX12_hidden_315 : decode cX12_hidden 315 = .ok (.getfield 320, 3) := by decide +kernel
theorem dX12_hidden_318 : decode cX12_hidden 318 = .ok (.ireturn, 1) := by decide +kernel
theorem dX12_hid_0 : decode cX12_hid 0 = .ok (.iload_n 1, 1) := by decide +kernel
theorem dX12_hid_1 : decode cX12_hid 1 = .ok (.iconst 0, 1) := by decide +kernel
theorem dX12_hid_2 : decode cX12_hid 2 = .ok (.aload_n 0, 1) := by decide +kernel
theorem dX12_hid_3 : decode cX12_hid 3 = .ok (.getfield 96, 3) := by decide +kernel
theorem dX12_hid_6 : decode cX12_hid 6 = .ok (.iconst 1, 1) := by decide +kernel
theorem dX12_hid_7 : decode cX12_hid 7 = .ok (.isub, 1) := by decide +kernel
theorem dX12_hid_8 : decode cX12_hid 8 = .ok (.invokestatic 3, 3) := by decide +kernel
theorem dX12_hid_11 : decode cX12_hid 11 = .ok (.ifCond .eq 12, 3) := by decide +kernel
theorem dX12_hid_14 : decode cX12_hid 14 = .ok (.aload_n 0, 1) := by decide +kernel
theorem dX12_hid_15 : decode cX12_hid 15 = .ok (.getfield 93, 3) := by decide +kernel
theorem dX12_hid_18 : decode cX12_hid 18 = .ok (.iload_n 1, 1) := by decide +kernel
theorem dX12_hid_19 : decode cX12_hid 19 = .ok (.iaload, 1) := by decide +kernel
theorem dX12_hid_20 : decode cX12_hid 20 = .ok (.goto 4, 3) := by decide +kernel
theorem dX12_hid_23 : decode cX12_hid 23 = .ok (.iconst (-1), 1) := by decide +kernel
theorem dX12_hid_24 : decode cX12_hid 24 = .ok (.ireturn, 1) := by decide +kernel
theorem dX12_call_0 : decode cX12_call 0 = .ok (.iload_n 1, 1) := by decide +kernel
theorem dX12_call_1 : decode cX12_call 1 = .ok (.invokestatic 109, 3) := by decide +kernel
theorem dX12_call_4 : decode cX12_call 4 = .ok (.ifCond .ne 9, 3) := by decide +kernel
theorem dX12_call_7 : decode cX12_call 7 = .ok (.aload_n 0, 1) := by decide +kernel
theorem dX12_call_8 : decode cX12_call 8 = .ok (.iconst (-1), 1) := by decide +kernel
theorem dX12_call_9 : decode cX12_call 9 = .ok (.invokevirtual 106, 3) := by decide +kernel
theorem dX12_call_12 : decode cX12_call 12 = .ok (.ireturn, 1) := by decide +kernel
theorem dX12_call_13 : decode cX12_call 13 = .ok (.iconst 0, 1) := by decide +kernel
theorem dX12_call_14 : decode cX12_call 14 = .ok (.istore_n 2, 1) := by decide +kernel
theorem dX12_call_15 : decode cX12_call 15 = .ok (.iload_n 2, 1) := by decide +kernel
theorem dX12_call_16 : decode cX12_call 16 = .ok (.aload_n 0, 1) := by decide +kernel
theorem dX12_call_17 : decode cX12_call 17 = .ok (.getfield 336, 3) := by decide +kernel
theorem dX12_call_20 : decode cX12_call 20 = .ok (.if_icmp .ge 26, 3) := by decide +kernel
theorem dX12_call_23 : decode cX12_call 23 = .ok (.aload_n 0, 1) := by decide +kernel
theorem dX12_call_24 : decode cX12_call 24 = .ok (.getfield 99, 3) := by decide +kernel
theorem dX12_call_27 : decode cX12_call 27 = .ok (.iload_n 2, 1) := by decide +kernel
theorem dX12_call_28 : decode cX12_call 28 = .ok (.iaload, 1) := by decide +kernel
theorem dX12_call_29 : decode cX12_call 29 = .ok (.iload_n 1, 1) := by decide +kernel
theorem dX12_call_30 : decode cX12_call 30 = .ok (.if_icmp .ne 10, 3) := by decide +kernel
theorem dX12_call_33 : decode cX12_call 33 = .ok (.aload_n 0, 1) := by decide +kernel
theorem dX12_call_34 : decode cX12_call 34 = .ok (.bipush (-4), 2) := by decide +kernel
theorem dX12_call_36 : decode cX12_call 36 = .ok (.invokevirtual 106, 3) := by decide +kernel
theorem dX12_call_39 : decode cX12_call 39 = .ok (.ireturn, 1) := by decide +kernel
theorem dX12_call_40 : decode cX12_call 40 = .ok (.iinc 2 1, 3) := by decide +kernel
theorem dX12_call_43 : decode cX12_call 43 = .ok (.goto (-28), 3) := by decide +kernel
theorem dX12_call_46 : decode cX12_call 46 = .ok (.aload_n 0, 1) := by decide +kernel
theorem dX12_call_47 : decode cX12_call 47 = .ok (.getfield 336, 3) := by decide +kernel
theorem dX12_call_50 : decode cX12_call 50 = .ok (.bipush 7, 2) := by decide +kernel
theorem dX12_call_52 : decode cX12_call 52 = .ok (.if_icmp .ne 10, 3) := by decide +kernel
theorem dX12_call_55 : decode cX12_call 55 = .ok (.aload_n 0, 1) := by decide +kernel
theorem dX12_call_56 : decode cX12_call 56 = .ok (.bipush (-5), 2) := by decide +kernel
theorem dX12_call_58 : decode cX12_call 58 = .ok (.invokevirtual 106, 3) := by decide +kernel
theorem dX12_call_61 : decode cX12_call 61 = .ok (.ireturn, 1) := by decide +kernel
theorem dX12_call_62 : decode cX12_call 62 = .ok (.aload_n 0, 1) := by decide +kernel
theorem dX12_call_63 : decode cX12_call 63 = .ok (.getfield 99, 3) := by decide +kernel
theorem dX12_call_66 : decode cX12_call 66 = .ok (.aload_n 0, 1) := by decide +kernel
theorem dX12_call_67 : decode cX12_call 67 = .ok (.getfield 336, 3) := by decide +kernel
theorem dX12_call_70 : decode cX12_call 70 = .ok (.iload_n 1, 1) := by decide +kernel
theorem dX12_call_71 : decode cX12_call 71 = .ok (.iastore, 1) := by decide +kernel
theorem dX12_call_72 : decode cX12_call 72 = .ok (.aload_n 0, 1) := by decide +kernel
theorem dX12_call_73 : decode cX12_call 73 = .ok (.dup, 1) := by decide +kernel
theorem dX12_call_74 : decode cX12_call 74 = .ok (.getfield 336, 3) := by decide +kernel
theorem dX12_call_77 : decode cX12_call 77 = .ok (.iconst 1, 1) := by decide +kernel
theorem dX12_call_78 : decode cX12_call 78 = .ok (.iadd, 1) := by decide +kernel
theorem dX12_call_79 : decode cX12_call 79 = .ok (.putfield 336, 3) := by decide +kernel
theorem dX12_call_82 : decode cX12_call 82 = .ok (.aload_n 0, 1) := by decide +kernel
theorem dX12_call_83 : decode cX12_call 83 = .ok (.aload_n 0, 1) := by decide +kernel
theorem dX12_call_84 : decode cX12_call 84 = .ok (.getfield 336, 3) := by decide +kernel
theorem dX12_call_87 : decode cX12_call 87 = .ok (.invokevirtual 106, 3) := by decide +kernel
theorem dX12_call_90 : decode cX12_call 90 = .ok (.ireturn, 1) := by decide +kernel
theorem dX12_clear_0 : decode cX12_clear 0 = .ok (.aload_n 0, 1) := by decide +kernel
theorem dX12_clear_1 : decode cX12_clear 1 = .ok (.getfield 336, 3) := by decide +kernel
theorem dX12_clear_4 : decode cX12_clear 4 = .ok (.istore_n 1, 1) := by decide +kernel
theorem dX12_clear_5 : decode cX12_clear 5 = .ok (.aload_n 0, 1) := by decide +kernel
theorem dX12_clear_6 : decode cX12_clear 6 = .ok (.iconst 0, 1) := by decide +kernel
theorem dX12_clear_7 : decode cX12_clear 7 = .ok (.putfield 336, 3) := by decide +kernel
theorem dX12_clear_10 : decode cX12_clear 10 = .ok (.iload_n 1, 1) := by decide +kernel
theorem dX12_clear_11 : decode cX12_clear 11 = .ok (.ireturn, 1) := by decide +kernel
theorem dX12_isCall_0 : decode cX12_isCall 0 = .ok (.iconst 0, 1) := by decide +kernel
theorem dX12_isCall_1 : decode cX12_isCall 1 = .ok (.istore_n 3, 1) := by decide +kernel
theorem dX12_isCall_2 : decode cX12_isCall 2 = .ok (.iload_n 3, 1) := by decide +kernel
theorem dX12_isCall_3 : decode cX12_isCall 3 = .ok (.aload_n 0, 1) := by decide +kernel
theorem dX12_isCall_4 : decode cX12_isCall 4 = .ok (.getfield 336, 3) := by decide +kernel
theorem dX12_isCall_7 : decode cX12_isCall 7 = .ok (.if_icmp .ge 30, 3) := by decide +kernel
theorem dX12_isCall_10 : decode cX12_isCall 10 = .ok (.iload_n 1, 1) := by decide +kernel
theorem dX12_isCall_11 : decode cX12_isCall 11 = .ok (.iload_n 3, 1) := by decide +kernel
theorem dX12_isCall_12 : decode cX12_isCall 12 = .ok (.ishr, 1) := by decide +kernel
theorem dX12_isCall_13 : decode cX12_isCall 13 = .ok (.iconst 1, 1) := by decide +kernel
theorem dX12_isCall_14 : decode cX12_isCall 14 = .ok (.iand, 1) := by decide +kernel
theorem dX12_isCall_15 : decode cX12_isCall 15 = .ok (.iconst 1, 1) := by decide +kernel
theorem dX12_isCall_16 : decode cX12_isCall 16 = .ok (.if_icmp .ne 15, 3) := by decide +kernel
theorem dX12_isCall_19 : decode cX12_isCall 19 = .ok (.aload_n 0, 1) := by decide +kernel
theorem dX12_isCall_20 : decode cX12_isCall 20 = .ok (.getfield 99, 3) := by decide +kernel
theorem dX12_isCall_23 : decode cX12_isCall 23 = .ok (.iload_n 3, 1) := by decide +kernel
theorem dX12_isCall_24 : decode cX12_isCall 24 = .ok (.iaload, 1) := by decide +kernel
theorem dX12_isCall_25 : decode cX12_isCall 25 = .ok (.iload_n 2, 1) := by decide +kernel
theorem dX12_isCall_26 : decode cX12_isCall 26 = .ok (.if_icmp .ne 5, 3) := by decide +kernel
theorem dX12_isCall_29 : decode cX12_isCall 29 = .ok (.iconst 1, 1) := by decide +kernel
theorem dX12_isCall_30 : decode cX12_isCall 30 = .ok (.ireturn, 1) := by decide +kernel
theorem dX12_isCall_31 : decode cX12_isCall 31 = .ok (.iinc 3 1, 3) := by decide +kernel
theorem dX12_isCall_34 : decode cX12_isCall 34 = .ok (.goto (-32), 3) := by decide +kernel
theorem dX12_isCall_37 : decode cX12_isCall 37 = .ok (.iconst 0, 1) := by decide +kernel
theorem dX12_isCall_38 : decode cX12_isCall 38 = .ok (.ireturn, 1) := by decide +kernel
theorem dX12_costOf_0 : decode cX12_costOf 0 = .ok (.lconst 0, 1) := by decide +kernel
theorem dX12_costOf_1 : decode cX12_costOf 1 = .ok (.lstore 6, 2) := by decide +kernel
theorem dX12_costOf_3 : decode cX12_costOf 3 = .ok (.iload 5, 2) := by decide +kernel
theorem dX12_costOf_5 : decode cX12_costOf 5 = .ok (.istore 8, 2) := by decide +kernel
theorem dX12_costOf_7 : decode cX12_costOf 7 = .ok (.iload_n 3, 1) := by decide +kernel
theorem dX12_costOf_8 : decode cX12_costOf 8 = .ok (.istore 9, 2) := by decide +kernel
theorem dX12_costOf_10 : decode cX12_costOf 10 = .ok (.iload 9, 2) := by decide +kernel
theorem dX12_costOf_12 : decode cX12_costOf 12 = .ok (.iload 4, 2) := by decide +kernel
theorem dX12_costOf_14 : decode cX12_costOf 14 = .ok (.if_icmp .gt 129, 3) := by decide +kernel
theorem dX12_costOf_17 : decode cX12_costOf 17 = .ok (.aload_n 0, 1) := by decide +kernel
theorem dX12_costOf_18 : decode cX12_costOf 18 = .ok (.iload_n 1, 1) := by decide +kernel
theorem dX12_costOf_19 : decode cX12_costOf 19 = .ok (.iload 9, 2) := by decide +kernel
theorem dX12_costOf_21 : decode cX12_costOf 21 = .ok (.invokevirtual 116, 3) := by decide +kernel
theorem dX12_costOf_24 : decode cX12_costOf 24 = .ok (.istore 10, 2) := by decide +kernel
theorem dX12_costOf_26 : decode cX12_costOf 26 = .ok (.iload 9, 2) := by decide +kernel
theorem dX12_costOf_28 : decode cX12_costOf 28 = .ok (.iload_n 3, 1) := by decide +kernel
theorem dX12_costOf_29 : decode cX12_costOf 29 = .ok (.if_icmp .le 56, 3) := by decide +kernel
theorem dX12_costOf_32 : decode cX12_costOf 32 = .ok (.iload 10, 2) := by decide +kernel
theorem dX12_costOf_34 : decode cX12_costOf 34 = .ok (.iconst (-1), 1) := by decide +kernel
theorem dX12_costOf_35 : decode cX12_costOf 35 = .ok (.if_icmp .eq 8, 3) := by decide +kernel
theorem dX12_costOf_38 : decode cX12_costOf 38 = .ok (.iload 10, 2) := by decide +kernel
theorem dX12_costOf_40 : decode cX12_costOf 40 = .ok (.goto 16, 3) := by decide +kernel
theorem dX12_costOf_43 : decode cX12_costOf 43 = .ok (.iload 8, 2) := by decide +kernel
theorem dX12_costOf_45 : decode cX12_costOf 45 = .ok (.aload_n 0, 1) := by decide +kernel
theorem dX12_costOf_46 : decode cX12_costOf 46 = .ok (.iload_n 1, 1) := by decide +kernel
theorem dX12_costOf_47 : decode cX12_costOf 47 = .ok (.iload 9, 2) := by decide +kernel
theorem dX12_costOf_49 : decode cX12_costOf 49 = .ok (.iconst 1, 1) := by decide +kernel
theorem dX12_costOf_50 : decode cX12_costOf 50 = .ok (.isub, 1) := by decide +kernel
theorem dX12_costOf_51 : decode cX12_costOf 51 = .ok (.iconst 1, 1) := by decide +kernel
theorem dX12_costOf_52 : decode cX12_costOf 52 = .ok (.invokevirtual 137, 3) := by decide +kernel
theorem dX12_costOf_55 : decode cX12_costOf 55 = .ok (.iadd, 1) := by decide +kernel
theorem dX12_costOf_56 : decode cX12_costOf 56 = .ok (.istore 8, 2) := by decide +kernel
theorem dX12_costOf_58 : decode cX12_costOf 58 = .ok (.iload 8, 2) := by decide +kernel
theorem dX12_costOf_60 : decode cX12_costOf 60 = .ok (.ifCond .ge 7, 3) := by decide +kernel
theorem dX12_costOf_63 : decode cX12_costOf 63 = .ok (.iconst 0, 1) := by decide +kernel
theorem dX12_costOf_64 : decode cX12_costOf 64 = .ok (.goto 19, 3) := by decide +kernel
theorem dX12_costOf_67 : decode cX12_costOf 67 = .ok (.iload 8, 2) := by decide +kernel
theorem dX12_costOf_69 : decode cX12_costOf 69 = .ok (.sipush 1000, 3) := by decide +kernel
theorem dX12_costOf_72 : decode cX12_costOf 72 = .ok (.if_icmp .le 9, 3) := by decide +kernel
theorem dX12_costOf_75 : decode cX12_costOf 75 = .ok (.sipush 1000, 3) := by decide +kernel
theorem dX12_costOf_78 : decode cX12_costOf 78 = .ok (.goto 5, 3) := by decide +kernel
theorem dX12_costOf_81 : decode cX12_costOf 81 = .ok (.iload 8, 2) := by decide +kernel
theorem dX12_costOf_83 : decode cX12_costOf 83 = .ok (.istore 8, 2) := by decide +kernel
theorem dX12_costOf_85 : decode cX12_costOf 85 = .ok (.aload_n 0, 1) := by decide +kernel
theorem dX12_costOf_86 : decode cX12_costOf 86 = .ok (.iload_n 2, 1) := by decide +kernel
theorem dX12_costOf_87 : decode cX12_costOf 87 = .ok (.iload 9, 2) := by decide +kernel
theorem dX12_costOf_89 : decode cX12_costOf 89 = .ok (.invokevirtual 339, 3) := by decide +kernel
theorem dX12_costOf_92 : decode cX12_costOf 92 = .ok (.ifCond .eq 20, 3) := by decide +kernel
theorem dX12_costOf_95 : decode cX12_costOf 95 = .ok (.iconst 0, 1) := by decide +kernel
theorem dX12_costOf_96 : decode cX12_costOf 96 = .ok (.istore 8, 2) := by decide +kernel
theorem dX12_costOf_98 : decode cX12_costOf 98 = .ok (.lload 6, 2) := by decide +kernel
theorem dX12_costOf_100 : decode cX12_costOf 100 = .ok (.aload_n 0, 1) := by decide +kernel
theorem dX12_costOf_101 : decode cX12_costOf 101 = .ok (.getfield 17, 3) := by decide +kernel
theorem dX12_costOf_104 : decode cX12_costOf 104 = .ok (.sipush 720, 3) := by decide +kernel
theorem dX12_costOf_107 : decode cX12_costOf 107 = .ok (.iaload, 1) := by decide +kernel
theorem dX12_costOf_108 : decode cX12_costOf 108 = .ok (.i2l, 1) := by decide +kernel
theorem dX12_costOf_109 : decode cX12_costOf 109 = .ok (.ladd, 1) := by decide +kernel
theorem dX12_costOf_110 : decode cX12_costOf 110 = .ok (.lstore 6, 2) := by decide +kernel
theorem dX12_costOf_112 : decode cX12_costOf 112 = .ok (.lload 6, 2) := by decide +kernel
theorem dX12_costOf_114 : decode cX12_costOf 114 = .ok (.aload_n 0, 1) := by decide +kernel
theorem dX12_costOf_115 : decode cX12_costOf 115 = .ok (.iload_n 1, 1) := by decide +kernel
theorem dX12_costOf_116 : decode cX12_costOf 116 = .ok (.iload 9, 2) := by decide +kernel
theorem dX12_costOf_118 : decode cX12_costOf 118 = .ok (.iload 8, 2) := by decide +kernel
theorem dX12_costOf_120 : decode cX12_costOf 120 = .ok (.invokevirtual 189, 3) := by decide +kernel
theorem dX12_costOf_123 : decode cX12_costOf 123 = .ok (.i2l, 1) := by decide +kernel
theorem dX12_costOf_124 : decode cX12_costOf 124 = .ok (.aload_n 0, 1) := by decide +kernel
theorem dX12_costOf_125 : decode cX12_costOf 125 = .ok (.getfield 17, 3) := by decide +kernel
theorem dX12_costOf_128 : decode cX12_costOf 128 = .ok (.sipush 719, 3) := by decide +kernel
theorem dX12_costOf_131 : decode cX12_costOf 131 = .ok (.iaload, 1) := by decide +kernel
theorem dX12_costOf_132 : decode cX12_costOf 132 = .ok (.i2l, 1) := by decide +kernel
theorem dX12_costOf_133 : decode cX12_costOf 133 = .ok (.lmul, 1) := by decide +kernel
theorem dX12_costOf_134 : decode cX12_costOf 134 = .ok (.ladd, 1) := by decide +kernel
theorem dX12_costOf_135 : decode cX12_costOf 135 = .ok (.lstore 6, 2) := by decide +kernel
theorem dX12_costOf_137 : decode cX12_costOf 137 = .ok (.iinc 9 1, 3) := by decide +kernel
theorem dX12_costOf_140 : decode cX12_costOf 140 = .ok (.goto (-130), 3) := by decide +kernel
theorem dX12_costOf_143 : decode cX12_costOf 143 = .ok (.lload 6, 2) := by decide +kernel
theorem dX12_costOf_145 : decode cX12_costOf 145 = .ok (.lreturn, 1) := by decide +kernel
theorem dX12_plan_0 : decode cX12_plan 0 = .ok (.aload_n 0, 1) := by decide +kernel
theorem dX12_plan_1 : decode cX12_plan 1 = .ok (.iload_n 1, 1) := by decide +kernel
theorem dX12_plan_2 : decode cX12_plan 2 = .ok (.iload_n 2, 1) := by decide +kernel
theorem dX12_plan_3 : decode cX12_plan 3 = .ok (.iload 4, 2) := by decide +kernel
theorem dX12_plan_5 : decode cX12_plan 5 = .ok (.invokevirtual 174, 3) := by decide +kernel
theorem dX12_plan_8 : decode cX12_plan 8 = .ok (.ifCond .eq 28, 3) := by decide +kernel
theorem dX12_plan_11 : decode cX12_plan 11 = .ok (.iload_n 3, 1) := by decide +kernel
theorem dX12_plan_12 : decode cX12_plan 12 = .ok (.iload_n 2, 1) := by decide +kernel
theorem dX12_plan_13 : decode cX12_plan 13 = .ok (.bipush 119, 2) := by decide +kernel
theorem dX12_plan_15 : decode cX12_plan 15 = .ok (.invokestatic 3, 3) := by decide +kernel
theorem dX12_plan_18 : decode cX12_plan 18 = .ok (.ifCond .eq 18, 3) := by decide +kernel
theorem dX12_plan_21 : decode cX12_plan 21 = .ok (.aload_n 0, 1) := by decide +kernel
theorem dX12_plan_22 : decode cX12_plan 22 = .ok (.iload_n 1, 1) := by decide +kernel
theorem dX12_plan_23 : decode cX12_plan 23 = .ok (.aload_n 0, 1) := by decide +kernel
theorem dX12_plan_24 : decode cX12_plan 24 = .ok (.iload_n 1, 1) := by decide +kernel
theorem dX12_plan_25 : decode cX12_plan 25 = .ok (.iload 4, 2) := by decide +kernel
theorem dX12_plan_27 : decode cX12_plan 27 = .ok (.invokevirtual 177, 3) := by decide +kernel
theorem dX12_plan_30 : decode cX12_plan 30 = .ok (.invokevirtual 180, 3) := by decide +kernel
theorem dX12_plan_33 : decode cX12_plan 33 = .ok (.ifCond .ne 5, 3) := by decide +kernel
theorem dX12_plan_36 : decode cX12_plan 36 = .ok (.iconst (-1), 1) := by decide +kernel
theorem dX12_plan_37 : decode cX12_plan 37 = .ok (.ireturn, 1) := by decide +kernel
theorem dX12_plan_38 : decode cX12_plan 38 = .ok (.aload_n 0, 1) := by decide +kernel
theorem dX12_plan_39 : decode cX12_plan 39 = .ok (.getfield 31, 3) := by decide +kernel
theorem dX12_plan_42 : decode cX12_plan 42 = .ok (.iload_n 2, 1) := by decide +kernel
theorem dX12_plan_43 : decode cX12_plan 43 = .ok (.iaload, 1) := by decide +kernel
theorem dX12_plan_44 : decode cX12_plan 44 = .ok (.istore 5, 2) := by decide +kernel
theorem dX12_plan_46 : decode cX12_plan 46 = .ok (.iconst 0, 1) := by decide +kernel
theorem dX12_plan_47 : decode cX12_plan 47 = .ok (.istore 6, 2) := by decide +kernel
theorem dX12_plan_49 : decode cX12_plan 49 = .ok (.aload_n 0, 1) := by decide +kernel
theorem dX12_plan_50 : decode cX12_plan 50 = .ok (.iload_n 1, 1) := by decide +kernel
theorem dX12_plan_51 : decode cX12_plan 51 = .ok (.iconst 0, 1) := by decide +kernel
theorem dX12_plan_52 : decode cX12_plan 52 = .ok (.iload_n 2, 1) := by decide +kernel
theorem dX12_plan_53 : decode cX12_plan 53 = .ok (.iload_n 3, 1) := by decide +kernel
theorem dX12_plan_54 : decode cX12_plan 54 = .ok (.iload 5, 2) := by decide +kernel
theorem dX12_plan_56 : decode cX12_plan 56 = .ok (.invokevirtual 342, 3) := by decide +kernel
theorem dX12_plan_59 : decode cX12_plan 59 = .ok (.lstore 7, 2) := by decide +kernel
theorem dX12_plan_61 : decode cX12_plan 61 = .ok (.iconst 1, 1) := by decide +kernel
theorem dX12_plan_62 : decode cX12_plan 62 = .ok (.istore 9, 2) := by decide +kernel
theorem dX12_plan_64 : decode cX12_plan 64 = .ok (.iload 9, 2) := by decide +kernel
theorem dX12_plan_66 : decode cX12_plan 66 = .ok (.iconst 1, 1) := by decide +kernel
theorem dX12_plan_67 : decode cX12_plan 67 = .ok (.aload_n 0, 1) := by decide +kernel
theorem dX12_plan_68 : decode cX12_plan 68 = .ok (.getfield 336, 3) := by decide +kernel
theorem dX12_plan_71 : decode cX12_plan 71 = .ok (.ishl, 1) := by decide +kernel
theorem dX12_plan_72 : decode cX12_plan 72 = .ok (.if_icmp .ge 62, 3) := by decide +kernel
theorem dX12_plan_75 : decode cX12_plan 75 = .ok (.aload_n 0, 1) := by decide +kernel
theorem dX12_plan_76 : decode cX12_plan 76 = .ok (.iload_n 1, 1) := by decide +kernel
theorem dX12_plan_77 : decode cX12_plan 77 = .ok (.iload 9, 2) := by decide +kernel
theorem dX12_plan_79 : decode cX12_plan 79 = .ok (.iload_n 2, 1) := by decide +kernel
theorem dX12_plan_80 : decode cX12_plan 80 = .ok (.iload_n 3, 1) := by decide +kernel
theorem dX12_plan_81 : decode cX12_plan 81 = .ok (.iload 5, 2) := by decide +kernel
theorem dX12_plan_83 : decode cX12_plan 83 = .ok (.invokevirtual 342, 3) := by decide +kernel
theorem dX12_plan_86 : decode cX12_plan 86 = .ok (.lstore 10, 2) := by decide +kernel
theorem dX12_plan_88 : decode cX12_plan 88 = .ok (.lload 10, 2) := by decide +kernel
theorem dX12_plan_90 : decode cX12_plan 90 = .ok (.lload 7, 2) := by decide +kernel
theorem dX12_plan_92 : decode cX12_plan 92 = .ok (.lcmp, 1) := by decide +kernel
theorem dX12_plan_93 : decode cX12_plan 93 = .ok (.ifCond .gt 35, 3) := by decide +kernel
theorem dX12_plan_96 : decode cX12_plan 96 = .ok (.lload 10, 2) := by decide +kernel
theorem dX12_plan_98 : decode cX12_plan 98 = .ok (.lload 7, 2) := by decide +kernel
theorem dX12_plan_100 : decode cX12_plan 100 = .ok (.lcmp, 1) := by decide +kernel
theorem dX12_plan_101 : decode cX12_plan 101 = .ok (.ifCond .ne 19, 3) := by decide +kernel
theorem dX12_plan_104 : decode cX12_plan 104 = .ok (.iload 9, 2) := by decide +kernel
theorem dX12_plan_106 : decode cX12_plan 106 = .ok (.invokestatic 201, 3) := by decide +kernel
theorem dX12_plan_109 : decode cX12_plan 109 = .ok (.iload 6, 2) := by decide +kernel
theorem dX12_plan_111 : decode cX12_plan 111 = .ok (.invokestatic 201, 3) := by decide +kernel
theorem dX12_plan_114 : decode cX12_plan 114 = .ok (.if_icmp .lt 6, 3) := by decide +kernel
theorem dX12_plan_117 : decode cX12_plan 117 = .ok (.goto 11, 3) := by decide +kernel
theorem dX12_plan_120 : decode cX12_plan 120 = .ok (.iload 9, 2) := by decide +kernel
theorem dX12_plan_122 : decode cX12_plan 122 = .ok (.istore 6, 2) := by decide +kernel
theorem dX12_plan_124 : decode cX12_plan 124 = .ok (.lload 10, 2) := by decide +kernel
theorem dX12_plan_126 : decode cX12_plan 126 = .ok (.lstore 7, 2) := by decide +kernel
theorem dX12_plan_128 : decode cX12_plan 128 = .ok (.iinc 9 1, 3) := by decide +kernel
theorem dX12_plan_131 : decode cX12_plan 131 = .ok (.goto (-67), 3) := by decide +kernel
theorem dX12_plan_134 : decode cX12_plan 134 = .ok (.iload 6, 2) := by decide +kernel
theorem dX12_plan_136 : decode cX12_plan 136 = .ok (.ireturn, 1) := by decide +kernel
theorem dX12_judge_0 : decode cX12_judge 0 = .ok (.aload_n 0, 1) := by decide +kernel
theorem dX12_judge_1 : decode cX12_judge 1 = .ok (.iload_n 1, 1) := by decide +kernel
theorem dX12_judge_2 : decode cX12_judge 2 = .ok (.iload_n 3, 1) := by decide +kernel
theorem dX12_judge_3 : decode cX12_judge 3 = .ok (.iload 5, 2) := by decide +kernel
theorem dX12_judge_5 : decode cX12_judge 5 = .ok (.invokevirtual 174, 3) := by decide +kernel
theorem dX12_judge_8 : decode cX12_judge 8 = .ok (.ifCond .eq 42, 3) := by decide +kernel
theorem dX12_judge_11 : decode cX12_judge 11 = .ok (.iload 4, 2) := by decide +kernel
theorem dX12_judge_13 : decode cX12_judge 13 = .ok (.iload_n 3, 1) := by decide +kernel
theorem dX12_judge_14 : decode cX12_judge 14 = .ok (.bipush 119, 2) := by decide +kernel
theorem dX12_judge_16 : decode cX12_judge 16 = .ok (.invokestatic 3, 3) := by decide +kernel
theorem dX12_judge_19 : decode cX12_judge 19 = .ok (.ifCond .eq 31, 3) := by decide +kernel
theorem dX12_judge_22 : decode cX12_judge 22 = .ok (.iload_n 2, 1) := by decide +kernel
theorem dX12_judge_23 : decode cX12_judge 23 = .ok (.ifCond .lt 27, 3) := by decide +kernel
theorem dX12_judge_26 : decode cX12_judge 26 = .ok (.iload_n 2, 1) := by decide +kernel
theorem dX12_judge_27 : decode cX12_judge 27 = .ok (.aload_n 0, 1) := by decide +kernel
theorem dX12_judge_28 : decode cX12_judge 28 = .ok (.getfield 336, 3) := by decide +kernel
theorem dX12_judge_31 : decode cX12_judge 31 = .ok (.ishr, 1) := by decide +kernel
theorem dX12_judge_32 : decode cX12_judge 32 = .ok (.ifCond .ne 18, 3) := by decide +kernel
theorem dX12_judge_35 : decode cX12_judge 35 = .ok (.aload_n 0, 1) := by decide +kernel
theorem dX12_judge_36 : decode cX12_judge 36 = .ok (.iload_n 1, 1) := by decide +kernel
theorem dX12_judge_37 : decode cX12_judge 37 = .ok (.aload_n 0, 1) := by decide +kernel
theorem dX12_judge_38 : decode cX12_judge 38 = .ok (.iload_n 1, 1) := by decide +kernel
theorem dX12_judge_39 : decode cX12_judge 39 = .ok (.iload 5, 2) := by decide +kernel
theorem dX12_judge_41 : decode cX12_judge 41 = .ok (.invokevirtual 177, 3) := by decide +kernel
theorem dX12_judge_44 : decode cX12_judge 44 = .ok (.invokevirtual 180, 3) := by decide +kernel
theorem dX12_judge_47 : decode cX12_judge 47 = .ok (.ifCond .ne 7, 3) := by decide +kernel
theorem dX12_judge_50 : decode cX12_judge 50 = .ok (.ldc2_w 187, 3) := by decide +kernel
theorem dX12_judge_53 : decode cX12_judge 53 = .ok (.lreturn, 1) := by decide +kernel
theorem dX12_judge_54 : decode cX12_judge 54 = .ok (.aload_n 0, 1) := by decide +kernel
theorem dX12_judge_55 : decode cX12_judge 55 = .ok (.iload_n 1, 1) := by decide +kernel
theorem dX12_judge_56 : decode cX12_judge 56 = .ok (.iload_n 2, 1) := by decide +kernel
theorem dX12_judge_57 : decode cX12_judge 57 = .ok (.iload_n 3, 1) := by decide +kernel
theorem dX12_judge_58 : decode cX12_judge 58 = .ok (.iload 4, 2) := by decide +kernel
theorem dX12_judge_60 : decode cX12_judge 60 = .ok (.aload_n 0, 1) := by decide +kernel
theorem dX12_judge_61 : decode cX12_judge 61 = .ok (.getfield 31, 3) := by decide +kernel
theorem dX12_judge_64 : decode cX12_judge 64 = .ok (.iload_n 3, 1) := by decide +kernel
theorem dX12_judge_65 : decode cX12_judge 65 = .ok (.iaload, 1) := by decide +kernel
theorem dX12_judge_66 : decode cX12_judge 66 = .ok (.invokevirtual 342, 3) := by decide +kernel
theorem dX12_judge_69 : decode cX12_judge 69 = .ok (.lreturn, 1) := by decide +kernel
theorem dX12_sumOf_0 : decode cX12_sumOf 0 = .ok (.iconst 0, 1) := by decide +kernel
theorem dX12_sumOf_1 : decode cX12_sumOf 1 = .ok (.istore_n 1, 1) := by decide +kernel
theorem dX12_sumOf_2 : decode cX12_sumOf 2 = .ok (.iconst 0, 1) := by decide +kernel
theorem dX12_sumOf_3 : decode cX12_sumOf 3 = .ok (.istore_n 2, 1) := by decide +kernel
theorem dX12_sumOf_4 : decode cX12_sumOf 4 = .ok (.iload_n 2, 1) := by decide +kernel
theorem dX12_sumOf_5 : decode cX12_sumOf 5 = .ok (.aload_n 0, 1) := by decide +kernel
theorem dX12_sumOf_6 : decode cX12_sumOf 6 = .ok (.iconst 3, 1) := by decide +kernel
theorem dX12_sumOf_7 : decode cX12_sumOf 7 = .ok (.invokevirtual 102, 3) := by decide +kernel
theorem dX12_sumOf_10 : decode cX12_sumOf 10 = .ok (.if_icmp .ge 18, 3) := by decide +kernel
theorem dX12_sumOf_13 : decode cX12_sumOf 13 = .ok (.iload_n 1, 1) := by decide +kernel
theorem dX12_sumOf_14 : decode cX12_sumOf 14 = .ok (.aload_n 0, 1) := by decide +kernel
theorem dX12_sumOf_15 : decode cX12_sumOf 15 = .ok (.iload_n 2, 1) := by decide +kernel
theorem dX12_sumOf_16 : decode cX12_sumOf 16 = .ok (.iconst 2, 1) := by decide +kernel
theorem dX12_sumOf_17 : decode cX12_sumOf 17 = .ok (.invokevirtual 151, 3) := by decide +kernel
theorem dX12_sumOf_20 : decode cX12_sumOf 20 = .ok (.iadd, 1) := by decide +kernel
theorem dX12_sumOf_21 : decode cX12_sumOf 21 = .ok (.istore_n 1, 1) := by decide +kernel
theorem dX12_sumOf_22 : decode cX12_sumOf 22 = .ok (.iinc 2 1, 3) := by decide +kernel
theorem dX12_sumOf_25 : decode cX12_sumOf 25 = .ok (.goto (-21), 3) := by decide +kernel
theorem dX12_sumOf_28 : decode cX12_sumOf 28 = .ok (.iload_n 1, 1) := by decide +kernel
theorem dX12_sumOf_29 : decode cX12_sumOf 29 = .ok (.ireturn, 1) := by decide +kernel
theorem dX12_weightOf_0 : decode cX12_weightOf 0 = .ok (.iconst 0, 1) := by decide +kernel
theorem dX12_weightOf_1 : decode cX12_weightOf 1 = .ok (.istore_n 1, 1) := by decide +kernel
theorem dX12_weightOf_2 : decode cX12_weightOf 2 = .ok (.iconst 0, 1) := by decide +kernel
theorem dX12_weightOf_3 : decode cX12_weightOf 3 = .ok (.istore_n 2, 1) := by decide +kernel
theorem dX12_weightOf_4 : decode cX12_weightOf 4 = .ok (.iload_n 2, 1) := by decide +kernel
theorem dX12_weightOf_5 : decode cX12_weightOf 5 = .ok (.aload_n 0, 1) := by decide +kernel
theorem dX12_weightOf_6 : decode cX12_weightOf 6 = .ok (.iconst 3, 1) := by decide +kernel
theorem dX12_weightOf_7 : decode cX12_weightOf 7 = .ok (.invokevirtual 102, 3) := by decide +kernel
theorem dX12_weightOf_10 : decode cX12_weightOf 10 = .ok (.if_icmp .ge 22, 3) := by decide +kernel
theorem dX12_weightOf_13 : decode cX12_weightOf 13 = .ok (.iload_n 1, 1) := by decide +kernel
theorem dX12_weightOf_14 : decode cX12_weightOf 14 = .ok (.iload_n 2, 1) := by decide +kernel
theorem dX12_weightOf_15 : decode cX12_weightOf 15 = .ok (.iconst 1, 1) := by decide +kernel
theorem dX12_weightOf_16 : decode cX12_weightOf 16 = .ok (.iadd, 1) := by decide +kernel
theorem dX12_weightOf_17 : decode cX12_weightOf 17 = .ok (.aload_n 0, 1) := by decide +kernel
theorem dX12_weightOf_18 : decode cX12_weightOf 18 = .ok (.iload_n 2, 1) := by decide +kernel
theorem dX12_weightOf_19 : decode cX12_weightOf 19 = .ok (.iconst 2, 1) := by decide +kernel
theorem dX12_weightOf_20 : decode cX12_weightOf 20 = .ok (.invokevirtual 151, 3) := by decide +kernel
theorem dX12_weightOf_23 : decode cX12_weightOf 23 = .ok (.imul, 1) := by decide +kernel
theorem dX12_weightOf_24 : decode cX12_weightOf 24 = .ok (.iadd, 1) := by decide +kernel
theorem dX12_weightOf_25 : decode cX12_weightOf 25 = .ok (.istore_n 1, 1) := by decide +kernel
theorem dX12_weightOf_26 : decode cX12_weightOf 26 = .ok (.iinc 2 1, 3) := by decide +kernel
theorem dX12_weightOf_29 : decode cX12_weightOf 29 = .ok (.goto (-25), 3) := by decide +kernel
theorem dX12_weightOf_32 : decode cX12_weightOf 32 = .ok (.iload_n 1, 1) := by decide +kernel
theorem dX12_weightOf_33 : decode cX12_weightOf 33 = .ok (.ireturn, 1) := by decide +kernel
theorem dX12_seal_0 : decode cX12_seal 0 = .ok (.aload_n 0, 1) := by decide +kernel
theorem dX12_seal_1 : decode cX12_seal 1 = .ok (.getfield 17, 3) := by decide +kernel
theorem dX12_seal_4 : decode cX12_seal 4 = .ok (.sipush 725, 3) := by decide +kernel
theorem dX12_seal_7 : decode cX12_seal 7 = .ok (.aload_n 0, 1) := by decide +kernel
theorem dX12_seal_8 : decode cX12_seal 8 = .ok (.iconst 3, 1) := by decide +kernel
theorem dX12_seal_9 : decode cX12_seal 9 = .ok (.invokevirtual 102, 3) := by decide +kernel
theorem dX12_seal_12 : decode cX12_seal 12 = .ok (.iastore, 1) := by decide +kernel
theorem dX12_seal_13 : decode cX12_seal 13 = .ok (.aload_n 0, 1) := by decide +kernel
theorem dX12_seal_14 : decode cX12_seal 14 = .ok (.getfield 17, 3) := by decide +kernel
theorem dX12_seal_17 : decode cX12_seal 17 = .ok (.sipush 726, 3) := by decide +kernel
theorem dX12_seal_20 : decode cX12_seal 20 = .ok (.aload_n 0, 1) := by decide +kernel
theorem dX12_seal_21 : decode cX12_seal 21 = .ok (.invokevirtual 346, 3) := by decide +kernel
theorem dX12_seal_24 : decode cX12_seal 24 = .ok (.iastore, 1) := by decide +kernel
theorem dX12_seal_25 : decode cX12_seal 25 = .ok (.aload_n 0, 1) := by decide +kernel
theorem dX12_seal_26 : decode cX12_seal 26 = .ok (.getfield 17, 3) := by decide +kernel
theorem dX12_seal_29 : decode cX12_seal 29 = .ok (.sipush 727, 3) := by decide +kernel
theorem dX12_seal_32 : decode cX12_seal 32 = .ok (.aload_n 0, 1) := by decide +kernel
theorem dX12_seal_33 : decode cX12_seal 33 = .ok (.invokevirtual 350, 3) := by decide +kernel
theorem dX12_seal_36 : decode cX12_seal 36 = .ok (.iastore, 1) := by decide +kernel
theorem dX12_seal_37 : decode cX12_seal 37 = .ok (.aload_n 0, 1) := by decide +kernel
theorem dX12_seal_38 : decode cX12_seal 38 = .ok (.iconst 3, 1) := by decide +kernel
theorem dX12_seal_39 : decode cX12_seal 39 = .ok (.invokevirtual 102, 3) := by decide +kernel
theorem dX12_seal_42 : decode cX12_seal 42 = .ok (.ireturn, 1) := by decide +kernel
theorem dX12_alter_0 : decode cX12_alter 0 = .ok (.iload_n 2, 1) := by decide +kernel
theorem dX12_alter_1 : decode cX12_alter 1 = .ok (.iconst 1, 1) := by decide +kernel
theorem dX12_alter_2 : decode cX12_alter 2 = .ok (.sipush 255, 3) := by decide +kernel
theorem dX12_alter_5 : decode cX12_alter 5 = .ok (.invokestatic 3, 3) := by decide +kernel
theorem dX12_alter_8 : decode cX12_alter 8 = .ok (.ifCond .ne 9, 3) := by decide +kernel
theorem dX12_alter_11 : decode cX12_alter 11 = .ok (.aload_n 0, 1) := by decide +kernel
theorem dX12_alter_12 : decode cX12_alter 12 = .ok (.iconst (-1), 1) := by decide +kernel
theorem dX12_alter_13 : decode cX12_alter 13 = .ok (.invokevirtual 106, 3) := by decide +kernel
theorem dX12_alter_16 : decode cX12_alter 16 = .ok (.ireturn, 1) := by decide +kernel
theorem dX12_alter_17 : decode cX12_alter 17 = .ok (.aload_n 0, 1) := by decide +kernel
theorem dX12_alter_18 : decode cX12_alter 18 = .ok (.iload_n 1, 1) := by decide +kernel
theorem dX12_alter_19 : decode cX12_alter 19 = .ok (.invokevirtual 154, 3) := by decide +kernel
theorem dX12_alter_22 : decode cX12_alter 22 = .ok (.ifCond .ne 10, 3) := by decide +kernel
theorem dX12_alter_25 : decode cX12_alter 25 = .ok (.aload_n 0, 1) := by decide +kernel
theorem dX12_alter_26 : decode cX12_alter 26 = .ok (.bipush (-2), 2) := by decide +kernel
theorem dX12_alter_28 : decode cX12_alter 28 = .ok (.invokevirtual 106, 3) := by decide +kernel
theorem dX12_alter_31 : decode cX12_alter 31 = .ok (.ireturn, 1) := by decide +kernel
theorem dX12_alter_32 : decode cX12_alter 32 = .ok (.aload_n 0, 1) := by decide +kernel
theorem dX12_alter_33 : decode cX12_alter 33 = .ok (.getfield 17, 3) := by decide +kernel
theorem dX12_alter_36 : decode cX12_alter 36 = .ok (.sipush 503, 3) := by decide +kernel
theorem dX12_alter_39 : decode cX12_alter 39 = .ok (.bipush 9, 2) := by decide +kernel
theorem dX12_alter_41 : decode cX12_alter 41 = .ok (.iload_n 1, 1) := by decide +kernel
theorem dX12_alter_42 : decode cX12_alter 42 = .ok (.imul, 1) := by decide +kernel
theorem dX12_alter_43 : decode cX12_alter 43 = .ok (.iadd, 1) := by decide +kernel
theorem dX12_alter_44 : decode cX12_alter 44 = .ok (.iconst 2, 1) := by decide +kernel
theorem dX12_alter_45 : decode cX12_alter 45 = .ok (.iadd, 1) := by decide +kernel
theorem dX12_alter_46 : decode cX12_alter 46 = .ok (.dup2, 1) := by decide +kernel
theorem dX12_alter_47 : decode cX12_alter 47 = .ok (.iaload, 1) := by decide +kernel
theorem dX12_alter_48 : decode cX12_alter 48 = .ok (.iload_n 2, 1) := by decide +kernel
theorem dX12_alter_49 : decode cX12_alter 49 = .ok (.ixor, 1) := by decide +kernel
theorem dX12_alter_50 : decode cX12_alter 50 = .ok (.iastore, 1) := by decide +kernel
theorem dX12_alter_51 : decode cX12_alter 51 = .ok (.aload_n 0, 1) := by decide +kernel
theorem dX12_alter_52 : decode cX12_alter 52 = .ok (.iconst 0, 1) := by decide +kernel
theorem dX12_alter_53 : decode cX12_alter 53 = .ok (.putfield 7, 3) := by decide +kernel
theorem dX12_alter_56 : decode cX12_alter 56 = .ok (.aload_n 0, 1) := by decide +kernel
theorem dX12_alter_57 : decode cX12_alter 57 = .ok (.iload_n 1, 1) := by decide +kernel
theorem dX12_alter_58 : decode cX12_alter 58 = .ok (.iconst 2, 1) := by decide +kernel
theorem dX12_alter_59 : decode cX12_alter 59 = .ok (.invokevirtual 151, 3) := by decide +kernel
theorem dX12_alter_62 : decode cX12_alter 62 = .ok (.ireturn, 1) := by decide +kernel
theorem dX12_found_0 : decode cX12_found 0 = .ok (.aload_n 0, 1) := by decide +kernel
theorem dX12_found_1 : decode cX12_found 1 = .ok (.getfield 17, 3) := by decide +kernel
theorem dX12_found_4 : decode cX12_found 4 = .ok (.sipush 725, 3) := by decide +kernel
theorem dX12_found_7 : decode cX12_found 7 = .ok (.iaload, 1) := by decide +kernel
theorem dX12_found_8 : decode cX12_found 8 = .ok (.iconst (-1), 1) := by decide +kernel
theorem dX12_found_9 : decode cX12_found 9 = .ok (.if_icmp .ne 6, 3) := by decide +kernel
theorem dX12_found_12 : decode cX12_found 12 = .ok (.bipush (-3), 2) := by decide +kernel
theorem dX12_found_14 : decode cX12_found 14 = .ok (.ireturn, 1) := by decide +kernel
theorem dX12_found_15 : decode cX12_found 15 = .ok (.aload_n 0, 1) := by decide +kernel
theorem dX12_found_16 : decode cX12_found 16 = .ok (.getfield 17, 3) := by decide +kernel
theorem dX12_found_19 : decode cX12_found 19 = .ok (.sipush 725, 3) := by decide +kernel
theorem dX12_found_22 : decode cX12_found 22 = .ok (.iaload, 1) := by decide +kernel
theorem dX12_found_23 : decode cX12_found 23 = .ok (.aload_n 0, 1) := by decide +kernel
theorem dX12_found_24 : decode cX12_found 24 = .ok (.iconst 3, 1) := by decide +kernel
theorem dX12_found_25 : decode cX12_found 25 = .ok (.invokevirtual 102, 3) := by decide +kernel
theorem dX12_found_28 : decode cX12_found 28 = .ok (.if_icmp .eq 6, 3) := by decide +kernel
theorem dX12_found_31 : decode cX12_found 31 = .ok (.bipush (-2), 2) := by decide +kernel
theorem dX12_found_33 : decode cX12_found 33 = .ok (.ireturn, 1) := by decide +kernel
theorem dX12_found_34 : decode cX12_found 34 = .ok (.aload_n 0, 1) := by decide +kernel
theorem dX12_found_35 : decode cX12_found 35 = .ok (.invokevirtual 346, 3) := by decide +kernel
theorem dX12_found_38 : decode cX12_found 38 = .ok (.aload_n 0, 1) := by decide +kernel
theorem dX12_found_39 : decode cX12_found 39 = .ok (.getfield 17, 3) := by decide +kernel
theorem dX12_found_42 : decode cX12_found 42 = .ok (.sipush 726, 3) := by decide +kernel
theorem dX12_found_45 : decode cX12_found 45 = .ok (.iaload, 1) := by decide +kernel
theorem dX12_found_46 : decode cX12_found 46 = .ok (.isub, 1) := by decide +kernel
theorem dX12_found_47 : decode cX12_found 47 = .ok (.istore_n 1, 1) := by decide +kernel
theorem dX12_found_48 : decode cX12_found 48 = .ok (.aload_n 0, 1) := by decide +kernel
theorem dX12_found_49 : decode cX12_found 49 = .ok (.invokevirtual 350, 3) := by decide +kernel
theorem dX12_found_52 : decode cX12_found 52 = .ok (.aload_n 0, 1) := by decide +kernel
theorem dX12_found_53 : decode cX12_found 53 = .ok (.getfield 17, 3) := by decide +kernel
theorem dX12_found_56 : decode cX12_found 56 = .ok (.sipush 727, 3) := by decide +kernel
theorem dX12_found_59 : decode cX12_found 59 = .ok (.iaload, 1) := by decide +kernel
theorem dX12_found_60 : decode cX12_found 60 = .ok (.isub, 1) := by decide +kernel
theorem dX12_found_61 : decode cX12_found 61 = .ok (.istore_n 2, 1) := by decide +kernel
theorem dX12_found_62 : decode cX12_found 62 = .ok (.iload_n 1, 1) := by decide +kernel
theorem dX12_found_63 : decode cX12_found 63 = .ok (.ifCond .ne 9, 3) := by decide +kernel
theorem dX12_found_66 : decode cX12_found 66 = .ok (.iload_n 2, 1) := by decide +kernel
theorem dX12_found_67 : decode cX12_found 67 = .ok (.ifCond .ne 5, 3) := by decide +kernel
theorem dX12_found_70 : decode cX12_found 70 = .ok (.iconst (-1), 1) := by decide +kernel
theorem dX12_found_71 : decode cX12_found 71 = .ok (.ireturn, 1) := by decide +kernel
theorem dX12_found_72 : decode cX12_found 72 = .ok (.iconst 0, 1) := by decide +kernel
theorem dX12_found_73 : decode cX12_found 73 = .ok (.istore_n 3, 1) := by decide +kernel
theorem dX12_found_74 : decode cX12_found 74 = .ok (.iload_n 3, 1) := by decide +kernel
theorem dX12_found_75 : decode cX12_found 75 = .ok (.aload_n 0, 1) := by decide +kernel
theorem dX12_found_76 : decode cX12_found 76 = .ok (.iconst 3, 1) := by decide +kernel
theorem dX12_found_77 : decode cX12_found 77 = .ok (.invokevirtual 102, 3) := by decide +kernel
theorem dX12_found_80 : decode cX12_found 80 = .ok (.if_icmp .ge 24, 3) := by decide +kernel
theorem dX12_found_83 : decode cX12_found 83 = .ok (.iload_n 1, 1) := by decide +kernel
theorem dX12_found_84 : decode cX12_found 84 = .ok (.ifCond .eq 20, 3) := by decide +kernel
theorem dX12_found_87 : decode cX12_found 87 = .ok (.iload_n 3, 1) := by decide +kernel
theorem dX12_found_88 : decode cX12_found 88 = .ok (.iconst 1, 1) := by decide +kernel
theorem dX12_found_89 : decode cX12_found 89 = .ok (.iadd, 1) := by decide +kernel
theorem dX12_found_90 : decode cX12_found 90 = .ok (.iload_n 1, 1) := by decide +kernel
theorem dX12_found_91 : decode cX12_found 91 = .ok (.imul, 1) := by decide +kernel
theorem dX12_found_92 : decode cX12_found 92 = .ok (.iload_n 2, 1) := by decide +kernel
theorem dX12_found_93 : decode cX12_found 93 = .ok (.if_icmp .ne 5, 3) := by decide +kernel
theorem dX12_found_96 : decode cX12_found 96 = .ok (.iload_n 3, 1) := by decide +kernel
theorem dX12_found_97 : decode cX12_found 97 = .ok (.ireturn, 1) := by decide +kernel
theorem dX12_found_98 : decode cX12_found 98 = .ok (.iinc 3 1, 3) := by decide +kernel
theorem dX12_found_101 : decode cX12_found 101 = .ok (.goto (-27), 3) := by decide +kernel
theorem dX12_found_104 : decode cX12_found 104 = .ok (.bipush (-2), 2) := by decide +kernel
theorem dX12_found_106 : decode cX12_found 106 = .ok (.ireturn, 1) := by decide +kernel
theorem dX12_count_0 : decode cX12_count 0 = .ok (.iload_n 1, 1) := by decide +kernel
theorem dX12_count_1 : decode cX12_count 1 = .ok (.iconst 4, 1) := by decide +kernel
theorem dX12_count_2 : decode cX12_count 2 = .ok (.if_icmp .ne 8, 3) := by decide +kernel
theorem dX12_count_5 : decode cX12_count 5 = .ok (.aload_n 0, 1) := by decide +kernel
theorem dX12_count_6 : decode cX12_count 6 = .ok (.getfield 336, 3) := by decide +kernel
theorem dX12_count_9 : decode cX12_count 9 = .ok (.ireturn, 1) := by decide +kernel
theorem dX12_count_10 : decode cX12_count 10 = .ok (.iload_n 1, 1) := by decide +kernel
theorem dX12_count_11 : decode cX12_count 11 = .ok (.iconst 5, 1) := by decide +kernel
theorem dX12_count_12 : decode cX12_count 12 = .ok (.if_icmp .ne 8, 3) := by decide +kernel
theorem dX12_count_15 : decode cX12_count 15 = .ok (.aload_n 0, 1) := by decide +kernel
theorem dX12_count_16 : decode cX12_count 16 = .ok (.getfield 251, 3) := by decide +kernel
theorem dX12_count_19 : decode cX12_count 19 = .ok (.ireturn, 1) := by decide +kernel
theorem dX12_count_20 : decode cX12_count 20 = .ok (.iload_n 1, 1) := by decide +kernel
theorem dX12_count_21 : decode cX12_count 21 = .ok (.bipush 6, 2) := by decide +kernel
theorem dX12_count_23 : decode cX12_count 23 = .ok (.if_icmp .ne 20, 3) := by decide +kernel
theorem dX12_count_26 : decode cX12_count 26 = .ok (.aload_n 0, 1) := by decide +kernel
theorem dX12_count_27 : decode cX12_count 27 = .ok (.getfield 53, 3) := by decide +kernel
theorem dX12_count_30 : decode cX12_count 30 = .ok (.iconst (-1), 1) := by decide +kernel
theorem dX12_count_31 : decode cX12_count 31 = .ok (.if_icmp .ne 7, 3) := by decide +kernel
theorem dX12_count_34 : decode cX12_count 34 = .ok (.iconst 0, 1) := by decide +kernel
theorem dX12_count_35 : decode cX12_count 35 = .ok (.goto 7, 3) := by decide +kernel
theorem dX12_count_38 : decode cX12_count 38 = .ok (.aload_n 0, 1) := by decide +kernel
theorem dX12_count_39 : decode cX12_count 39 = .ok (.getfield 53, 3) := by decide +kernel
theorem dX12_count_42 : decode cX12_count 42 = .ok (.ireturn, 1) := by decide +kernel
theorem dX12_count_43 : decode cX12_count 43 = .ok (.iload_n 1, 1) := by decide +kernel
theorem dX12_count_44 : decode cX12_count 44 = .ok (.iconst 0, 1) := by decide +kernel
theorem dX12_count_45 : decode cX12_count 45 = .ok (.iconst 3, 1) := by decide +kernel
theorem dX12_count_46 : decode cX12_count 46 = .ok (.invokestatic 3, 3) := by decide +kernel
theorem dX12_count_49 : decode cX12_count 49 = .ok (.ifCond .eq 11, 3) := by decide +kernel
theorem dX12_count_52 : decode cX12_count 52 = .ok (.aload_n 0, 1) := by decide +kernel
theorem dX12_count_53 : decode cX12_count 53 = .ok (.iload_n 1, 1) := by decide +kernel
theorem dX12_count_54 : decode cX12_count 54 = .ok (.invokevirtual 102, 3) := by decide +kernel
theorem dX12_count_57 : decode cX12_count 57 = .ok (.goto 4, 3) := by decide +kernel
theorem dX12_count_60 : decode cX12_count 60 = .ok (.iconst (-1), 1) := by decide +kernel
theorem dX12_count_61 : decode cX12_count 61 = .ok (.ireturn, 1) := by decide +kernel
theorem dX12_status_0 : decode cX12_status 0 = .ok (.aload_n 0, 1) := by decide +kernel
theorem dX12_status_1 : decode cX12_status 1 = .ok (.getfield 7, 3) := by decide +kernel
theorem dX12_status_4 : decode cX12_status 4 = .ok (.ireturn, 1) := by decide +kernel
theorem dJ6_bitCount_0f7a4_0 : decode cJ6_bitCount_0f7a4 0 = .ok (.iload_n 0, 1) := by decide +kernel
theorem dJ6_bitCount_0f7a4_1 : decode cJ6_bitCount_0f7a4 1 = .ok (.iload_n 0, 1) := by decide +kernel
theorem dJ6_bitCount_0f7a4_2 : decode cJ6_bitCount_0f7a4 2 = .ok (.iconst 1, 1) := by decide +kernel
theorem dJ6_bitCount_0f7a4_3 : decode cJ6_bitCount_0f7a4 3 = .ok (.iushr, 1) := by decide +kernel
theorem dJ6_bitCount_0f7a4_4 : decode cJ6_bitCount_0f7a4 4 = .ok (.ldc_w 265, 3) := by decide +kernel
theorem dJ6_bitCount_0f7a4_7 : decode cJ6_bitCount_0f7a4 7 = .ok (.iand, 1) := by decide +kernel
theorem dJ6_bitCount_0f7a4_8 : decode cJ6_bitCount_0f7a4 8 = .ok (.isub, 1) := by decide +kernel
theorem dJ6_bitCount_0f7a4_9 : decode cJ6_bitCount_0f7a4 9 = .ok (.istore_n 0, 1) := by decide +kernel
theorem dJ6_bitCount_0f7a4_10 : decode cJ6_bitCount_0f7a4 10 = .ok (.iload_n 0, 1) := by decide +kernel
theorem dJ6_bitCount_0f7a4_11 : decode cJ6_bitCount_0f7a4 11 = .ok (.ldc_w 266, 3) := by decide +kernel
theorem dJ6_bitCount_0f7a4_14 : decode cJ6_bitCount_0f7a4 14 = .ok (.iand, 1) := by decide +kernel
theorem dJ6_bitCount_0f7a4_15 : decode cJ6_bitCount_0f7a4 15 = .ok (.iload_n 0, 1) := by decide +kernel
theorem dJ6_bitCount_0f7a4_16 : decode cJ6_bitCount_0f7a4 16 = .ok (.iconst 2, 1) := by decide +kernel
theorem dJ6_bitCount_0f7a4_17 : decode cJ6_bitCount_0f7a4 17 = .ok (.iushr, 1) := by decide +kernel
theorem dJ6_bitCount_0f7a4_18 : decode cJ6_bitCount_0f7a4 18 = .ok (.ldc_w 266, 3) := by decide +kernel
theorem dJ6_bitCount_0f7a4_21 : decode cJ6_bitCount_0f7a4 21 = .ok (.iand, 1) := by decide +kernel
theorem dJ6_bitCount_0f7a4_22 : decode cJ6_bitCount_0f7a4 22 = .ok (.iadd, 1) := by decide +kernel
theorem dJ6_bitCount_0f7a4_23 : decode cJ6_bitCount_0f7a4 23 = .ok (.istore_n 0, 1) := by decide +kernel
theorem dJ6_bitCount_0f7a4_24 : decode cJ6_bitCount_0f7a4 24 = .ok (.iload_n 0, 1) := by decide +kernel
theorem dJ6_bitCount_0f7a4_25 : decode cJ6_bitCount_0f7a4 25 = .ok (.iload_n 0, 1) := by decide +kernel
theorem dJ6_bitCount_0f7a4_26 : decode cJ6_bitCount_0f7a4 26 = .ok (.iconst 4, 1) := by decide +kernel
theorem dJ6_bitCount_0f7a4_27 : decode cJ6_bitCount_0f7a4 27 = .ok (.iushr, 1) := by decide +kernel
theorem dJ6_bitCount_0f7a4_28 : decode cJ6_bitCount_0f7a4 28 = .ok (.iadd, 1) := by decide +kernel
theorem dJ6_bitCount_0f7a4_29 : decode cJ6_bitCount_0f7a4 29 = .ok (.ldc_w 267, 3) := by decide +kernel
theorem dJ6_bitCount_0f7a4_32 : decode cJ6_bitCount_0f7a4 32 = .ok (.iand, 1) := by decide +kernel
theorem dJ6_bitCount_0f7a4_33 : decode cJ6_bitCount_0f7a4 33 = .ok (.istore_n 0, 1) := by decide +kernel
theorem dJ6_bitCount_0f7a4_34 : decode cJ6_bitCount_0f7a4 34 = .ok (.iload_n 0, 1) := by decide +kernel
theorem dJ6_bitCount_0f7a4_35 : decode cJ6_bitCount_0f7a4 35 = .ok (.iload_n 0, 1) := by decide +kernel
theorem dJ6_bitCount_0f7a4_36 : decode cJ6_bitCount_0f7a4 36 = .ok (.bipush 8, 2) := by decide +kernel
theorem dJ6_bitCount_0f7a4_38 : decode cJ6_bitCount_0f7a4 38 = .ok (.iushr, 1) := by decide +kernel
theorem dJ6_bitCount_0f7a4_39 : decode cJ6_bitCount_0f7a4 39 = .ok (.iadd, 1) := by decide +kernel
theorem dJ6_bitCount_0f7a4_40 : decode cJ6_bitCount_0f7a4 40 = .ok (.istore_n 0, 1) := by decide +kernel
theorem dJ6_bitCount_0f7a4_41 : decode cJ6_bitCount_0f7a4 41 = .ok (.iload_n 0, 1) := by decide +kernel
theorem dJ6_bitCount_0f7a4_42 : decode cJ6_bitCount_0f7a4 42 = .ok (.iload_n 0, 1) := by decide +kernel
theorem dJ6_bitCount_0f7a4_43 : decode cJ6_bitCount_0f7a4 43 = .ok (.bipush 16, 2) := by decide +kernel
theorem dJ6_bitCount_0f7a4_45 : decode cJ6_bitCount_0f7a4 45 = .ok (.iushr, 1) := by decide +kernel
theorem dJ6_bitCount_0f7a4_46 : decode cJ6_bitCount_0f7a4 46 = .ok (.iadd, 1) := by decide +kernel
theorem dJ6_bitCount_0f7a4_47 : decode cJ6_bitCount_0f7a4 47 = .ok (.istore_n 0, 1) := by decide +kernel
theorem dJ6_bitCount_0f7a4_48 : decode cJ6_bitCount_0f7a4 48 = .ok (.iload_n 0, 1) := by decide +kernel
theorem dJ6_bitCount_0f7a4_49 : decode cJ6_bitCount_0f7a4 49 = .ok (.bipush 63, 2) := by decide +kernel
theorem dJ6_bitCount_0f7a4_51 : decode cJ6_bitCount_0f7a4 51 = .ok (.iand, 1) := by decide +kernel
theorem dJ6_bitCount_0f7a4_52 : decode cJ6_bitCount_0f7a4 52 = .ok (.ireturn, 1) := by decide +kernel
theorem dJ9_floorDiv_7cf53_0 : decode cJ9_floorDiv_7cf53 0 = .ok (.iload_n 0, 1) := by decide +kernel
theorem dJ9_floorDiv_7cf53_1 : decode cJ9_floorDiv_7cf53 1 = .ok (.iload_n 1, 1) := by decide +kernel
theorem dJ9_floorDiv_7cf53_2 : decode cJ9_floorDiv_7cf53 2 = .ok (.idiv, 1) := by decide +kernel
theorem dJ9_floorDiv_7cf53_3 : decode cJ9_floorDiv_7cf53 3 = .ok (.istore_n 2, 1) := by decide +kernel
theorem dJ9_floorDiv_7cf53_4 : decode cJ9_floorDiv_7cf53 4 = .ok (.iload_n 0, 1) := by decide +kernel
theorem dJ9_floorDiv_7cf53_5 : decode cJ9_floorDiv_7cf53 5 = .ok (.iload_n 1, 1) := by decide +kernel
theorem dJ9_floorDiv_7cf53_6 : decode cJ9_floorDiv_7cf53 6 = .ok (.ixor, 1) := by decide +kernel
theorem dJ9_floorDiv_7cf53_7 : decode cJ9_floorDiv_7cf53 7 = .ok (.ifCond .ge 14, 3) := by decide +kernel
theorem dJ9_floorDiv_7cf53_10 : decode cJ9_floorDiv_7cf53 10 = .ok (.iload_n 2, 1) := by decide +kernel
theorem dJ9_floorDiv_7cf53_11 : decode cJ9_floorDiv_7cf53 11 = .ok (.iload_n 1, 1) := by decide +kernel
theorem dJ9_floorDiv_7cf53_12 : decode cJ9_floorDiv_7cf53 12 = .ok (.imul, 1) := by decide +kernel
theorem dJ9_floorDiv_7cf53_13 : decode cJ9_floorDiv_7cf53 13 = .ok (.iload_n 0, 1) := by decide +kernel
theorem dJ9_floorDiv_7cf53_14 : decode cJ9_floorDiv_7cf53 14 = .ok (.if_icmp .eq 7, 3) := by decide +kernel
theorem dJ9_floorDiv_7cf53_17 : decode cJ9_floorDiv_7cf53 17 = .ok (.iload_n 2, 1) := by decide +kernel
theorem dJ9_floorDiv_7cf53_18 : decode cJ9_floorDiv_7cf53 18 = .ok (.iconst 1, 1) := by decide +kernel
theorem dJ9_floorDiv_7cf53_19 : decode cJ9_floorDiv_7cf53 19 = .ok (.isub, 1) := by decide +kernel
theorem dJ9_floorDiv_7cf53_20 : decode cJ9_floorDiv_7cf53 20 = .ok (.ireturn, 1) := by decide +kernel
theorem dJ9_floorDiv_7cf53_21 : decode cJ9_floorDiv_7cf53 21 = .ok (.iload_n 2, 1) := by decide +kernel
theorem dJ9_floorDiv_7cf53_22 : decode cJ9_floorDiv_7cf53 22 = .ok (.ireturn, 1) := by decide +kernel
theorem dJ9_max_7cf53_0 : decode cJ9_max_7cf53 0 = .ok (.iload_n 0, 1) := by decide +kernel
theorem dJ9_max_7cf53_1 : decode cJ9_max_7cf53 1 = .ok (.iload_n 1, 1) := by decide +kernel
theorem dJ9_max_7cf53_2 : decode cJ9_max_7cf53 2 = .ok (.if_icmp .lt 7, 3) := by decide +kernel
theorem dJ9_max_7cf53_5 : decode cJ9_max_7cf53 5 = .ok (.iload_n 0, 1) := by decide +kernel
theorem dJ9_max_7cf53_6 : decode cJ9_max_7cf53 6 = .ok (.goto 4, 3) := by decide +kernel
theorem dJ9_max_7cf53_9 : decode cJ9_max_7cf53 9 = .ok (.iload_n 1, 1) := by decide +kernel
theorem dJ9_max_7cf53_10 : decode cJ9_max_7cf53 10 = .ok (.ireturn, 1) := by decide +kernel
theorem dJ9_max_f86c9_0 : decode cJ9_max_f86c9 0 = .ok (.lload_n 0, 1) := by decide +kernel
theorem dJ9_max_f86c9_1 : decode cJ9_max_f86c9 1 = .ok (.lload_n 2, 1) := by decide +kernel
theorem dJ9_max_f86c9_2 : decode cJ9_max_f86c9 2 = .ok (.lcmp, 1) := by decide +kernel
theorem dJ9_max_f86c9_3 : decode cJ9_max_f86c9 3 = .ok (.ifCond .lt 7, 3) := by decide +kernel
theorem dJ9_max_f86c9_6 : decode cJ9_max_f86c9 6 = .ok (.lload_n 0, 1) := by decide +kernel
theorem dJ9_max_f86c9_7 : decode cJ9_max_f86c9 7 = .ok (.goto 4, 3) := by decide +kernel
theorem dJ9_max_f86c9_10 : decode cJ9_max_f86c9 10 = .ok (.lload_n 2, 1) := by decide +kernel
theorem dJ9_max_f86c9_11 : decode cJ9_max_f86c9 11 = .ok (.lreturn, 1) := by decide +kernel
theorem dJ9_min_7cf53_0 : decode cJ9_min_7cf53 0 = .ok (.iload_n 0, 1) := by decide +kernel
theorem dJ9_min_7cf53_1 : decode cJ9_min_7cf53 1 = .ok (.iload_n 1, 1) := by decide +kernel
theorem dJ9_min_7cf53_2 : decode cJ9_min_7cf53 2 = .ok (.if_icmp .gt 7, 3) := by decide +kernel
theorem dJ9_min_7cf53_5 : decode cJ9_min_7cf53 5 = .ok (.iload_n 0, 1) := by decide +kernel
theorem dJ9_min_7cf53_6 : decode cJ9_min_7cf53 6 = .ok (.goto 4, 3) := by decide +kernel
theorem dJ9_min_7cf53_9 : decode cJ9_min_7cf53 9 = .ok (.iload_n 1, 1) := by decide +kernel
theorem dJ9_min_7cf53_10 : decode cJ9_min_7cf53 10 = .ok (.ireturn, 1) := by decide +kernel
theorem dL_law_0 : decode cL_law 0 = .ok (.new 7, 3) := by decide +kernel
theorem dL_law_3 : decode cL_law 3 = .ok (.dup, 1) := by decide +kernel
theorem dL_law_4 : decode cL_law 4 = .ok (.invokespecial 9, 3) := by decide +kernel
theorem dL_law_7 : decode cL_law 7 = .ok (.astore_n 1, 1) := by decide +kernel
theorem dL_law_8 : decode cL_law 8 = .ok (.new 10, 3) := by decide +kernel
theorem dL_law_11 : decode cL_law 11 = .ok (.dup, 1) := by decide +kernel
theorem dL_law_12 : decode cL_law 12 = .ok (.invokespecial 12, 3) := by decide +kernel
theorem dL_law_15 : decode cL_law 15 = .ok (.astore_n 2, 1) := by decide +kernel
theorem dL_law_16 : decode cL_law 16 = .ok (.iconst 0, 1) := by decide +kernel
theorem dL_law_17 : decode cL_law 17 = .ok (.istore_n 3, 1) := by decide +kernel
theorem dL_law_18 : decode cL_law 18 = .ok (.iload_n 3, 1) := by decide +kernel
theorem dL_law_19 : decode cL_law 19 = .ok (.aload_n 0, 1) := by decide +kernel
theorem dL_law_20 : decode cL_law 20 = .ok (.arraylength, 1) := by decide +kernel
theorem dL_law_21 : decode cL_law 21 = .ok (.bipush 7, 2) := by decide +kernel
theorem dL_law_23 : decode cL_law 23 = .ok (.isub, 1) := by decide +kernel
theorem dL_law_24 : decode cL_law 24 = .ok (.if_icmp .gt 1698, 3) := by decide +kernel
theorem dL_law_27 : decode cL_law 27 = .ok (.aload_n 0, 1) := by decide +kernel
theorem dL_law_28 : decode cL_law 28 = .ok (.iload_n 3, 1) := by decide +kernel
theorem dL_law_29 : decode cL_law 29 = .ok (.iaload, 1) := by decide +kernel
theorem dL_law_30 : decode cL_law 30 = .ok (.bipush 63, 2) := by decide +kernel
theorem dL_law_32 : decode cL_law 32 = .ok (.iand, 1) := by decide +kernel
theorem dL_law_33 : decode cL_law 33 = .ok (.tableswitch 1683 0 39 #[175, 228, 251, 326, 369, 402, 477, 552, 585, 618, 661, 714, 767, 820, 884, 937, 980, 1013, 1046, 1069, 1102, 1125, 1188, 1211, 1254, 1267, 1300, 1323, 1366, 1389, 1412, 1425, 1478, 1542, 1555, 1588, 1601, 1624, 1647, 1670], 175) := by decide +kernel
theorem dL_law_208 : decode cL_law 208 = .ok (.aload_n 1, 1) := by decide +kernel
theorem dL_law_209 : decode cL_law 209 = .ok (.aload_n 0, 1) := by decide +kernel
theorem dL_law_210 : decode cL_law 210 = .ok (.iload_n 3, 1) := by decide +kernel
theorem dL_law_211 : decode cL_law 211 = .ok (.iconst 1, 1) := by decide +kernel
theorem dL_law_212 : decode cL_law 212 = .ok (.iadd, 1) := by decide +kernel
theorem dL_law_213 : decode cL_law 213 = .ok (.iaload, 1) := by decide +kernel
theorem dL_law_214 : decode cL_law 214 = .ok (.aload_n 0, 1) := by decide +kernel
theorem dL_law_215 : decode cL_law 215 = .ok (.iload_n 3, 1) := by decide +kernel
theorem dL_law_216 : decode cL_law 216 = .ok (.iconst 2, 1) := by decide +kernel
theorem dL_law_217 : decode cL_law 217 = .ok (.iadd, 1) := by decide +kernel
theorem dL_law_218 : decode cL_law 218 = .ok (.iaload, 1) := by decide +kernel
theorem dL_law_219 : decode cL_law 219 = .ok (.aload_n 0, 1) := by decide +kernel
theorem dL_law_220 : decode cL_law 220 = .ok (.iload_n 3, 1) := by decide +kernel
theorem dL_law_221 : decode cL_law 221 = .ok (.iconst 3, 1) := by decide +kernel
theorem dL_law_222 : decode cL_law 222 = .ok (.iadd, 1) := by decide +kernel
theorem dL_law_223 : decode cL_law 223 = .ok (.iaload, 1) := by decide +kernel
theorem dL_law_224 : decode cL_law 224 = .ok (.aload_n 0, 1) := by decide +kernel
theorem dL_law_225 : decode cL_law 225 = .ok (.iload_n 3, 1) := by decide +kernel
theorem dL_law_226 : decode cL_law 226 = .ok (.iconst 4, 1) := by decide +kernel
theorem dL_law_227 : decode cL_law 227 = .ok (.iadd, 1) := by decide +kernel
theorem dL_law_228 : decode cL_law 228 = .ok (.iaload, 1) := by decide +kernel
theorem dL_law_229 : decode cL_law 229 = .ok (.invokevirtual 13, 3) := by decide +kernel
theorem dL_law_232 : decode cL_law 232 = .ok (.aload_n 2, 1) := by decide +kernel
theorem dL_law_233 : decode cL_law 233 = .ok (.aload_n 0, 1) := by decide +kernel
theorem dL_law_234 : decode cL_law 234 = .ok (.iload_n 3, 1) := by decide +kernel
theorem dL_law_235 : decode cL_law 235 = .ok (.iconst 1, 1) := by decide +kernel
theorem dL_law_236 : decode cL_law 236 = .ok (.iadd, 1) := by decide +kernel
theorem dL_law_237 : decode cL_law 237 = .ok (.iaload, 1) := by decide +kernel
theorem dL_law_238 : decode cL_law 238 = .ok (.aload_n 0, 1) := by decide +kernel
theorem dL_law_239 : decode cL_law 239 = .ok (.iload_n 3, 1) := by decide +kernel
theorem dL_law_240 : decode cL_law 240 = .ok (.iconst 2, 1) := by decide +kernel
theorem dL_law_241 : decode cL_law 241 = .ok (.iadd, 1) := by decide +kernel
theorem dL_law_242 : decode cL_law 242 = .ok (.iaload, 1) := by decide +kernel
theorem dL_law_243 : decode cL_law 243 = .ok (.aload_n 0, 1) := by decide +kernel
theorem dL_law_244 : decode cL_law 244 = .ok (.iload_n 3, 1) := by decide +kernel
theorem dL_law_245 : decode cL_law 245 = .ok (.iconst 3, 1) := by decide +kernel
theorem dL_law_246 : decode cL_law 246 = .ok (.iadd, 1) := by decide +kernel
theorem dL_law_247 : decode cL_law 247 = .ok (.iaload, 1) := by decide +kernel
theorem dL_law_248 : decode cL_law 248 = .ok (.aload_n 0, 1) := by decide +kernel
theorem dL_law_249 : decode cL_law 249 = .ok (.iload_n 3, 1) := by decide +kernel
theorem dL_law_250 : decode cL_law 250 = .ok (.iconst 4, 1) := by decide +kernel
theorem dL_law_251 : decode cL_law 251 = .ok (.iadd, 1) := by decide +kernel
theorem dL_law_252 : decode cL_law 252 = .ok (.iaload, 1) := by decide +kernel
theorem dL_law_253 : decode cL_law 253 = .ok (.invokevirtual 17, 3) := by decide +kernel
theorem dL_law_256 : decode cL_law 256 = .ok (.if_icmp .eq 1460, 3) := by decide +kernel
theorem dL_law_259 : decode cL_law 259 = .ok (.iconst 0, 1) := by decide +kernel
theorem dL_law_260 : decode cL_law 260 = .ok (.ireturn, 1) := by decide +kernel
theorem dL_law_261 : decode cL_law 261 = .ok (.aload_n 1, 1) := by decide +kernel
theorem dL_law_262 : decode cL_law 262 = .ok (.aload_n 0, 1) := by decide +kernel
theorem dL_law_263 : decode cL_law 263 = .ok (.iload_n 3, 1) := by decide +kernel
theorem dL_law_264 : decode cL_law 264 = .ok (.iconst 1, 1) := by decide +kernel
theorem dL_law_265 : decode cL_law 265 = .ok (.iadd, 1) := by decide +kernel
theorem dL_law_266 : decode cL_law 266 = .ok (.iaload, 1) := by decide +kernel
theorem dL_law_267 : decode cL_law 267 = .ok (.invokevirtual 18, 3) := by decide +kernel
theorem dL_law_270 : decode cL_law 270 = .ok (.aload_n 2, 1) := by decide +kernel
theorem dL_law_271 : decode cL_law 271 = .ok (.aload_n 0, 1) := by decide +kernel
theorem dL_law_272 : decode cL_law 272 = .ok (.iload_n 3, 1) := by decide +kernel
theorem dL_law_273 : decode cL_law 273 = .ok (.iconst 1, 1) := by decide +kernel
theorem dL_law_274 : decode cL_law 274 = .ok (.iadd, 1) := by decide +kernel
theorem dL_law_275 : decode cL_law 275 = .ok (.iaload, 1) := by decide +kernel
theorem dL_law_276 : decode cL_law 276 = .ok (.invokevirtual 22, 3) := by decide +kernel
theorem dL_law_279 : decode cL_law 279 = .ok (.if_icmp .eq 1437, 3) := by decide +kernel
theorem dL_law_282 : decode cL_law 282 = .ok (.iconst 0, 1) := by decide +kernel
theorem dL_law_283 : decode cL_law 283 = .ok (.ireturn, 1) := by decide +kernel
theorem dL_law_284 : decode cL_law 284 = .ok (.aload_n 1, 1) := by decide +kernel
theorem dL_law_285 : decode cL_law 285 = .ok (.aload_n 0, 1) := by decide +kernel
theorem dL_law_286 : decode cL_law 286 = .ok (.iload_n 3, 1) := by decide +kernel
theorem dL_law_287 : decode cL_law 287 = .ok (.iconst 1, 1) := by decide +kernel
theorem dL_law_288 : decode cL_law 288 = .ok (.iadd, 1) := by decide +kernel
theorem dL_law_289 : decode cL_law 289 = .ok (.iaload, 1) := by decide +kernel
theorem dL_law_290 : decode cL_law 290 = .ok (.aload_n 0, 1) := by decide +kernel
theorem dL_law_291 : decode cL_law 291 = .ok (.iload_n 3, 1) := by decide +kernel
theorem dL_law_292 : decode cL_law 292 = .ok (.iconst 2, 1) := by decide +kernel
theorem dL_law_293 : decode cL_law 293 = .ok (.iadd, 1) := by decide +kernel
theorem dL_law_294 : decode cL_law 294 = .ok (.iaload, 1) := by decide +kernel
theorem dL_law_295 : decode cL_law 295 = .ok (.aload_n 0, 1) := by decide +kernel
theorem dL_law_296 : decode cL_law 296 = .ok (.iload_n 3, 1) := by decide +kernel
theorem dL_law_297 : decode cL_law 297 = .ok (.iconst 3, 1) := by decide +kernel
theorem dL_law_298 : decode cL_law 298 = .ok (.iadd, 1) := by decide +kernel
theorem dL_law_299 : decode cL_law 299 = .ok (.iaload, 1) := by decide +kernel
theorem dL_law_300 : decode cL_law 300 = .ok (.aload_n 0, 1) := by decide +kernel
theorem dL_law_301 : decode cL_law 301 = .ok (.iload_n 3, 1) := by decide +kernel
theorem dL_law_302 : decode cL_law 302 = .ok (.iconst 4, 1) := by decide +kernel
theorem dL_law_303 : decode cL_law 303 = .ok (.iadd, 1) := by decide +kernel
theorem dL_law_304 : decode cL_law 304 = .ok (.iaload, 1) := by decide +kernel
theorem dL_law_305 : decode cL_law 305 = .ok (.aload_n 0, 1) := by decide +kernel
theorem dL_law_306 : decode cL_law 306 = .ok (.iload_n 3, 1) := by decide +kernel
theorem dL_law_307 : decode cL_law 307 = .ok (.iconst 5, 1) := by decide +kernel
theorem dL_law_308 : decode cL_law 308 = .ok (.iadd, 1) := by decide +kernel
theorem dL_law_309 : decode cL_law 309 = .ok (.iaload, 1) := by decide +kernel
theorem dL_law_310 : decode cL_law 310 = .ok (.aload_n 0, 1) := by decide +kernel
theorem dL_law_311 : decode cL_law 311 = .ok (.iload_n 3, 1) := by decide +kernel
theorem dL_law_312 : decode cL_law 312 = .ok (.bipush 6, 2) := by decide +kernel
theorem dL_law_314 : decode cL_law 314 = .ok (.iadd, 1) := by decide +kernel
theorem dL_law_315 : decode cL_law 315 = .ok (.iaload, 1) := by decide +kernel
theorem dL_law_316 : decode cL_law 316 = .ok (.invokevirtual 23, 3) := by decide +kernel
theorem dL_law_319 : decode cL_law 319 = .ok (.aload_n 2, 1) := by decide +kernel
theorem dL_law_320 : decode cL_law 320 = .ok (.aload_n 0, 1) := by decide +kernel
theorem dL_law_321 : decode cL_law 321 = .ok (.iload_n 3, 1) := by decide +kernel
theorem dL_law_322 : decode cL_law 322 = .ok (.iconst 1, 1) := by decide +kernel
theorem dL_law_323 : decode cL_law 323 = .ok (.iadd, 1) := by decide +kernel
theorem dL_law_324 : decode cL_law 324 = .ok (.iaload, 1) := by decide +kernel
theorem dL_law_325 : decode cL_law 325 = .ok (.aload_n 0, 1) := by decide +kernel
theorem dL_law_326 : decode cL_law 326 = .ok (.iload_n 3, 1) := by decide +kernel
theorem dL_law_327 : decode cL_law 327 = .ok (.iconst 2, 1) := by decide +kernel
theorem dL_law_328 : decode cL_law 328 = .ok (.iadd, 1) := by decide +kernel
theorem dL_law_329 : decode cL_law 329 = .ok (.iaload, 1) := by decide +kernel
theorem dL_law_330 : decode cL_law 330 = .ok (.aload_n 0, 1) := by decide +kernel
theorem dL_law_331 : decode cL_law 331 = .ok (.iload_n 3, 1) := by decide +kernel
theorem dL_law_332 : decode cL_law 332 = .ok (.iconst 3, 1) := by decide +kernel
theorem dL_law_333 : decode cL_law 333 = .ok (.iadd, 1) := by decide +kernel
theorem dL_law_334 : decode cL_law 334 = .ok (.iaload, 1) := by decide +kernel
theorem dL_law_335 : decode cL_law 335 = .ok (.aload_n 0, 1) := by decide +kernel
theorem dL_law_336 : decode cL_law 336 = .ok (.iload_n 3, 1) := by decide +kernel
theorem dL_law_337 : decode cL_law 337 = .ok (.iconst 4, 1) := by decide +kernel
theorem dL_law_338 : decode cL_law 338 = .ok (.iadd, 1) := by decide +kernel
theorem dL_law_339 : decode cL_law 339 = .ok (.iaload, 1) := by decide +kernel
theorem dL_law_340 : decode cL_law 340 = .ok (.aload_n 0, 1) := by decide +kernel
theorem dL_law_341 : decode cL_law 341 = .ok (.iload_n 3, 1) := by decide +kernel
theorem dL_law_342 : decode cL_law 342 = .ok (.iconst 5, 1) := by decide +kernel
theorem dL_law_343 : decode cL_law 343 = .ok (.iadd, 1) := by decide +kernel
theorem dL_law_344 : decode cL_law 344 = .ok (.iaload, 1) := by decide +kernel
theorem dL_law_345 : decode cL_law 345 = .ok (.aload_n 0, 1) := by decide +kernel
theorem dL_law_346 : decode cL_law 346 = .ok (.iload_n 3, 1) := by decide +kernel
theorem dL_law_347 : decode cL_law 347 = .ok (.bipush 6, 2) := by decide +kernel
theorem dL_law_349 : decode cL_law 349 = .ok (.iadd, 1) := by decide +kernel
theorem dL_law_350 : decode cL_law 350 = .ok (.iaload, 1) := by decide +kernel
theorem dL_law_351 : decode cL_law 351 = .ok (.invokevirtual 27, 3) := by decide +kernel
theorem dL_law_354 : decode cL_law 354 = .ok (.if_icmp .eq 1362, 3) := by decide +kernel
theorem dL_law_357 : decode cL_law 357 = .ok (.iconst 0, 1) := by decide +kernel
theorem dL_law_358 : decode cL_law 358 = .ok (.ireturn, 1) := by decide +kernel
theorem dL_law_359 : decode cL_law 359 = .ok (.aload_n 1, 1) := by decide +kernel
theorem dL_law_360 : decode cL_law 360 = .ok (.aload_n 0, 1) := by decide +kernel
theorem dL_law_361 : decode cL_law 361 = .ok (.iload_n 3, 1) := by decide +kernel
theorem dL_law_362 : decode cL_law 362 = .ok (.iconst 1, 1) := by decide +kernel
theorem dL_law_363 : decode cL_law 363 = .ok (.iadd, 1) := by decide +kernel
theorem dL_law_364 : decode cL_law 364 = .ok (.iaload, 1) := by decide +kernel
theorem dL_law_365 : decode cL_law 365 = .ok (.aload_n 0, 1) := by decide +kernel
theorem dL_law_366 : decode cL_law 366 = .ok (.iload_n 3, 1) := by decide +kernel
theorem dL_law_367 : decode cL_law 367 = .ok (.iconst 2, 1) := by decide +kernel
theorem dL_law_368 : decode cL_law 368 = .ok (.iadd, 1) := by decide +kernel
theorem dL_law_369 : decode cL_law 369 = .ok (.iaload, 1) := by decide +kernel
theorem dL_law_370 : decode cL_law 370 = .ok (.aload_n 0, 1) := by decide +kernel
theorem dL_law_371 : decode cL_law 371 = .ok (.iload_n 3, 1) := by decide +kernel
theorem dL_law_372 : decode cL_law 372 = .ok (.iconst 3, 1) := by decide +kernel
theorem dL_law_373 : decode cL_law 373 = .ok (.iadd, 1) := by decide +kernel
theorem dL_law_374 : decode cL_law 374 = .ok (.iaload, 1) := by decide +kernel
theorem dL_law_375 : decode cL_law 375 = .ok (.invokevirtual 28, 3) := by decide +kernel
theorem dL_law_378 : decode cL_law 378 = .ok (.aload_n 2, 1) := by decide +kernel
theorem dL_law_379 : decode cL_law 379 = .ok (.aload_n 0, 1) := by decide +kernel
theorem dL_law_380 : decode cL_law 380 = .ok (.iload_n 3, 1) := by decide +kernel
theorem dL_law_381 : decode cL_law 381 = .ok (.iconst 1, 1) := by decide +kernel
theorem dL_law_382 : decode cL_law 382 = .ok (.iadd, 1) := by decide +kernel
theorem dL_law_383 : decode cL_law 383 = .ok (.iaload, 1) := by decide +kernel
theorem dL_law_384 : decode cL_law 384 = .ok (.aload_n 0, 1) := by decide +kernel
theorem dL_law_385 : decode cL_law 385 = .ok (.iload_n 3, 1) := by decide +kernel
theorem dL_law_386 : decode cL_law 386 = .ok (.iconst 2, 1) := by decide +kernel
theorem dL_law_387 : decode cL_law 387 = .ok (.iadd, 1) := by decide +kernel
theorem dL_law_388 : decode cL_law 388 = .ok (.iaload, 1) := by decide +kernel
theorem dL_law_389 : decode cL_law 389 = .ok (.aload_n 0, 1) := by decide +kernel
theorem dL_law_390 : decode cL_law 390 = .ok (.iload_n 3, 1) := by decide +kernel
theorem dL_law_391 : decode cL_law 391 = .ok (.iconst 3, 1) := by decide +kernel
theorem dL_law_392 : decode cL_law 392 = .ok (.iadd, 1) := by decide +kernel
theorem dL_law_393 : decode cL_law 393 = .ok (.iaload, 1) := by decide +kernel
theorem dL_law_394 : decode cL_law 394 = .ok (.invokevirtual 32, 3) := by decide +kernel
theorem dL_law_397 : decode cL_law 397 = .ok (.if_icmp .eq 1319, 3) := by decide +kernel
theorem dL_law_400 : decode cL_law 400 = .ok (.iconst 0, 1) := by decide +kernel
theorem dL_law_401 : decode cL_law 401 = .ok (.ireturn, 1) := by decide +kernel
theorem dL_law_402 : decode cL_law 402 = .ok (.aload_n 1, 1) := by decide +kernel
theorem dL_law_403 : decode cL_law 403 = .ok (.aload_n 0, 1) := by decide +kernel
theorem dL_law_404 : decode cL_law 404 = .ok (.iload_n 3, 1) := by decide +kernel
theorem dL_law_405 : decode cL_law 405 = .ok (.iconst 1, 1) := by decide +kernel
theorem dL_law_406 : decode cL_law 406 = .ok (.iadd, 1) := by decide +kernel
theorem dL_law_407 : decode cL_law 407 = .ok (.iaload, 1) := by decide +kernel
theorem dL_law_408 : decode cL_law 408 = .ok (.aload_n 0, 1) := by decide +kernel
theorem dL_law_409 : decode cL_law 409 = .ok (.iload_n 3, 1) := by decide +kernel
theorem dL_law_410 : decode cL_law 410 = .ok (.iconst 2, 1) := by decide +kernel
theorem dL_law_411 : decode cL_law 411 = .ok (.iadd, 1) := by decide +kernel
theorem dL_law_412 : decode cL_law 412 = .ok (.iaload, 1) := by decide +kernel
theorem dL_law_413 : decode cL_law 413 = .ok (.invokevirtual 33, 3) := by decide +kernel
theorem dL_law_416 : decode cL_law 416 = .ok (.aload_n 2, 1) := by decide +kernel
theorem dL_law_417 : decode cL_law 417 = .ok (.aload_n 0, 1) := by decide +kernel
theorem dL_law_418 : decode cL_law 418 = .ok (.iload_n 3, 1) := by decide +kernel
theorem dL_law_419 : decode cL_law 419 = .ok (.iconst 1, 1) := by decide +kernel
theorem dL_law_420 : decode cL_law 420 = .ok (.iadd, 1) := by decide +kernel
theorem dL_law_421 : decode cL_law 421 = .ok (.iaload, 1) := by decide +kernel
theorem dL_law_422 : decode cL_law 422 = .ok (.aload_n 0, 1) := by decide +kernel
theorem dL_law_423 : decode cL_law 423 = .ok (.iload_n 3, 1) := by decide +kernel
theorem dL_law_424 : decode cL_law 424 = .ok (.iconst 2, 1) := by decide +kernel
theorem dL_law_425 : decode cL_law 425 = .ok (.iadd, 1) := by decide +kernel
theorem dL_law_426 : decode cL_law 426 = .ok (.iaload, 1) := by decide +kernel
theorem dL_law_427 : decode cL_law 427 = .ok (.invokevirtual 37, 3) := by decide +kernel
theorem dL_law_430 : decode cL_law 430 = .ok (.if_icmp .eq 1286, 3) := by decide +kernel
theorem dL_law_433 : decode cL_law 433 = .ok (.iconst 0, 1) := by decide +kernel
theorem dL_law_434 : decode cL_law 434 = .ok (.ireturn, 1) := by decide +kernel
theorem dL_law_435 : decode cL_law 435 = .ok (.aload_n 1, 1) := by decide +kernel
theorem dL_law_436 : decode cL_law 436 = .ok (.aload_n 0, 1) := by decide +kernel
theorem dL_law_437 : decode cL_law 437 = .ok (.iload_n 3, 1) := by decide +kernel
theorem dL_law_438 : decode cL_law 438 = .ok (.iconst 1, 1) := by decide +kernel
theorem dL_law_439 : decode cL_law 439 = .ok (.iadd, 1) := by decide +kernel
theorem dL_law_440 : decode cL_law 440 = .ok (.iaload, 1) := by decide +kernel
theorem dL_law_441 : decode cL_law 441 = .ok (.aload_n 0, 1) := by decide +kernel
theorem dL_law_442 : decode cL_law 442 = .ok (.iload_n 3, 1) := by decide +kernel
theorem dL_law_443 : decode cL_law 443 = .ok (.iconst 2, 1) := by decide +kernel
theorem dL_law_444 : decode cL_law 444 = .ok (.iadd, 1) := by decide +kernel
theorem dL_law_445 : decode cL_law 445 = .ok (.iaload, 1) := by decide +kernel
theorem dL_law_446 : decode cL_law 446 = .ok (.aload_n 0, 1) := by decide +kernel
theorem dL_law_447 : decode cL_law 447 = .ok (.iload_n 3, 1) := by decide +kernel
theorem dL_law_448 : decode cL_law 448 = .ok (.iconst 3, 1) := by decide +kernel
theorem dL_law_449 : decode cL_law 449 = .ok (.iadd, 1) := by decide +kernel
theorem dL_law_450 : decode cL_law 450 = .ok (.iaload, 1) := by decide +kernel
theorem dL_law_451 : decode cL_law 451 = .ok (.aload_n 0, 1) := by decide +kernel
theorem dL_law_452 : decode cL_law 452 = .ok (.iload_n 3, 1) := by decide +kernel
theorem dL_law_453 : decode cL_law 453 = .ok (.iconst 4, 1) := by decide +kernel
theorem dL_law_454 : decode cL_law 454 = .ok (.iadd, 1) := by decide +kernel
theorem dL_law_455 : decode cL_law 455 = .ok (.iaload, 1) := by decide +kernel
theorem dL_law_456 : decode cL_law 456 = .ok (.aload_n 0, 1) := by decide +kernel
theorem dL_law_457 : decode cL_law 457 = .ok (.iload_n 3, 1) := by decide +kernel
theorem dL_law_458 : decode cL_law 458 = .ok (.iconst 5, 1) := by decide +kernel
theorem dL_law_459 : decode cL_law 459 = .ok (.iadd, 1) := by decide +kernel
theorem dL_law_460 : decode cL_law 460 = .ok (.iaload, 1) := by decide +kernel
theorem dL_law_461 : decode cL_law 461 = .ok (.aload_n 0, 1) := by decide +kernel
theorem dL_law_462 : decode cL_law 462 = .ok (.iload_n 3, 1) := by decide +kernel
theorem dL_law_463 : decode cL_law 463 = .ok (.bipush 6, 2) := by decide +kernel
theorem dL_law_465 : decode cL_law 465 = .ok (.iadd, 1) := by decide +kernel
theorem dL_law_466 : decode cL_law 466 = .ok (.iaload, 1) := by decide +kernel
theorem dL_law_467 : decode cL_law 467 = .ok (.invokevirtual 38, 3) := by decide +kernel
theorem dL_law_470 : decode cL_law 470 = .ok (.aload_n 2, 1) := by decide +kernel
theorem dL_law_471 : decode cL_law 471 = .ok (.aload_n 0, 1) := by decide +kernel
theorem dL_law_472 : decode cL_law 472 = .ok (.iload_n 3, 1) := by decide +kernel
theorem dL_law_473 : decode cL_law 473 = .ok (.iconst 1, 1) := by decide +kernel
theorem dL_law_474 : decode cL_law 474 = .ok (.iadd, 1) := by decide +kernel
theorem dL_law_475 : decode cL_law 475 = .ok (.iaload, 1) := by decide +kernel
theorem dL_law_476 : decode cL_law 476 = .ok (.aload_n 0, 1) := by decide +kernel
theorem dL_law_477 : decode cL_law 477 = .ok (.iload_n 3, 1) := by decide +kernel
theorem dL_law_478 : decode cL_law 478 = .ok (.iconst 2, 1) := by decide +kernel
theorem dL_law_479 : decode cL_law 479 = .ok (.iadd, 1) := by decide +kernel
theorem dL_law_480 : decode cL_law 480 = .ok (.iaload, 1) := by decide +kernel
theorem dL_law_481 : decode cL_law 481 = .ok (.aload_n 0, 1) := by decide +kernel
theorem dL_law_482 : decode cL_law 482 = .ok (.iload_n 3, 1) := by decide +kernel
theorem dL_law_483 : decode cL_law 483 = .ok (.iconst 3, 1) := by decide +kernel
theorem dL_law_484 : decode cL_law 484 = .ok (.iadd, 1) := by decide +kernel
theorem dL_law_485 : decode cL_law 485 = .ok (.iaload, 1) := by decide +kernel
theorem dL_law_486 : decode cL_law 486 = .ok (.aload_n 0, 1) := by decide +kernel
theorem dL_law_487 : decode cL_law 487 = .ok (.iload_n 3, 1) := by decide +kernel
theorem dL_law_488 : decode cL_law 488 = .ok (.iconst 4, 1) := by decide +kernel
theorem dL_law_489 : decode cL_law 489 = .ok (.iadd, 1) := by decide +kernel
theorem dL_law_490 : decode cL_law 490 = .ok (.iaload, 1) := by decide +kernel
theorem dL_law_491 : decode cL_law 491 = .ok (.aload_n 0, 1) := by decide +kernel
theorem dL_law_492 : decode cL_law 492 = .ok (.iload_n 3, 1) := by decide +kernel
theorem dL_law_493 : decode cL_law 493 = .ok (.iconst 5, 1) := by decide +kernel
theorem dL_law_494 : decode cL_law 494 = .ok (.iadd, 1) := by decide +kernel
theorem dL_law_495 : decode cL_law 495 = .ok (.iaload, 1) := by decide +kernel
theorem dL_law_496 : decode cL_law 496 = .ok (.aload_n 0, 1) := by decide +kernel
theorem dL_law_497 : decode cL_law 497 = .ok (.iload_n 3, 1) := by decide +kernel
theorem dL_law_498 : decode cL_law 498 = .ok (.bipush 6, 2) := by decide +kernel
theorem dL_law_500 : decode cL_law 500 = .ok (.iadd, 1) := by decide +kernel
theorem dL_law_501 : decode cL_law 501 = .ok (.iaload, 1) := by decide +kernel
theorem dL_law_502 : decode cL_law 502 = .ok (.invokevirtual 41, 3) := by decide +kernel
theorem dL_law_505 : decode cL_law 505 = .ok (.if_icmp .eq 1211, 3) := by decide +kernel
theorem dL_law_508 : decode cL_law 508 = .ok (.iconst 0, 1) := by decide +kernel
theorem dL_law_509 : decode cL_law 509 = .ok (.ireturn, 1) := by decide +kernel
theorem dL_law_510 : decode cL_law 510 = .ok (.aload_n 1, 1) := by decide +kernel
theorem dL_law_511 : decode cL_law 511 = .ok (.aload_n 0, 1) := by decide +kernel
theorem dL_law_512 : decode cL_law 512 = .ok (.iload_n 3, 1) := by decide +kernel
theorem dL_law_513 : decode cL_law 513 = .ok (.iconst 1, 1) := by decide +kernel
theorem dL_law_514 : decode cL_law 514 = .ok (.iadd, 1) := by decide +kernel
theorem dL_law_515 : decode cL_law 515 = .ok (.iaload, 1) := by decide +kernel
theorem dL_law_516 : decode cL_law 516 = .ok (.aload_n 0, 1) := by decide +kernel
theorem dL_law_517 : decode cL_law 517 = .ok (.iload_n 3, 1) := by decide +kernel
theorem dL_law_518 : decode cL_law 518 = .ok (.iconst 2, 1) := by decide +kernel
theorem dL_law_519 : decode cL_law 519 = .ok (.iadd, 1) := by decide +kernel
theorem dL_law_520 : decode cL_law 520 = .ok (.iaload, 1) := by decide +kernel
theorem dL_law_521 : decode cL_law 521 = .ok (.aload_n 0, 1) := by decide +kernel
theorem dL_law_522 : decode cL_law 522 = .ok (.iload_n 3, 1) := by decide +kernel
theorem dL_law_523 : decode cL_law 523 = .ok (.iconst 3, 1) := by decide +kernel
theorem dL_law_524 : decode cL_law 524 = .ok (.iadd, 1) := by decide +kernel
theorem dL_law_525 : decode cL_law 525 = .ok (.iaload, 1) := by decide +kernel
theorem dL_law_526 : decode cL_law 526 = .ok (.aload_n 0, 1) := by decide +kernel
theorem dL_law_527 : decode cL_law 527 = .ok (.iload_n 3, 1) := by decide +kernel
theorem dL_law_528 : decode cL_law 528 = .ok (.iconst 4, 1) := by decide +kernel
theorem dL_law_529 : decode cL_law 529 = .ok (.iadd, 1) := by decide +kernel
theorem dL_law_530 : decode cL_law 530 = .ok (.iaload, 1) := by decide +kernel
theorem dL_law_531 : decode cL_law 531 = .ok (.aload_n 0, 1) := by decide +kernel
theorem dL_law_532 : decode cL_law 532 = .ok (.iload_n 3, 1) := by decide +kernel
theorem dL_law_533 : decode cL_law 533 = .ok (.iconst 5, 1) := by decide +kernel
theorem dL_law_534 : decode cL_law 534 = .ok (.iadd, 1) := by decide +kernel
theorem dL_law_535 : decode cL_law 535 = .ok (.iaload, 1) := by decide +kernel
theorem dL_law_536 : decode cL_law 536 = .ok (.aload_n 0, 1) := by decide +kernel
theorem dL_law_537 : decode cL_law 537 = .ok (.iload_n 3, 1) := by decide +kernel
theorem dL_law_538 : decode cL_law 538 = .ok (.bipush 6, 2) := by decide +kernel
theorem dL_law_540 : decode cL_law 540 = .ok (.iadd, 1) := by decide +kernel
theorem dL_law_541 : decode cL_law 541 = .ok (.iaload, 1) := by decide +kernel
theorem dL_law_542 : decode cL_law 542 = .ok (.invokevirtual 42, 3) := by decide +kernel
theorem dL_law_545 : decode cL_law 545 = .ok (.aload_n 2, 1) := by decide +kernel
theorem dL_law_546 : decode cL_law 546 = .ok (.aload_n 0, 1) := by decide +kernel
theorem dL_law_547 : decode cL_law 547 = .ok (.iload_n 3, 1) := by decide +kernel
theorem dL_law_548 : decode cL_law 548 = .ok (.iconst 1, 1) := by decide +kernel
theorem dL_law_549 : decode cL_law 549 = .ok (.iadd, 1) := by decide +kernel
theorem dL_law_550 : decode cL_law 550 = .ok (.iaload, 1) := by decide +kernel
theorem dL_law_551 : decode cL_law 551 = .ok (.aload_n 0, 1) := by decide +kernel
theorem dL_law_552 : decode cL_law 552 = .ok (.iload_n 3, 1) := by decide +kernel
theorem dL_law_553 : decode cL_law 553 = .ok (.iconst 2, 1) := by decide +kernel
theorem dL_law_554 : decode cL_law 554 = .ok (.iadd, 1) := by decide +kernel
theorem dL_law_555 : decode cL_law 555 = .ok (.iaload, 1) := by decide +kernel
theorem dL_law_556 : decode cL_law 556 = .ok (.aload_n 0, 1) := by decide +kernel
theorem dL_law_557 : decode cL_law 557 = .ok (.iload_n 3, 1) := by decide +kernel
theorem dL_law_558 : decode cL_law 558 = .ok (.iconst 3, 1) := by decide +kernel
theorem dL_law_559 : decode cL_law 559 = .ok (.iadd, 1) := by decide +kernel
theorem dL_law_560 : decode cL_law 560 = .ok (.iaload, 1) := by decide +kernel
theorem dL_law_561 : decode cL_law 561 = .ok (.aload_n 0, 1) := by decide +kernel
theorem dL_law_562 : decode cL_law 562 = .ok (.iload_n 3, 1) := by decide +kernel
theorem dL_law_563 : decode cL_law 563 = .ok (.iconst 4, 1) := by decide +kernel
theorem dL_law_564 : decode cL_law 564 = .ok (.iadd, 1) := by decide +kernel
theorem dL_law_565 : decode cL_law 565 = .ok (.iaload, 1) := by decide +kernel
theorem dL_law_566 : decode cL_law 566 = .ok (.aload_n 0, 1) := by decide +kernel
theorem dL_law_567 : decode cL_law 567 = .ok (.iload_n 3, 1) := by decide +kernel
theorem dL_law_568 : decode cL_law 568 = .ok (.iconst 5, 1) := by decide +kernel
theorem dL_law_569 : decode cL_law 569 = .ok (.iadd, 1) := by decide +kernel
theorem dL_law_570 : decode cL_law 570 = .ok (.iaload, 1) := by decide +kernel
theorem dL_law_571 : decode cL_law 571 = .ok (.aload_n 0, 1) := by decide +kernel
theorem dL_law_572 : decode cL_law 572 = .ok (.iload_n 3, 1) := by decide +kernel
theorem dL_law_573 : decode cL_law 573 = .ok (.bipush 6, 2) := by decide +kernel
theorem dL_law_575 : decode cL_law 575 = .ok (.iadd, 1) := by decide +kernel
theorem dL_law_576 : decode cL_law 576 = .ok (.iaload, 1) := by decide +kernel
theorem dL_law_577 : decode cL_law 577 = .ok (.invokevirtual 45, 3) := by decide +kernel
theorem dL_law_580 : decode cL_law 580 = .ok (.if_icmp .eq 1136, 3) := by decide +kernel
theorem dL_law_583 : decode cL_law 583 = .ok (.iconst 0, 1) := by decide +kernel
theorem dL_law_584 : decode cL_law 584 = .ok (.ireturn, 1) := by decide +kernel
theorem dL_law_585 : decode cL_law 585 = .ok (.aload_n 1, 1) := by decide +kernel
theorem dL_law_586 : decode cL_law 586 = .ok (.aload_n 0, 1) := by decide +kernel
theorem dL_law_587 : decode cL_law 587 = .ok (.iload_n 3, 1) := by decide +kernel
theorem dL_law_588 : decode cL_law 588 = .ok (.iconst 1, 1) := by decide +kernel
theorem dL_law_589 : decode cL_law 589 = .ok (.iadd, 1) := by decide +kernel
theorem dL_law_590 : decode cL_law 590 = .ok (.iaload, 1) := by decide +kernel
theorem dL_law_591 : decode cL_law 591 = .ok (.aload_n 0, 1) := by decide +kernel
theorem dL_law_592 : decode cL_law 592 = .ok (.iload_n 3, 1) := by decide +kernel
theorem dL_law_593 : decode cL_law 593 = .ok (.iconst 2, 1) := by decide +kernel
theorem dL_law_594 : decode cL_law 594 = .ok (.iadd, 1) := by decide +kernel
theorem dL_law_595 : decode cL_law 595 = .ok (.iaload, 1) := by decide +kernel
theorem dL_law_596 : decode cL_law 596 = .ok (.invokevirtual 46, 3) := by decide +kernel
theorem dL_law_599 : decode cL_law 599 = .ok (.aload_n 2, 1) := by decide +kernel
theorem dL_law_600 : decode cL_law 600 = .ok (.aload_n 0, 1) := by decide +kernel
theorem dL_law_601 : decode cL_law 601 = .ok (.iload_n 3, 1) := by decide +kernel
theorem dL_law_602 : decode cL_law 602 = .ok (.iconst 1, 1) := by decide +kernel
theorem dL_law_603 : decode cL_law 603 = .ok (.iadd, 1) := by decide +kernel
theorem dL_law_604 : decode cL_law 604 = .ok (.iaload, 1) := by decide +kernel
theorem dL_law_605 : decode cL_law 605 = .ok (.aload_n 0, 1) := by decide +kernel
theorem dL_law_606 : decode cL_law 606 = .ok (.iload_n 3, 1) := by decide +kernel
theorem dL_law_607 : decode cL_law 607 = .ok (.iconst 2, 1) := by decide +kernel
theorem dL_law_608 : decode cL_law 608 = .ok (.iadd, 1) := by decide +kernel
theorem dL_law_609 : decode cL_law 609 = .ok (.iaload, 1) := by decide +kernel
theorem dL_law_610 : decode cL_law 610 = .ok (.invokevirtual 49, 3) := by decide +kernel
theorem dL_law_613 : decode cL_law 613 = .ok (.if_icmp .eq 1103, 3) := by decide +kernel
theorem dL_law_616 : decode cL_law 616 = .ok (.iconst 0, 1) := by decide +kernel
theorem dL_law_617 : decode cL_law 617 = .ok (.ireturn, 1) := by decide +kernel
theorem dL_law_618 : decode cL_law 618 = .ok (.aload_n 1, 1) := by decide +kernel
theorem dL_law_619 : decode cL_law 619 = .ok (.aload_n 0, 1) := by decide +kernel
theorem dL_law_620 : decode cL_law 620 = .ok (.iload_n 3, 1) := by decide +kernel
theorem dL_law_621 : decode cL_law 621 = .ok (.iconst 1, 1) := by decide +kernel
theorem dL_law_622 : decode cL_law 622 = .ok (.iadd, 1) := by decide +kernel
theorem dL_law_623 : decode cL_law 623 = .ok (.iaload, 1) := by decide +kernel
theorem dL_law_624 : decode cL_law 624 = .ok (.aload_n 0, 1) := by decide +kernel
theorem dL_law_625 : decode cL_law 625 = .ok (.iload_n 3, 1) := by decide +kernel
theorem dL_law_626 : decode cL_law 626 = .ok (.iconst 2, 1) := by decide +kernel
theorem dL_law_627 : decode cL_law 627 = .ok (.iadd, 1) := by decide +kernel
theorem dL_law_628 : decode cL_law 628 = .ok (.iaload, 1) := by decide +kernel
theorem dL_law_629 : decode cL_law 629 = .ok (.invokevirtual 50, 3) := by decide +kernel
theorem dL_law_632 : decode cL_law 632 = .ok (.aload_n 2, 1) := by decide +kernel
theorem dL_law_633 : decode cL_law 633 = .ok (.aload_n 0, 1) := by decide +kernel
theorem dL_law_634 : decode cL_law 634 = .ok (.iload_n 3, 1) := by decide +kernel
theorem dL_law_635 : decode cL_law 635 = .ok (.iconst 1, 1) := by decide +kernel
theorem dL_law_636 : decode cL_law 636 = .ok (.iadd, 1) := by decide +kernel
theorem dL_law_637 : decode cL_law 637 = .ok (.iaload, 1) := by decide +kernel
theorem dL_law_638 : decode cL_law 638 = .ok (.aload_n 0, 1) := by decide +kernel
theorem dL_law_639 : decode cL_law 639 = .ok (.iload_n 3, 1) := by decide +kernel
theorem dL_law_640 : decode cL_law 640 = .ok (.iconst 2, 1) := by decide +kernel
theorem dL_law_641 : decode cL_law 641 = .ok (.iadd, 1) := by decide +kernel
theorem dL_law_642 : decode cL_law 642 = .ok (.iaload, 1) := by decide +kernel
theorem dL_law_643 : decode cL_law 643 = .ok (.invokevirtual 53, 3) := by decide +kernel
theorem dL_law_646 : decode cL_law 646 = .ok (.if_icmp .eq 1070, 3) := by decide +kernel
theorem dL_law_649 : decode cL_law 649 = .ok (.iconst 0, 1) := by decide +kernel
theorem dL_law_650 : decode cL_law 650 = .ok (.ireturn, 1) := by decide +kernel
theorem dL_law_651 : decode cL_law 651 = .ok (.aload_n 1, 1) := by decide +kernel
theorem dL_law_652 : decode cL_law 652 = .ok (.aload_n 0, 1) := by decide +kernel
theorem dL_law_653 : decode cL_law 653 = .ok (.iload_n 3, 1) := by decide +kernel
theorem dL_law_654 : decode cL_law 654 = .ok (.iconst 1, 1) := by decide +kernel
theorem dL_law_655 : decode cL_law 655 = .ok (.iadd, 1) := by decide +kernel
theorem dL_law_656 : decode cL_law 656 = .ok (.iaload, 1) := by decide +kernel
theorem dL_law_657 : decode cL_law 657 = .ok (.aload_n 0, 1) := by decide +kernel
theorem dL_law_658 : decode cL_law 658 = .ok (.iload_n 3, 1) := by decide +kernel
theorem dL_law_659 : decode cL_law 659 = .ok (.iconst 2, 1) := by decide +kernel
theorem dL_law_660 : decode cL_law 660 = .ok (.iadd, 1) := by decide +kernel
theorem dL_law_661 : decode cL_law 661 = .ok (.iaload, 1) := by decide +kernel
theorem dL_law_662 : decode cL_law 662 = .ok (.aload_n 0, 1) := by decide +kernel
theorem dL_law_663 : decode cL_law 663 = .ok (.iload_n 3, 1) := by decide +kernel
theorem dL_law_664 : decode cL_law 664 = .ok (.iconst 3, 1) := by decide +kernel
theorem dL_law_665 : decode cL_law 665 = .ok (.iadd, 1) := by decide +kernel
theorem dL_law_666 : decode cL_law 666 = .ok (.iaload, 1) := by decide +kernel
theorem dL_law_667 : decode cL_law 667 = .ok (.invokevirtual 54, 3) := by decide +kernel
theorem dL_law_670 : decode cL_law 670 = .ok (.aload_n 2, 1) := by decide +kernel
theorem dL_law_671 : decode cL_law 671 = .ok (.aload_n 0, 1) := by decide +kernel
theorem dL_law_672 : decode cL_law 672 = .ok (.iload_n 3, 1) := by decide +kernel
theorem dL_law_673 : decode cL_law 673 = .ok (.iconst 1, 1) := by decide +kernel
theorem dL_law_674 : decode cL_law 674 = .ok (.iadd, 1) := by decide +kernel
theorem dL_law_675 : decode cL_law 675 = .ok (.iaload, 1) := by decide +kernel
theorem dL_law_676 : decode cL_law 676 = .ok (.aload_n 0, 1) := by decide +kernel
theorem dL_law_677 : decode cL_law 677 = .ok (.iload_n 3, 1) := by decide +kernel
theorem dL_law_678 : decode cL_law 678 = .ok (.iconst 2, 1) := by decide +kernel
theorem dL_law_679 : decode cL_law 679 = .ok (.iadd, 1) := by decide +kernel
theorem dL_law_680 : decode cL_law 680 = .ok (.iaload, 1) := by decide +kernel
theorem dL_law_681 : decode cL_law 681 = .ok (.aload_n 0, 1) := by decide +kernel
theorem dL_law_682 : decode cL_law 682 = .ok (.iload_n 3, 1) := by decide +kernel
theorem dL_law_683 : decode cL_law 683 = .ok (.iconst 3, 1) := by decide +kernel
theorem dL_law_684 : decode cL_law 684 = .ok (.iadd, 1) := by decide +kernel
theorem dL_law_685 : decode cL_law 685 = .ok (.iaload, 1) := by decide +kernel
theorem dL_law_686 : decode cL_law 686 = .ok (.invokevirtual 57, 3) := by decide +kernel
theorem dL_law_689 : decode cL_law 689 = .ok (.if_icmp .eq 1027, 3) := by decide +kernel
theorem dL_law_692 : decode cL_law 692 = .ok (.iconst 0, 1) := by decide +kernel
theorem dL_law_693 : decode cL_law 693 = .ok (.ireturn, 1) := by decide +kernel
theorem dL_law_694 : decode cL_law 694 = .ok (.aload_n 1, 1) := by decide +kernel
theorem dL_law_695 : decode cL_law 695 = .ok (.aload_n 0, 1) := by decide +kernel
theorem dL_law_696 : decode cL_law 696 = .ok (.iload_n 3, 1) := by decide +kernel
theorem dL_law_697 : decode cL_law 697 = .ok (.iconst 1, 1) := by decide +kernel
theorem dL_law_698 : decode cL_law 698 = .ok (.iadd, 1) := by decide +kernel
theorem dL_law_699 : decode cL_law 699 = .ok (.iaload, 1) := by decide +kernel
theorem dL_law_700 : decode cL_law 700 = .ok (.aload_n 0, 1) := by decide +kernel
theorem dL_law_701 : decode cL_law 701 = .ok (.iload_n 3, 1) := by decide +kernel
theorem dL_law_702 : decode cL_law 702 = .ok (.iconst 2, 1) := by decide +kernel
theorem dL_law_703 : decode cL_law 703 = .ok (.iadd, 1) := by decide +kernel
theorem dL_law_704 : decode cL_law 704 = .ok (.iaload, 1) := by decide +kernel
theorem dL_law_705 : decode cL_law 705 = .ok (.aload_n 0, 1) := by decide +kernel
theorem dL_law_706 : decode cL_law 706 = .ok (.iload_n 3, 1) := by decide +kernel
theorem dL_law_707 : decode cL_law 707 = .ok (.iconst 3, 1) := by decide +kernel
theorem dL_law_708 : decode cL_law 708 = .ok (.iadd, 1) := by decide +kernel
theorem dL_law_709 : decode cL_law 709 = .ok (.iaload, 1) := by decide +kernel
theorem dL_law_710 : decode cL_law 710 = .ok (.aload_n 0, 1) := by decide +kernel
theorem dL_law_711 : decode cL_law 711 = .ok (.iload_n 3, 1) := by decide +kernel
theorem dL_law_712 : decode cL_law 712 = .ok (.iconst 4, 1) := by decide +kernel
theorem dL_law_713 : decode cL_law 713 = .ok (.iadd, 1) := by decide +kernel
theorem dL_law_714 : decode cL_law 714 = .ok (.iaload, 1) := by decide +kernel
theorem dL_law_715 : decode cL_law 715 = .ok (.invokevirtual 58, 3) := by decide +kernel
theorem dL_law_718 : decode cL_law 718 = .ok (.aload_n 2, 1) := by decide +kernel
theorem dL_law_719 : decode cL_law 719 = .ok (.aload_n 0, 1) := by decide +kernel
theorem dL_law_720 : decode cL_law 720 = .ok (.iload_n 3, 1) := by decide +kernel
theorem dL_law_721 : decode cL_law 721 = .ok (.iconst 1, 1) := by decide +kernel
theorem dL_law_722 : decode cL_law 722 = .ok (.iadd, 1) := by decide +kernel
theorem dL_law_723 : decode cL_law 723 = .ok (.iaload, 1) := by decide +kernel
theorem dL_law_724 : decode cL_law 724 = .ok (.aload_n 0, 1) := by decide +kernel
theorem dL_law_725 : decode cL_law 725 = .ok (.iload_n 3, 1) := by decide +kernel
theorem dL_law_726 : decode cL_law 726 = .ok (.iconst 2, 1) := by decide +kernel
theorem dL_law_727 : decode cL_law 727 = .ok (.iadd, 1) := by decide +kernel
theorem dL_law_728 : decode cL_law 728 = .ok (.iaload, 1) := by decide +kernel
theorem dL_law_729 : decode cL_law 729 = .ok (.aload_n 0, 1) := by decide +kernel
theorem dL_law_730 : decode cL_law 730 = .ok (.iload_n 3, 1) := by decide +kernel
theorem dL_law_731 : decode cL_law 731 = .ok (.iconst 3, 1) := by decide +kernel
theorem dL_law_732 : decode cL_law 732 = .ok (.iadd, 1) := by decide +kernel
theorem dL_law_733 : decode cL_law 733 = .ok (.iaload, 1) := by decide +kernel
theorem dL_law_734 : decode cL_law 734 = .ok (.aload_n 0, 1) := by decide +kernel
theorem dL_law_735 : decode cL_law 735 = .ok (.iload_n 3, 1) := by decide +kernel
theorem dL_law_736 : decode cL_law 736 = .ok (.iconst 4, 1) := by decide +kernel
theorem dL_law_737 : decode cL_law 737 = .ok (.iadd, 1) := by decide +kernel
theorem dL_law_738 : decode cL_law 738 = .ok (.iaload, 1) := by decide +kernel
theorem dL_law_739 : decode cL_law 739 = .ok (.invokevirtual 61, 3) := by decide +kernel
theorem dL_law_742 : decode cL_law 742 = .ok (.if_icmp .eq 974, 3) := by decide +kernel
theorem dL_law_745 : decode cL_law 745 = .ok (.iconst 0, 1) := by decide +kernel
theorem dL_law_746 : decode cL_law 746 = .ok (.ireturn, 1) := by decide +kernel
theorem dL_law_747 : decode cL_law 747 = .ok (.aload_n 1, 1) := by decide +kernel
theorem dL_law_748 : decode cL_law 748 = .ok (.aload_n 0, 1) := by decide +kernel
theorem dL_law_749 : decode cL_law 749 = .ok (.iload_n 3, 1) := by decide +kernel
theorem dL_law_750 : decode cL_law 750 = .ok (.iconst 1, 1) := by decide +kernel
theorem dL_law_751 : decode cL_law 751 = .ok (.iadd, 1) := by decide +kernel
theorem dL_law_752 : decode cL_law 752 = .ok (.iaload, 1) := by decide +kernel
theorem dL_law_753 : decode cL_law 753 = .ok (.aload_n 0, 1) := by decide +kernel
theorem dL_law_754 : decode cL_law 754 = .ok (.iload_n 3, 1) := by decide +kernel
theorem dL_law_755 : decode cL_law 755 = .ok (.iconst 2, 1) := by decide +kernel
theorem dL_law_756 : decode cL_law 756 = .ok (.iadd, 1) := by decide +kernel
theorem dL_law_757 : decode cL_law 757 = .ok (.iaload, 1) := by decide +kernel
theorem dL_law_758 : decode cL_law 758 = .ok (.aload_n 0, 1) := by decide +kernel
theorem dL_law_759 : decode cL_law 759 = .ok (.iload_n 3, 1) := by decide +kernel
theorem dL_law_760 : decode cL_law 760 = .ok (.iconst 3, 1) := by decide +kernel
theorem dL_law_761 : decode cL_law 761 = .ok (.iadd, 1) := by decide +kernel
theorem dL_law_762 : decode cL_law 762 = .ok (.iaload, 1) := by decide +kernel
theorem dL_law_763 : decode cL_law 763 = .ok (.aload_n 0, 1) := by decide +kernel
theorem dL_law_764 : decode cL_law 764 = .ok (.iload_n 3, 1) := by decide +kernel
theorem dL_law_765 : decode cL_law 765 = .ok (.iconst 4, 1) := by decide +kernel
theorem dL_law_766 : decode cL_law 766 = .ok (.iadd, 1) := by decide +kernel
theorem dL_law_767 : decode cL_law 767 = .ok (.iaload, 1) := by decide +kernel
theorem dL_law_768 : decode cL_law 768 = .ok (.invokevirtual 62, 3) := by decide +kernel
theorem dL_law_771 : decode cL_law 771 = .ok (.aload_n 2, 1) := by decide +kernel
theorem dL_law_772 : decode cL_law 772 = .ok (.aload_n 0, 1) := by decide +kernel
theorem dL_law_773 : decode cL_law 773 = .ok (.iload_n 3, 1) := by decide +kernel
theorem dL_law_774 : decode cL_law 774 = .ok (.iconst 1, 1) := by decide +kernel
theorem dL_law_775 : decode cL_law 775 = .ok (.iadd, 1) := by decide +kernel
theorem dL_law_776 : decode cL_law 776 = .ok (.iaload, 1) := by decide +kernel
theorem dL_law_777 : decode cL_law 777 = .ok (.aload_n 0, 1) := by decide +kernel
theorem dL_law_778 : decode cL_law 778 = .ok (.iload_n 3, 1) := by decide +kernel
theorem dL_law_779 : decode cL_law 779 = .ok (.iconst 2, 1) := by decide +kernel
theorem dL_law_780 : decode cL_law 780 = .ok (.iadd, 1) := by decide +kernel
theorem dL_law_781 : decode cL_law 781 = .ok (.iaload, 1) := by decide +kernel
theorem dL_law_782 : decode cL_law 782 = .ok (.aload_n 0, 1) := by decide +kernel
theorem dL_law_783 : decode cL_law 783 = .ok (.iload_n 3, 1) := by decide +kernel
theorem dL_law_784 : decode cL_law 784 = .ok (.iconst 3, 1) := by decide +kernel
theorem dL_law_785 : decode cL_law 785 = .ok (.iadd, 1) := by decide +kernel
theorem dL_law_786 : decode cL_law 786 = .ok (.iaload, 1) := by decide +kernel
theorem dL_law_787 : decode cL_law 787 = .ok (.aload_n 0, 1) := by decide +kernel
theorem dL_law_788 : decode cL_law 788 = .ok (.iload_n 3, 1) := by decide +kernel
theorem dL_law_789 : decode cL_law 789 = .ok (.iconst 4, 1) := by decide +kernel
theorem dL_law_790 : decode cL_law 790 = .ok (.iadd, 1) := by decide +kernel
theorem dL_law_791 : decode cL_law 791 = .ok (.iaload, 1) := by decide +kernel
theorem dL_law_792 : decode cL_law 792 = .ok (.invokevirtual 65, 3) := by decide +kernel
theorem dL_law_795 : decode cL_law 795 = .ok (.if_icmp .eq 921, 3) := by decide +kernel
theorem dL_law_798 : decode cL_law 798 = .ok (.iconst 0, 1) := by decide +kernel
theorem dL_law_799 : decode cL_law 799 = .ok (.ireturn, 1) := by decide +kernel
theorem dL_law_800 : decode cL_law 800 = .ok (.aload_n 1, 1) := by decide +kernel
theorem dL_law_801 : decode cL_law 801 = .ok (.aload_n 0, 1) := by decide +kernel
theorem dL_law_802 : decode cL_law 802 = .ok (.iload_n 3, 1) := by decide +kernel
theorem dL_law_803 : decode cL_law 803 = .ok (.iconst 1, 1) := by decide +kernel
theorem dL_law_804 : decode cL_law 804 = .ok (.iadd, 1) := by decide +kernel
theorem dL_law_805 : decode cL_law 805 = .ok (.iaload, 1) := by decide +kernel
theorem dL_law_806 : decode cL_law 806 = .ok (.aload_n 0, 1) := by decide +kernel
theorem dL_law_807 : decode cL_law 807 = .ok (.iload_n 3, 1) := by decide +kernel
theorem dL_law_808 : decode cL_law 808 = .ok (.iconst 2, 1) := by decide +kernel
theorem dL_law_809 : decode cL_law 809 = .ok (.iadd, 1) := by decide +kernel
theorem dL_law_810 : decode cL_law 810 = .ok (.iaload, 1) := by decide +kernel
theorem dL_law_811 : decode cL_law 811 = .ok (.aload_n 0, 1) := by decide +kernel
theorem dL_law_812 : decode cL_law 812 = .ok (.iload_n 3, 1) := by decide +kernel
theorem dL_law_813 : decode cL_law 813 = .ok (.iconst 3, 1) := by decide +kernel
theorem dL_law_814 : decode cL_law 814 = .ok (.iadd, 1) := by decide +kernel
theorem dL_law_815 : decode cL_law 815 = .ok (.iaload, 1) := by decide +kernel
theorem dL_law_816 : decode cL_law 816 = .ok (.aload_n 0, 1) := by decide +kernel
theorem dL_law_817 : decode cL_law 817 = .ok (.iload_n 3, 1) := by decide +kernel
theorem dL_law_818 : decode cL_law 818 = .ok (.iconst 4, 1) := by decide +kernel
theorem dL_law_819 : decode cL_law 819 = .ok (.iadd, 1) := by decide +kernel
theorem dL_law_820 : decode cL_law 820 = .ok (.iaload, 1) := by decide +kernel
theorem dL_law_821 : decode cL_law 821 = .ok (.invokevirtual 66, 3) := by decide +kernel
theorem dL_law_824 : decode cL_law 824 = .ok (.aload_n 2, 1) := by decide +kernel
theorem dL_law_825 : decode cL_law 825 = .ok (.aload_n 0, 1) := by decide +kernel
theorem dL_law_826 : decode cL_law 826 = .ok (.iload_n 3, 1) := by decide +kernel
theorem dL_law_827 : decode cL_law 827 = .ok (.iconst 1, 1) := by decide +kernel
theorem dL_law_828 : decode cL_law 828 = .ok (.iadd, 1) := by decide +kernel
theorem dL_law_829 : decode cL_law 829 = .ok (.iaload, 1) := by decide +kernel
theorem dL_law_830 : decode cL_law 830 = .ok (.aload_n 0, 1) := by decide +kernel
theorem dL_law_831 : decode cL_law 831 = .ok (.iload_n 3, 1) := by decide +kernel
theorem dL_law_832 : decode cL_law 832 = .ok (.iconst 2, 1) := by decide +kernel
theorem dL_law_833 : decode cL_law 833 = .ok (.iadd, 1) := by decide +kernel
theorem dL_law_834 : decode cL_law 834 = .ok (.iaload, 1) := by decide +kernel
theorem dL_law_835 : decode cL_law 835 = .ok (.aload_n 0, 1) := by decide +kernel
theorem dL_law_836 : decode cL_law 836 = .ok (.iload_n 3, 1) := by decide +kernel
theorem dL_law_837 : decode cL_law 837 = .ok (.iconst 3, 1) := by decide +kernel
theorem dL_law_838 : decode cL_law 838 = .ok (.iadd, 1) := by decide +kernel
theorem dL_law_839 : decode cL_law 839 = .ok (.iaload, 1) := by decide +kernel
theorem dL_law_840 : decode cL_law 840 = .ok (.aload_n 0, 1) := by decide +kernel
theorem dL_law_841 : decode cL_law 841 = .ok (.iload_n 3, 1) := by decide +kernel
theorem dL_law_842 : decode cL_law 842 = .ok (.iconst 4, 1) := by decide +kernel
theorem dL_law_843 : decode cL_law 843 = .ok (.iadd, 1) := by decide +kernel
theorem dL_law_844 : decode cL_law 844 = .ok (.iaload, 1) := by decide +kernel
theorem dL_law_845 : decode cL_law 845 = .ok (.invokevirtual 69, 3) := by decide +kernel
theorem dL_law_848 : decode cL_law 848 = .ok (.if_icmp .eq 868, 3) := by decide +kernel
theorem dL_law_851 : decode cL_law 851 = .ok (.iconst 0, 1) := by decide +kernel
theorem dL_law_852 : decode cL_law 852 = .ok (.ireturn, 1) := by decide +kernel
theorem dL_law_853 : decode cL_law 853 = .ok (.aload_n 1, 1) := by decide +kernel
theorem dL_law_854 : decode cL_law 854 = .ok (.aload_n 0, 1) := by decide +kernel
theorem dL_law_855 : decode cL_law 855 = .ok (.iload_n 3, 1) := by decide +kernel
theorem dL_law_856 : decode cL_law 856 = .ok (.iconst 1, 1) := by decide +kernel
theorem dL_law_857 : decode cL_law 857 = .ok (.iadd, 1) := by decide +kernel
theorem dL_law_858 : decode cL_law 858 = .ok (.iaload, 1) := by decide +kernel
theorem dL_law_859 : decode cL_law 859 = .ok (.aload_n 0, 1) := by decide +kernel
theorem dL_law_860 : decode cL_law 860 = .ok (.iload_n 3, 1) := by decide +kernel
theorem dL_law_861 : decode cL_law 861 = .ok (.iconst 2, 1) := by decide +kernel
theorem dL_law_862 : decode cL_law 862 = .ok (.iadd, 1) := by decide +kernel
theorem dL_law_863 : decode cL_law 863 = .ok (.iaload, 1) := by decide +kernel
theorem dL_law_864 : decode cL_law 864 = .ok (.aload_n 0, 1) := by decide +kernel
theorem dL_law_865 : decode cL_law 865 = .ok (.iload_n 3, 1) := by decide +kernel
theorem dL_law_866 : decode cL_law 866 = .ok (.iconst 3, 1) := by decide +kernel
theorem dL_law_867 : decode cL_law 867 = .ok (.iadd, 1) := by decide +kernel
theorem dL_law_868 : decode cL_law 868 = .ok (.iaload, 1) := by decide +kernel
theorem dL_law_869 : decode cL_law 869 = .ok (.aload_n 0, 1) := by decide +kernel
theorem dL_law_870 : decode cL_law 870 = .ok (.iload_n 3, 1) := by decide +kernel
theorem dL_law_871 : decode cL_law 871 = .ok (.iconst 4, 1) := by decide +kernel
theorem dL_law_872 : decode cL_law 872 = .ok (.iadd, 1) := by decide +kernel
theorem dL_law_873 : decode cL_law 873 = .ok (.iaload, 1) := by decide +kernel
theorem dL_law_874 : decode cL_law 874 = .ok (.aload_n 0, 1) := by decide +kernel
theorem dL_law_875 : decode cL_law 875 = .ok (.iload_n 3, 1) := by decide +kernel
theorem dL_law_876 : decode cL_law 876 = .ok (.iconst 5, 1) := by decide +kernel
theorem dL_law_877 : decode cL_law 877 = .ok (.iadd, 1) := by decide +kernel
theorem dL_law_878 : decode cL_law 878 = .ok (.iaload, 1) := by decide +kernel
theorem dL_law_879 : decode cL_law 879 = .ok (.invokevirtual 70, 3) := by decide +kernel
theorem dL_law_882 : decode cL_law 882 = .ok (.aload_n 2, 1) := by decide +kernel
theorem dL_law_883 : decode cL_law 883 = .ok (.aload_n 0, 1) := by decide +kernel
theorem dL_law_884 : decode cL_law 884 = .ok (.iload_n 3, 1) := by decide +kernel
theorem dL_law_885 : decode cL_law 885 = .ok (.iconst 1, 1) := by decide +kernel
theorem dL_law_886 : decode cL_law 886 = .ok (.iadd, 1) := by decide +kernel
theorem dL_law_887 : decode cL_law 887 = .ok (.iaload, 1) := by decide +kernel
theorem dL_law_888 : decode cL_law 888 = .ok (.aload_n 0, 1) := by decide +kernel
theorem dL_law_889 : decode cL_law 889 = .ok (.iload_n 3, 1) := by decide +kernel
theorem dL_law_890 : decode cL_law 890 = .ok (.iconst 2, 1) := by decide +kernel
theorem dL_law_891 : decode cL_law 891 = .ok (.iadd, 1) := by decide +kernel
theorem dL_law_892 : decode cL_law 892 = .ok (.iaload, 1) := by decide +kernel
theorem dL_law_893 : decode cL_law 893 = .ok (.aload_n 0, 1) := by decide +kernel
theorem dL_law_894 : decode cL_law 894 = .ok (.iload_n 3, 1) := by decide +kernel
theorem dL_law_895 : decode cL_law 895 = .ok (.iconst 3, 1) := by decide +kernel
theorem dL_law_896 : decode cL_law 896 = .ok (.iadd, 1) := by decide +kernel
theorem dL_law_897 : decode cL_law 897 = .ok (.iaload, 1) := by decide +kernel
theorem dL_law_898 : decode cL_law 898 = .ok (.aload_n 0, 1) := by decide +kernel
theorem dL_law_899 : decode cL_law 899 = .ok (.iload_n 3, 1) := by decide +kernel
theorem dL_law_900 : decode cL_law 900 = .ok (.iconst 4, 1) := by decide +kernel
theorem dL_law_901 : decode cL_law 901 = .ok (.iadd, 1) := by decide +kernel
theorem dL_law_902 : decode cL_law 902 = .ok (.iaload, 1) := by decide +kernel
theorem dL_law_903 : decode cL_law 903 = .ok (.aload_n 0, 1) := by decide +kernel
theorem dL_law_904 : decode cL_law 904 = .ok (.iload_n 3, 1) := by decide +kernel
theorem dL_law_905 : decode cL_law 905 = .ok (.iconst 5, 1) := by decide +kernel
theorem dL_law_906 : decode cL_law 906 = .ok (.iadd, 1) := by decide +kernel
theorem dL_law_907 : decode cL_law 907 = .ok (.iaload, 1) := by decide +kernel
theorem dL_law_908 : decode cL_law 908 = .ok (.invokevirtual 74, 3) := by decide +kernel
theorem dL_law_911 : decode cL_law 911 = .ok (.lcmp, 1) := by decide +kernel
theorem dL_law_912 : decode cL_law 912 = .ok (.ifCond .eq 804, 3) := by decide +kernel
theorem dL_law_915 : decode cL_law 915 = .ok (.iconst 0, 1) := by decide +kernel
theorem dL_law_916 : decode cL_law 916 = .ok (.ireturn, 1) := by decide +kernel
theorem dL_law_917 : decode cL_law 917 = .ok (.aload_n 1, 1) := by decide +kernel
theorem dL_law_918 : decode cL_law 918 = .ok (.aload_n 0, 1) := by decide +kernel
theorem dL_law_919 : decode cL_law 919 = .ok (.iload_n 3, 1) := by decide +kernel
theorem dL_law_920 : decode cL_law 920 = .ok (.iconst 1, 1) := by decide +kernel
theorem dL_law_921 : decode cL_law 921 = .ok (.iadd, 1) := by decide +kernel
theorem dL_law_922 : decode cL_law 922 = .ok (.iaload, 1) := by decide +kernel
theorem dL_law_923 : decode cL_law 923 = .ok (.aload_n 0, 1) := by decide +kernel
theorem dL_law_924 : decode cL_law 924 = .ok (.iload_n 3, 1) := by decide +kernel
theorem dL_law_925 : decode cL_law 925 = .ok (.iconst 2, 1) := by decide +kernel
theorem dL_law_926 : decode cL_law 926 = .ok (.iadd, 1) := by decide +kernel
theorem dL_law_927 : decode cL_law 927 = .ok (.iaload, 1) := by decide +kernel
theorem dL_law_928 : decode cL_law 928 = .ok (.aload_n 0, 1) := by decide +kernel
theorem dL_law_929 : decode cL_law 929 = .ok (.iload_n 3, 1) := by decide +kernel
theorem dL_law_930 : decode cL_law 930 = .ok (.iconst 3, 1) := by decide +kernel
theorem dL_law_931 : decode cL_law 931 = .ok (.iadd, 1) := by decide +kernel
theorem dL_law_932 : decode cL_law 932 = .ok (.iaload, 1) := by decide +kernel
theorem dL_law_933 : decode cL_law 933 = .ok (.aload_n 0, 1) := by decide +kernel
theorem dL_law_934 : decode cL_law 934 = .ok (.iload_n 3, 1) := by decide +kernel
theorem dL_law_935 : decode cL_law 935 = .ok (.iconst 4, 1) := by decide +kernel
theorem dL_law_936 : decode cL_law 936 = .ok (.iadd, 1) := by decide +kernel
theorem dL_law_937 : decode cL_law 937 = .ok (.iaload, 1) := by decide +kernel
theorem dL_law_938 : decode cL_law 938 = .ok (.invokevirtual 75, 3) := by decide +kernel
theorem dL_law_941 : decode cL_law 941 = .ok (.aload_n 2, 1) := by decide +kernel
theorem dL_law_942 : decode cL_law 942 = .ok (.aload_n 0, 1) := by decide +kernel
theorem dL_law_943 : decode cL_law 943 = .ok (.iload_n 3, 1) := by decide +kernel
theorem dL_law_944 : decode cL_law 944 = .ok (.iconst 1, 1) := by decide +kernel
theorem dL_law_945 : decode cL_law 945 = .ok (.iadd, 1) := by decide +kernel
theorem dL_law_946 : decode cL_law 946 = .ok (.iaload, 1) := by decide +kernel
theorem dL_law_947 : decode cL_law 947 = .ok (.aload_n 0, 1) := by decide +kernel
theorem dL_law_948 : decode cL_law 948 = .ok (.iload_n 3, 1) := by decide +kernel
theorem dL_law_949 : decode cL_law 949 = .ok (.iconst 2, 1) := by decide +kernel
theorem dL_law_950 : decode cL_law 950 = .ok (.iadd, 1) := by decide +kernel
theorem dL_law_951 : decode cL_law 951 = .ok (.iaload, 1) := by decide +kernel
theorem dL_law_952 : decode cL_law 952 = .ok (.aload_n 0, 1) := by decide +kernel
theorem dL_law_953 : decode cL_law 953 = .ok (.iload_n 3, 1) := by decide +kernel
theorem dL_law_954 : decode cL_law 954 = .ok (.iconst 3, 1) := by decide +kernel
theorem dL_law_955 : decode cL_law 955 = .ok (.iadd, 1) := by decide +kernel
theorem dL_law_956 : decode cL_law 956 = .ok (.iaload, 1) := by decide +kernel
theorem dL_law_957 : decode cL_law 957 = .ok (.aload_n 0, 1) := by decide +kernel
theorem dL_law_958 : decode cL_law 958 = .ok (.iload_n 3, 1) := by decide +kernel
theorem dL_law_959 : decode cL_law 959 = .ok (.iconst 4, 1) := by decide +kernel
theorem dL_law_960 : decode cL_law 960 = .ok (.iadd, 1) := by decide +kernel
theorem dL_law_961 : decode cL_law 961 = .ok (.iaload, 1) := by decide +kernel
theorem dL_law_962 : decode cL_law 962 = .ok (.invokevirtual 78, 3) := by decide +kernel
theorem dL_law_965 : decode cL_law 965 = .ok (.if_icmp .eq 751, 3) := by decide +kernel
theorem dL_law_968 : decode cL_law 968 = .ok (.iconst 0, 1) := by decide +kernel
theorem dL_law_969 : decode cL_law 969 = .ok (.ireturn, 1) := by decide +kernel
theorem dL_law_970 : decode cL_law 970 = .ok (.aload_n 1, 1) := by decide +kernel
theorem dL_law_971 : decode cL_law 971 = .ok (.aload_n 0, 1) := by decide +kernel
theorem dL_law_972 : decode cL_law 972 = .ok (.iload_n 3, 1) := by decide +kernel
theorem dL_law_973 : decode cL_law 973 = .ok (.iconst 1, 1) := by decide +kernel
theorem dL_law_974 : decode cL_law 974 = .ok (.iadd, 1) := by decide +kernel
theorem dL_law_975 : decode cL_law 975 = .ok (.iaload, 1) := by decide +kernel
theorem dL_law_976 : decode cL_law 976 = .ok (.aload_n 0, 1) := by decide +kernel
theorem dL_law_977 : decode cL_law 977 = .ok (.iload_n 3, 1) := by decide +kernel
theorem dL_law_978 : decode cL_law 978 = .ok (.iconst 2, 1) := by decide +kernel
theorem dL_law_979 : decode cL_law 979 = .ok (.iadd, 1) := by decide +kernel
theorem dL_law_980 : decode cL_law 980 = .ok (.iaload, 1) := by decide +kernel
theorem dL_law_981 : decode cL_law 981 = .ok (.aload_n 0, 1) := by decide +kernel
theorem dL_law_982 : decode cL_law 982 = .ok (.iload_n 3, 1) := by decide +kernel
theorem dL_law_983 : decode cL_law 983 = .ok (.iconst 3, 1) := by decide +kernel
theorem dL_law_984 : decode cL_law 984 = .ok (.iadd, 1) := by decide +kernel
theorem dL_law_985 : decode cL_law 985 = .ok (.iaload, 1) := by decide +kernel
theorem dL_law_986 : decode cL_law 986 = .ok (.invokevirtual 79, 3) := by decide +kernel
theorem dL_law_989 : decode cL_law 989 = .ok (.aload_n 2, 1) := by decide +kernel
theorem dL_law_990 : decode cL_law 990 = .ok (.aload_n 0, 1) := by decide +kernel
theorem dL_law_991 : decode cL_law 991 = .ok (.iload_n 3, 1) := by decide +kernel
theorem dL_law_992 : decode cL_law 992 = .ok (.iconst 1, 1) := by decide +kernel
theorem dL_law_993 : decode cL_law 993 = .ok (.iadd, 1) := by decide +kernel
theorem dL_law_994 : decode cL_law 994 = .ok (.iaload, 1) := by decide +kernel
theorem dL_law_995 : decode cL_law 995 = .ok (.aload_n 0, 1) := by decide +kernel
theorem dL_law_996 : decode cL_law 996 = .ok (.iload_n 3, 1) := by decide +kernel
theorem dL_law_997 : decode cL_law 997 = .ok (.iconst 2, 1) := by decide +kernel
theorem dL_law_998 : decode cL_law 998 = .ok (.iadd, 1) := by decide +kernel
theorem dL_law_999 : decode cL_law 999 = .ok (.iaload, 1) := by decide +kernel
theorem dL_law_1000 : decode cL_law 1000 = .ok (.aload_n 0, 1) := by decide +kernel
theorem dL_law_1001 : decode cL_law 1001 = .ok (.iload_n 3, 1) := by decide +kernel
theorem dL_law_1002 : decode cL_law 1002 = .ok (.iconst 3, 1) := by decide +kernel
theorem dL_law_1003 : decode cL_law 1003 = .ok (.iadd, 1) := by decide +kernel
theorem dL_law_1004 : decode cL_law 1004 = .ok (.iaload, 1) := by decide +kernel
theorem dL_law_1005 : decode cL_law 1005 = .ok (.invokevirtual 82, 3) := by decide +kernel
theorem dL_law_1008 : decode cL_law 1008 = .ok (.if_icmp .eq 708, 3) := by decide +kernel
theorem dL_law_1011 : decode cL_law 1011 = .ok (.iconst 0, 1) := by decide +kernel
theorem dL_law_1012 : decode cL_law 1012 = .ok (.ireturn, 1) := by decide +kernel
theorem dL_law_1013 : decode cL_law 1013 = .ok (.aload_n 1, 1) := by decide +kernel
theorem dL_law_1014 : decode cL_law 1014 = .ok (.aload_n 0, 1) := by decide +kernel
theorem dL_law_1015 : decode cL_law 1015 = .ok (.iload_n 3, 1) := by decide +kernel
theorem dL_law_1016 : decode cL_law 1016 = .ok (.iconst 1, 1) := by decide +kernel
theorem dL_law_1017 : decode cL_law 1017 = .ok (.iadd, 1) := by decide +kernel
theorem dL_law_1018 : decode cL_law 1018 = .ok (.iaload, 1) := by decide +kernel
theorem dL_law_1019 : decode cL_law 1019 = .ok (.aload_n 0, 1) := by decide +kernel
theorem dL_law_1020 : decode cL_law 1020 = .ok (.iload_n 3, 1) := by decide +kernel
theorem dL_law_1021 : decode cL_law 1021 = .ok (.iconst 2, 1) := by decide +kernel
theorem dL_law_1022 : decode cL_law 1022 = .ok (.iadd, 1) := by decide +kernel
theorem dL_law_1023 : decode cL_law 1023 = .ok (.iaload, 1) := by decide +kernel
theorem dL_law_1024 : decode cL_law 1024 = .ok (.invokevirtual 83, 3) := by decide +kernel
theorem dL_law_1027 : decode cL_law 1027 = .ok (.aload_n 2, 1) := by decide +kernel
theorem dL_law_1028 : decode cL_law 1028 = .ok (.aload_n 0, 1) := by decide +kernel
theorem dL_law_1029 : decode cL_law 1029 = .ok (.iload_n 3, 1) := by decide +kernel
theorem dL_law_1030 : decode cL_law 1030 = .ok (.iconst 1, 1) := by decide +kernel
theorem dL_law_1031 : decode cL_law 1031 = .ok (.iadd, 1) := by decide +kernel
theorem dL_law_1032 : decode cL_law 1032 = .ok (.iaload, 1) := by decide +kernel
theorem dL_law_1033 : decode cL_law 1033 = .ok (.aload_n 0, 1) := by decide +kernel
theorem dL_law_1034 : decode cL_law 1034 = .ok (.iload_n 3, 1) := by decide +kernel
theorem dL_law_1035 : decode cL_law 1035 = .ok (.iconst 2, 1) := by decide +kernel
theorem dL_law_1036 : decode cL_law 1036 = .ok (.iadd, 1) := by decide +kernel
theorem dL_law_1037 : decode cL_law 1037 = .ok (.iaload, 1) := by decide +kernel
theorem dL_law_1038 : decode cL_law 1038 = .ok (.invokevirtual 86, 3) := by decide +kernel
theorem dL_law_1041 : decode cL_law 1041 = .ok (.if_icmp .eq 675, 3) := by decide +kernel
theorem dL_law_1044 : decode cL_law 1044 = .ok (.iconst 0, 1) := by decide +kernel
theorem dL_law_1045 : decode cL_law 1045 = .ok (.ireturn, 1) := by decide +kernel
theorem dL_law_1046 : decode cL_law 1046 = .ok (.aload_n 1, 1) := by decide +kernel
theorem dL_law_1047 : decode cL_law 1047 = .ok (.aload_n 0, 1) := by decide +kernel
theorem dL_law_1048 : decode cL_law 1048 = .ok (.iload_n 3, 1) := by decide +kernel
theorem dL_law_1049 : decode cL_law 1049 = .ok (.iconst 1, 1) := by decide +kernel
theorem dL_law_1050 : decode cL_law 1050 = .ok (.iadd, 1) := by decide +kernel
theorem dL_law_1051 : decode cL_law 1051 = .ok (.iaload, 1) := by decide +kernel
theorem dL_law_1052 : decode cL_law 1052 = .ok (.aload_n 0, 1) := by decide +kernel
theorem dL_law_1053 : decode cL_law 1053 = .ok (.iload_n 3, 1) := by decide +kernel
theorem dL_law_1054 : decode cL_law 1054 = .ok (.iconst 2, 1) := by decide +kernel
theorem dL_law_1055 : decode cL_law 1055 = .ok (.iadd, 1) := by decide +kernel
theorem dL_law_1056 : decode cL_law 1056 = .ok (.iaload, 1) := by decide +kernel
theorem dL_law_1057 : decode cL_law 1057 = .ok (.invokevirtual 87, 3) := by decide +kernel
theorem dL_law_1060 : decode cL_law 1060 = .ok (.aload_n 2, 1) := by decide +kernel
theorem dL_law_1061 : decode cL_law 1061 = .ok (.aload_n 0, 1) := by decide +kernel
theorem dL_law_1062 : decode cL_law 1062 = .ok (.iload_n 3, 1) := by decide +kernel
theorem dL_law_1063 : decode cL_law 1063 = .ok (.iconst 1, 1) := by decide +kernel
theorem dL_law_1064 : decode cL_law 1064 = .ok (.iadd, 1) := by decide +kernel
theorem dL_law_1065 : decode cL_law 1065 = .ok (.iaload, 1) := by decide +kernel
theorem dL_law_1066 : decode cL_law 1066 = .ok (.aload_n 0, 1) := by decide +kernel
theorem dL_law_1067 : decode cL_law 1067 = .ok (.iload_n 3, 1) := by decide +kernel
theorem dL_law_1068 : decode cL_law 1068 = .ok (.iconst 2, 1) := by decide +kernel
theorem dL_law_1069 : decode cL_law 1069 = .ok (.iadd, 1) := by decide +kernel
theorem dL_law_1070 : decode cL_law 1070 = .ok (.iaload, 1) := by decide +kernel
theorem dL_law_1071 : decode cL_law 1071 = .ok (.invokevirtual 90, 3) := by decide +kernel
theorem dL_law_1074 : decode cL_law 1074 = .ok (.if_icmp .eq 642, 3) := by decide +kernel
theorem dL_law_1077 : decode cL_law 1077 = .ok (.iconst 0, 1) := by decide +kernel
theorem dL_law_1078 : decode cL_law 1078 = .ok (.ireturn, 1) := by decide +kernel
theorem dL_law_1079 : decode cL_law 1079 = .ok (.aload_n 1, 1) := by decide +kernel
theorem dL_law_1080 : decode cL_law 1080 = .ok (.aload_n 0, 1) := by decide +kernel
theorem dL_law_1081 : decode cL_law 1081 = .ok (.iload_n 3, 1) := by decide +kernel
theorem dL_law_1082 : decode cL_law 1082 = .ok (.iconst 1, 1) := by decide +kernel
theorem dL_law_1083 : decode cL_law 1083 = .ok (.iadd, 1) := by decide +kernel
theorem dL_law_1084 : decode cL_law 1084 = .ok (.iaload, 1) := by decide +kernel
theorem dL_law_1085 : decode cL_law 1085 = .ok (.invokevirtual 91, 3) := by decide +kernel
theorem dL_law_1088 : decode cL_law 1088 = .ok (.aload_n 2, 1) := by decide +kernel
theorem dL_law_1089 : decode cL_law 1089 = .ok (.aload_n 0, 1) := by decide +kernel
theorem dL_law_1090 : decode cL_law 1090 = .ok (.iload_n 3, 1) := by decide +kernel
theorem dL_law_1091 : decode cL_law 1091 = .ok (.iconst 1, 1) := by decide +kernel
theorem dL_law_1092 : decode cL_law 1092 = .ok (.iadd, 1) := by decide +kernel
theorem dL_law_1093 : decode cL_law 1093 = .ok (.iaload, 1) := by decide +kernel
theorem dL_law_1094 : decode cL_law 1094 = .ok (.invokevirtual 94, 3) := by decide +kernel
theorem dL_law_1097 : decode cL_law 1097 = .ok (.if_icmp .eq 619, 3) := by decide +kernel
theorem dL_law_1100 : decode cL_law 1100 = .ok (.iconst 0, 1) := by decide +kernel
theorem dL_law_1101 : decode cL_law 1101 = .ok (.ireturn, 1) := by decide +kernel
theorem dL_law_1102 : decode cL_law 1102 = .ok (.aload_n 1, 1) := by decide +kernel
theorem dL_law_1103 : decode cL_law 1103 = .ok (.aload_n 0, 1) := by decide +kernel
theorem dL_law_1104 : decode cL_law 1104 = .ok (.iload_n 3, 1) := by decide +kernel
theorem dL_law_1105 : decode cL_law 1105 = .ok (.iconst 1, 1) := by decide +kernel
theorem dL_law_1106 : decode cL_law 1106 = .ok (.iadd, 1) := by decide +kernel
theorem dL_law_1107 : decode cL_law 1107 = .ok (.iaload, 1) := by decide +kernel
theorem dL_law_1108 : decode cL_law 1108 = .ok (.aload_n 0, 1) := by decide +kernel
theorem dL_law_1109 : decode cL_law 1109 = .ok (.iload_n 3, 1) := by decide +kernel
theorem dL_law_1110 : decode cL_law 1110 = .ok (.iconst 2, 1) := by decide +kernel
theorem dL_law_1111 : decode cL_law 1111 = .ok (.iadd, 1) := by decide +kernel
theorem dL_law_1112 : decode cL_law 1112 = .ok (.iaload, 1) := by decide +kernel
theorem dL_law_1113 : decode cL_law 1113 = .ok (.invokevirtual 95, 3) := by decide +kernel
theorem dL_law_1116 : decode cL_law 1116 = .ok (.aload_n 2, 1) := by decide +kernel
theorem dL_law_1117 : decode cL_law 1117 = .ok (.aload_n 0, 1) := by decide +kernel
theorem dL_law_1118 : decode cL_law 1118 = .ok (.iload_n 3, 1) := by decide +kernel
theorem dL_law_1119 : decode cL_law 1119 = .ok (.iconst 1, 1) := by decide +kernel
theorem dL_law_1120 : decode cL_law 1120 = .ok (.iadd, 1) := by decide +kernel
theorem dL_law_1121 : decode cL_law 1121 = .ok (.iaload, 1) := by decide +kernel
theorem dL_law_1122 : decode cL_law 1122 = .ok (.aload_n 0, 1) := by decide +kernel
theorem dL_law_1123 : decode cL_law 1123 = .ok (.iload_n 3, 1) := by decide +kernel
theorem dL_law_1124 : decode cL_law 1124 = .ok (.iconst 2, 1) := by decide +kernel
theorem dL_law_1125 : decode cL_law 1125 = .ok (.iadd, 1) := by decide +kernel
theorem dL_law_1126 : decode cL_law 1126 = .ok (.iaload, 1) := by decide +kernel
theorem dL_law_1127 : decode cL_law 1127 = .ok (.invokevirtual 98, 3) := by decide +kernel
theorem dL_law_1130 : decode cL_law 1130 = .ok (.if_icmp .eq 586, 3) := by decide +kernel
theorem dL_law_1133 : decode cL_law 1133 = .ok (.iconst 0, 1) := by decide +kernel
theorem dL_law_1134 : decode cL_law 1134 = .ok (.ireturn, 1) := by decide +kernel
theorem dL_law_1135 : decode cL_law 1135 = .ok (.aload_n 1, 1) := by decide +kernel
theorem dL_law_1136 : decode cL_law 1136 = .ok (.aload_n 0, 1) := by decide +kernel
theorem dL_law_1137 : decode cL_law 1137 = .ok (.iload_n 3, 1) := by decide +kernel
theorem dL_law_1138 : decode cL_law 1138 = .ok (.iconst 1, 1) := by decide +kernel
theorem dL_law_1139 : decode cL_law 1139 = .ok (.iadd, 1) := by decide +kernel
theorem dL_law_1140 : decode cL_law 1140 = .ok (.iaload, 1) := by decide +kernel
theorem dL_law_1141 : decode cL_law 1141 = .ok (.invokevirtual 99, 3) := by decide +kernel
theorem dL_law_1144 : decode cL_law 1144 = .ok (.aload_n 2, 1) := by decide +kernel
theorem dL_law_1145 : decode cL_law 1145 = .ok (.aload_n 0, 1) := by decide +kernel
theorem dL_law_1146 : decode cL_law 1146 = .ok (.iload_n 3, 1) := by decide +kernel
theorem dL_law_1147 : decode cL_law 1147 = .ok (.iconst 1, 1) := by decide +kernel
theorem dL_law_1148 : decode cL_law 1148 = .ok (.iadd, 1) := by decide +kernel
theorem dL_law_1149 : decode cL_law 1149 = .ok (.iaload, 1) := by decide +kernel
theorem dL_law_1150 : decode cL_law 1150 = .ok (.invokevirtual 102, 3) := by decide +kernel
theorem dL_law_1153 : decode cL_law 1153 = .ok (.if_icmp .eq 563, 3) := by decide +kernel
theorem dL_law_1156 : decode cL_law 1156 = .ok (.iconst 0, 1) := by decide +kernel
theorem dL_law_1157 : decode cL_law 1157 = .ok (.ireturn, 1) := by decide +kernel
theorem dL_law_1158 : decode cL_law 1158 = .ok (.aload_n 1, 1) := by decide +kernel
theorem dL_law_1159 : decode cL_law 1159 = .ok (.aload_n 0, 1) := by decide +kernel
theorem dL_law_1160 : decode cL_law 1160 = .ok (.iload_n 3, 1) := by decide +kernel
theorem dL_law_1161 : decode cL_law 1161 = .ok (.iconst 1, 1) := by decide +kernel
theorem dL_law_1162 : decode cL_law 1162 = .ok (.iadd, 1) := by decide +kernel
theorem dL_law_1163 : decode cL_law 1163 = .ok (.iaload, 1) := by decide +kernel
theorem dL_law_1164 : decode cL_law 1164 = .ok (.aload_n 0, 1) := by decide +kernel
theorem dL_law_1165 : decode cL_law 1165 = .ok (.iload_n 3, 1) := by decide +kernel
theorem dL_law_1166 : decode cL_law 1166 = .ok (.iconst 2, 1) := by decide +kernel
theorem dL_law_1167 : decode cL_law 1167 = .ok (.iadd, 1) := by decide +kernel
theorem dL_law_1168 : decode cL_law 1168 = .ok (.iaload, 1) := by decide +kernel
theorem dL_law_1169 : decode cL_law 1169 = .ok (.aload_n 0, 1) := by decide +kernel
theorem dL_law_1170 : decode cL_law 1170 = .ok (.iload_n 3, 1) := by decide +kernel
theorem dL_law_1171 : decode cL_law 1171 = .ok (.iconst 3, 1) := by decide +kernel
theorem dL_law_1172 : decode cL_law 1172 = .ok (.iadd, 1) := by decide +kernel
theorem dL_law_1173 : decode cL_law 1173 = .ok (.iaload, 1) := by decide +kernel
theorem dL_law_1174 : decode cL_law 1174 = .ok (.aload_n 0, 1) := by decide +kernel
theorem dL_law_1175 : decode cL_law 1175 = .ok (.iload_n 3, 1) := by decide +kernel
theorem dL_law_1176 : decode cL_law 1176 = .ok (.iconst 4, 1) := by decide +kernel
theorem dL_law_1177 : decode cL_law 1177 = .ok (.iadd, 1) := by decide +kernel
theorem dL_law_1178 : decode cL_law 1178 = .ok (.iaload, 1) := by decide +kernel
theorem dL_law_1179 : decode cL_law 1179 = .ok (.aload_n 0, 1) := by decide +kernel
theorem dL_law_1180 : decode cL_law 1180 = .ok (.iload_n 3, 1) := by decide +kernel
theorem dL_law_1181 : decode cL_law 1181 = .ok (.iconst 5, 1) := by decide +kernel
theorem dL_law_1182 : decode cL_law 1182 = .ok (.iadd, 1) := by decide +kernel
theorem dL_law_1183 : decode cL_law 1183 = .ok (.iaload, 1) := by decide +kernel
theorem dL_law_1184 : decode cL_law 1184 = .ok (.invokevirtual 103, 3) := by decide +kernel
theorem dL_law_1187 : decode cL_law 1187 = .ok (.aload_n 2, 1) := by decide +kernel
theorem dL_law_1188 : decode cL_law 1188 = .ok (.aload_n 0, 1) := by decide +kernel
theorem dL_law_1189 : decode cL_law 1189 = .ok (.iload_n 3, 1) := by decide +kernel
theorem dL_law_1190 : decode cL_law 1190 = .ok (.iconst 1, 1) := by decide +kernel
theorem dL_law_1191 : decode cL_law 1191 = .ok (.iadd, 1) := by decide +kernel
theorem dL_law_1192 : decode cL_law 1192 = .ok (.iaload, 1) := by decide +kernel
theorem dL_law_1193 : decode cL_law 1193 = .ok (.aload_n 0, 1) := by decide +kernel
theorem dL_law_1194 : decode cL_law 1194 = .ok (.iload_n 3, 1) := by decide +kernel
theorem dL_law_1195 : decode cL_law 1195 = .ok (.iconst 2, 1) := by decide +kernel
theorem dL_law_1196 : decode cL_law 1196 = .ok (.iadd, 1) := by decide +kernel
theorem dL_law_1197 : decode cL_law 1197 = .ok (.iaload, 1) := by decide +kernel
theorem dL_law_1198 : decode cL_law 1198 = .ok (.aload_n 0, 1) := by decide +kernel
theorem dL_law_1199 : decode cL_law 1199 = .ok (.iload_n 3, 1) := by decide +kernel
theorem dL_law_1200 : decode cL_law 1200 = .ok (.iconst 3, 1) := by decide +kernel
theorem dL_law_1201 : decode cL_law 1201 = .ok (.iadd, 1) := by decide +kernel
theorem dL_law_1202 : decode cL_law 1202 = .ok (.iaload, 1) := by decide +kernel
theorem dL_law_1203 : decode cL_law 1203 = .ok (.aload_n 0, 1) := by decide +kernel
theorem dL_law_1204 : decode cL_law 1204 = .ok (.iload_n 3, 1) := by decide +kernel
theorem dL_law_1205 : decode cL_law 1205 = .ok (.iconst 4, 1) := by decide +kernel
theorem dL_law_1206 : decode cL_law 1206 = .ok (.iadd, 1) := by decide +kernel
theorem dL_law_1207 : decode cL_law 1207 = .ok (.iaload, 1) := by decide +kernel
theorem dL_law_1208 : decode cL_law 1208 = .ok (.aload_n 0, 1) := by decide +kernel
theorem dL_law_1209 : decode cL_law 1209 = .ok (.iload_n 3, 1) := by decide +kernel
theorem dL_law_1210 : decode cL_law 1210 = .ok (.iconst 5, 1) := by decide +kernel
theorem dL_law_1211 : decode cL_law 1211 = .ok (.iadd, 1) := by decide +kernel
theorem dL_law_1212 : decode cL_law 1212 = .ok (.iaload, 1) := by decide +kernel
theorem dL_law_1213 : decode cL_law 1213 = .ok (.invokevirtual 107, 3) := by decide +kernel
theorem dL_law_1216 : decode cL_law 1216 = .ok (.if_icmp .eq 500, 3) := by decide +kernel
theorem dL_law_1219 : decode cL_law 1219 = .ok (.iconst 0, 1) := by decide +kernel
theorem dL_law_1220 : decode cL_law 1220 = .ok (.ireturn, 1) := by decide +kernel
theorem dL_law_1221 : decode cL_law 1221 = .ok (.aload_n 1, 1) := by decide +kernel
theorem dL_law_1222 : decode cL_law 1222 = .ok (.aload_n 0, 1) := by decide +kernel
theorem dL_law_1223 : decode cL_law 1223 = .ok (.iload_n 3, 1) := by decide +kernel
theorem dL_law_1224 : decode cL_law 1224 = .ok (.iconst 1, 1) := by decide +kernel
theorem dL_law_1225 : decode cL_law 1225 = .ok (.iadd, 1) := by decide +kernel
theorem dL_law_1226 : decode cL_law 1226 = .ok (.iaload, 1) := by decide +kernel
theorem dL_law_1227 : decode cL_law 1227 = .ok (.invokevirtual 108, 3) := by decide +kernel
theorem dL_law_1230 : decode cL_law 1230 = .ok (.aload_n 2, 1) := by decide +kernel
theorem dL_law_1231 : decode cL_law 1231 = .ok (.aload_n 0, 1) := by decide +kernel
theorem dL_law_1232 : decode cL_law 1232 = .ok (.iload_n 3, 1) := by decide +kernel
theorem dL_law_1233 : decode cL_law 1233 = .ok (.iconst 1, 1) := by decide +kernel
theorem dL_law_1234 : decode cL_law 1234 = .ok (.iadd, 1) := by decide +kernel
theorem dL_law_1235 : decode cL_law 1235 = .ok (.iaload, 1) := by decide +kernel
theorem dL_law_1236 : decode cL_law 1236 = .ok (.invokevirtual 111, 3) := by decide +kernel
theorem dL_law_1239 : decode cL_law 1239 = .ok (.if_icmp .eq 477, 3) := by decide +kernel
theorem dL_law_1242 : decode cL_law 1242 = .ok (.iconst 0, 1) := by decide +kernel
theorem dL_law_1243 : decode cL_law 1243 = .ok (.ireturn, 1) := by decide +kernel
theorem dL_law_1244 : decode cL_law 1244 = .ok (.aload_n 1, 1) := by decide +kernel
theorem dL_law_1245 : decode cL_law 1245 = .ok (.aload_n 0, 1) := by decide +kernel
theorem dL_law_1246 : decode cL_law 1246 = .ok (.iload_n 3, 1) := by decide +kernel
theorem dL_law_1247 : decode cL_law 1247 = .ok (.iconst 1, 1) := by decide +kernel
theorem dL_law_1248 : decode cL_law 1248 = .ok (.iadd, 1) := by decide +kernel
theorem dL_law_1249 : decode cL_law 1249 = .ok (.iaload, 1) := by decide +kernel
theorem dL_law_1250 : decode cL_law 1250 = .ok (.aload_n 0, 1) := by decide +kernel
theorem dL_law_1251 : decode cL_law 1251 = .ok (.iload_n 3, 1) := by decide +kernel
theorem dL_law_1252 : decode cL_law 1252 = .ok (.iconst 2, 1) := by decide +kernel
theorem dL_law_1253 : decode cL_law 1253 = .ok (.iadd, 1) := by decide +kernel
theorem dL_law_1254 : decode cL_law 1254 = .ok (.iaload, 1) := by decide +kernel
theorem dL_law_1255 : decode cL_law 1255 = .ok (.aload_n 0, 1) := by decide +kernel
theorem dL_law_1256 : decode cL_law 1256 = .ok (.iload_n 3, 1) := by decide +kernel
theorem dL_law_1257 : decode cL_law 1257 = .ok (.iconst 3, 1) := by decide +kernel
theorem dL_law_1258 : decode cL_law 1258 = .ok (.iadd, 1) := by decide +kernel
theorem dL_law_1259 : decode cL_law 1259 = .ok (.iaload, 1) := by decide +kernel
theorem dL_law_1260 : decode cL_law 1260 = .ok (.invokevirtual 112, 3) := by decide +kernel
theorem dL_law_1263 : decode cL_law 1263 = .ok (.aload_n 2, 1) := by decide +kernel
theorem dL_law_1264 : decode cL_law 1264 = .ok (.aload_n 0, 1) := by decide +kernel
theorem dL_law_1265 : decode cL_law 1265 = .ok (.iload_n 3, 1) := by decide +kernel
theorem dL_law_1266 : decode cL_law 1266 = .ok (.iconst 1, 1) := by decide +kernel
theorem dL_law_1267 : decode cL_law 1267 = .ok (.iadd, 1) := by decide +kernel
theorem dL_law_1268 : decode cL_law 1268 = .ok (.iaload, 1) := by decide +kernel
theorem dL_law_1269 : decode cL_law 1269 = .ok (.aload_n 0, 1) := by decide +kernel
theorem dL_law_1270 : decode cL_law 1270 = .ok (.iload_n 3, 1) := by decide +kernel
theorem dL_law_1271 : decode cL_law 1271 = .ok (.iconst 2, 1) := by decide +kernel
theorem dL_law_1272 : decode cL_law 1272 = .ok (.iadd, 1) := by decide +kernel
theorem dL_law_1273 : decode cL_law 1273 = .ok (.iaload, 1) := by decide +kernel
theorem dL_law_1274 : decode cL_law 1274 = .ok (.aload_n 0, 1) := by decide +kernel
theorem dL_law_1275 : decode cL_law 1275 = .ok (.iload_n 3, 1) := by decide +kernel
theorem dL_law_1276 : decode cL_law 1276 = .ok (.iconst 3, 1) := by decide +kernel
theorem dL_law_1277 : decode cL_law 1277 = .ok (.iadd, 1) := by decide +kernel
theorem dL_law_1278 : decode cL_law 1278 = .ok (.iaload, 1) := by decide +kernel
theorem dL_law_1279 : decode cL_law 1279 = .ok (.invokevirtual 115, 3) := by decide +kernel
theorem dL_law_1282 : decode cL_law 1282 = .ok (.if_icmp .eq 434, 3) := by decide +kernel
theorem dL_law_1285 : decode cL_law 1285 = .ok (.iconst 0, 1) := by decide +kernel
theorem dL_law_1286 : decode cL_law 1286 = .ok (.ireturn, 1) := by decide +kernel
theorem dL_law_1287 : decode cL_law 1287 = .ok (.aload_n 1, 1) := by decide +kernel
theorem dL_law_1288 : decode cL_law 1288 = .ok (.invokevirtual 116, 3) := by decide +kernel
theorem dL_law_1291 : decode cL_law 1291 = .ok (.aload_n 2, 1) := by decide +kernel
theorem dL_law_1292 : decode cL_law 1292 = .ok (.invokevirtual 120, 3) := by decide +kernel
theorem dL_law_1295 : decode cL_law 1295 = .ok (.if_icmp .eq 421, 3) := by decide +kernel
theorem dL_law_1298 : decode cL_law 1298 = .ok (.iconst 0, 1) := by decide +kernel
theorem dL_law_1299 : decode cL_law 1299 = .ok (.ireturn, 1) := by decide +kernel
theorem dL_law_1300 : decode cL_law 1300 = .ok (.aload_n 1, 1) := by decide +kernel
theorem dL_law_1301 : decode cL_law 1301 = .ok (.aload_n 0, 1) := by decide +kernel
theorem dL_law_1302 : decode cL_law 1302 = .ok (.iload_n 3, 1) := by decide +kernel
theorem dL_law_1303 : decode cL_law 1303 = .ok (.iconst 1, 1) := by decide +kernel
theorem dL_law_1304 : decode cL_law 1304 = .ok (.iadd, 1) := by decide +kernel
theorem dL_law_1305 : decode cL_law 1305 = .ok (.iaload, 1) := by decide +kernel
theorem dL_law_1306 : decode cL_law 1306 = .ok (.aload_n 0, 1) := by decide +kernel
theorem dL_law_1307 : decode cL_law 1307 = .ok (.iload_n 3, 1) := by decide +kernel
theorem dL_law_1308 : decode cL_law 1308 = .ok (.iconst 2, 1) := by decide +kernel
theorem dL_law_1309 : decode cL_law 1309 = .ok (.iadd, 1) := by decide +kernel
theorem dL_law_1310 : decode cL_law 1310 = .ok (.iaload, 1) := by decide +kernel
theorem dL_law_1311 : decode cL_law 1311 = .ok (.invokevirtual 121, 3) := by decide +kernel
theorem dL_law_1314 : decode cL_law 1314 = .ok (.aload_n 2, 1) := by decide +kernel
theorem dL_law_1315 : decode cL_law 1315 = .ok (.aload_n 0, 1) := by decide +kernel
theorem dL_law_1316 : decode cL_law 1316 = .ok (.iload_n 3, 1) := by decide +kernel
theorem dL_law_1317 : decode cL_law 1317 = .ok (.iconst 1, 1) := by decide +kernel
theorem dL_law_1318 : decode cL_law 1318 = .ok (.iadd, 1) := by decide +kernel
theorem dL_law_1319 : decode cL_law 1319 = .ok (.iaload, 1) := by decide +kernel
theorem dL_law_1320 : decode cL_law 1320 = .ok (.aload_n 0, 1) := by decide +kernel
theorem dL_law_1321 : decode cL_law 1321 = .ok (.iload_n 3, 1) := by decide +kernel
theorem dL_law_1322 : decode cL_law 1322 = .ok (.iconst 2, 1) := by decide +kernel
theorem dL_law_1323 : decode cL_law 1323 = .ok (.iadd, 1) := by decide +kernel
theorem dL_law_1324 : decode cL_law 1324 = .ok (.iaload, 1) := by decide +kernel
theorem dL_law_1325 : decode cL_law 1325 = .ok (.invokevirtual 124, 3) := by decide +kernel
theorem dL_law_1328 : decode cL_law 1328 = .ok (.if_icmp .eq 388, 3) := by decide +kernel
theorem dL_law_1331 : decode cL_law 1331 = .ok (.iconst 0, 1) := by decide +kernel
theorem dL_law_1332 : decode cL_law 1332 = .ok (.ireturn, 1) := by decide +kernel
theorem dL_law_1333 : decode cL_law 1333 = .ok (.aload_n 1, 1) := by decide +kernel
theorem dL_law_1334 : decode cL_law 1334 = .ok (.aload_n 0, 1) := by decide +kernel
theorem dL_law_1335 : decode cL_law 1335 = .ok (.iload_n 3, 1) := by decide +kernel
theorem dL_law_1336 : decode cL_law 1336 = .ok (.iconst 1, 1) := by decide +kernel
theorem dL_law_1337 : decode cL_law 1337 = .ok (.iadd, 1) := by decide +kernel
theorem dL_law_1338 : decode cL_law 1338 = .ok (.iaload, 1) := by decide +kernel
theorem dL_law_1339 : decode cL_law 1339 = .ok (.invokevirtual 125, 3) := by decide +kernel
theorem dL_law_1342 : decode cL_law 1342 = .ok (.aload_n 2, 1) := by decide +kernel
theorem dL_law_1343 : decode cL_law 1343 = .ok (.aload_n 0, 1) := by decide +kernel
theorem dL_law_1344 : decode cL_law 1344 = .ok (.iload_n 3, 1) := by decide +kernel
theorem dL_law_1345 : decode cL_law 1345 = .ok (.iconst 1, 1) := by decide +kernel
theorem dL_law_1346 : decode cL_law 1346 = .ok (.iadd, 1) := by decide +kernel
theorem dL_law_1347 : decode cL_law 1347 = .ok (.iaload, 1) := by decide +kernel
theorem dL_law_1348 : decode cL_law 1348 = .ok (.invokevirtual 128, 3) := by decide +kernel
theorem dL_law_1351 : decode cL_law 1351 = .ok (.if_icmp .eq 365, 3) := by decide +kernel
theorem dL_law_1354 : decode cL_law 1354 = .ok (.iconst 0, 1) := by decide +kernel
theorem dL_law_1355 : decode cL_law 1355 = .ok (.ireturn, 1) := by decide +kernel
theorem dL_law_1356 : decode cL_law 1356 = .ok (.aload_n 1, 1) := by decide +kernel
theorem dL_law_1357 : decode cL_law 1357 = .ok (.aload_n 0, 1) := by decide +kernel
theorem dL_law_1358 : decode cL_law 1358 = .ok (.iload_n 3, 1) := by decide +kernel
theorem dL_law_1359 : decode cL_law 1359 = .ok (.iconst 1, 1) := by decide +kernel
theorem dL_law_1360 : decode cL_law 1360 = .ok (.iadd, 1) := by decide +kernel
theorem dL_law_1361 : decode cL_law 1361 = .ok (.iaload, 1) := by decide +kernel
theorem dL_law_1362 : decode cL_law 1362 = .ok (.aload_n 0, 1) := by decide +kernel
theorem dL_law_1363 : decode cL_law 1363 = .ok (.iload_n 3, 1) := by decide +kernel
theorem dL_law_1364 : decode cL_law 1364 = .ok (.iconst 2, 1) := by decide +kernel
theorem dL_law_1365 : decode cL_law 1365 = .ok (.iadd, 1) := by decide +kernel
theorem dL_law_1366 : decode cL_law 1366 = .ok (.iaload, 1) := by decide +kernel
theorem dL_law_1367 : decode cL_law 1367 = .ok (.aload_n 0, 1) := by decide +kernel
theorem dL_law_1368 : decode cL_law 1368 = .ok (.iload_n 3, 1) := by decide +kernel
theorem dL_law_1369 : decode cL_law 1369 = .ok (.iconst 3, 1) := by decide +kernel
theorem dL_law_1370 : decode cL_law 1370 = .ok (.iadd, 1) := by decide +kernel
theorem dL_law_1371 : decode cL_law 1371 = .ok (.iaload, 1) := by decide +kernel
theorem dL_law_1372 : decode cL_law 1372 = .ok (.invokevirtual 129, 3) := by decide +kernel
theorem dL_law_1375 : decode cL_law 1375 = .ok (.aload_n 2, 1) := by decide +kernel
theorem dL_law_1376 : decode cL_law 1376 = .ok (.aload_n 0, 1) := by decide +kernel
theorem dL_law_1377 : decode cL_law 1377 = .ok (.iload_n 3, 1) := by decide +kernel
theorem dL_law_1378 : decode cL_law 1378 = .ok (.iconst 1, 1) := by decide +kernel
theorem dL_law_1379 : decode cL_law 1379 = .ok (.iadd, 1) := by decide +kernel
theorem dL_law_1380 : decode cL_law 1380 = .ok (.iaload, 1) := by decide +kernel
theorem dL_law_1381 : decode cL_law 1381 = .ok (.aload_n 0, 1) := by decide +kernel
theorem dL_law_1382 : decode cL_law 1382 = .ok (.iload_n 3, 1) := by decide +kernel
theorem dL_law_1383 : decode cL_law 1383 = .ok (.iconst 2, 1) := by decide +kernel
theorem dL_law_1384 : decode cL_law 1384 = .ok (.iadd, 1) := by decide +kernel
theorem dL_law_1385 : decode cL_law 1385 = .ok (.iaload, 1) := by decide +kernel
theorem dL_law_1386 : decode cL_law 1386 = .ok (.aload_n 0, 1) := by decide +kernel
theorem dL_law_1387 : decode cL_law 1387 = .ok (.iload_n 3, 1) := by decide +kernel
theorem dL_law_1388 : decode cL_law 1388 = .ok (.iconst 3, 1) := by decide +kernel
theorem dL_law_1389 : decode cL_law 1389 = .ok (.iadd, 1) := by decide +kernel
theorem dL_law_1390 : decode cL_law 1390 = .ok (.iaload, 1) := by decide +kernel
theorem dL_law_1391 : decode cL_law 1391 = .ok (.invokevirtual 132, 3) := by decide +kernel
theorem dL_law_1394 : decode cL_law 1394 = .ok (.if_icmp .eq 322, 3) := by decide +kernel
theorem dL_law_1397 : decode cL_law 1397 = .ok (.iconst 0, 1) := by decide +kernel
theorem dL_law_1398 : decode cL_law 1398 = .ok (.ireturn, 1) := by decide +kernel
theorem dL_law_1399 : decode cL_law 1399 = .ok (.aload_n 1, 1) := by decide +kernel
theorem dL_law_1400 : decode cL_law 1400 = .ok (.aload_n 0, 1) := by decide +kernel
theorem dL_law_1401 : decode cL_law 1401 = .ok (.iload_n 3, 1) := by decide +kernel
theorem dL_law_1402 : decode cL_law 1402 = .ok (.iconst 1, 1) := by decide +kernel
theorem dL_law_1403 : decode cL_law 1403 = .ok (.iadd, 1) := by decide +kernel
theorem dL_law_1404 : decode cL_law 1404 = .ok (.iaload, 1) := by decide +kernel
theorem dL_law_1405 : decode cL_law 1405 = .ok (.invokevirtual 133, 3) := by decide +kernel
theorem dL_law_1408 : decode cL_law 1408 = .ok (.aload_n 2, 1) := by decide +kernel
theorem dL_law_1409 : decode cL_law 1409 = .ok (.aload_n 0, 1) := by decide +kernel
theorem dL_law_1410 : decode cL_law 1410 = .ok (.iload_n 3, 1) := by decide +kernel
theorem dL_law_1411 : decode cL_law 1411 = .ok (.iconst 1, 1) := by decide +kernel
theorem dL_law_1412 : decode cL_law 1412 = .ok (.iadd, 1) := by decide +kernel
theorem dL_law_1413 : decode cL_law 1413 = .ok (.iaload, 1) := by decide +kernel
theorem dL_law_1414 : decode cL_law 1414 = .ok (.invokevirtual 136, 3) := by decide +kernel
theorem dL_law_1417 : decode cL_law 1417 = .ok (.if_icmp .eq 299, 3) := by decide +kernel
theorem dL_law_1420 : decode cL_law 1420 = .ok (.iconst 0, 1) := by decide +kernel
theorem dL_law_1421 : decode cL_law 1421 = .ok (.ireturn, 1) := by decide +kernel
theorem dL_law_1422 : decode cL_law 1422 = .ok (.aload_n 1, 1) := by decide +kernel
theorem dL_law_1423 : decode cL_law 1423 = .ok (.aload_n 0, 1) := by decide +kernel
theorem dL_law_1424 : decode cL_law 1424 = .ok (.iload_n 3, 1) := by decide +kernel
theorem dL_law_1425 : decode cL_law 1425 = .ok (.iconst 1, 1) := by decide +kernel
theorem dL_law_1426 : decode cL_law 1426 = .ok (.iadd, 1) := by decide +kernel
theorem dL_law_1427 : decode cL_law 1427 = .ok (.iaload, 1) := by decide +kernel
theorem dL_law_1428 : decode cL_law 1428 = .ok (.invokevirtual 137, 3) := by decide +kernel
theorem dL_law_1431 : decode cL_law 1431 = .ok (.aload_n 2, 1) := by decide +kernel
theorem dL_law_1432 : decode cL_law 1432 = .ok (.aload_n 0, 1) := by decide +kernel
theorem dL_law_1433 : decode cL_law 1433 = .ok (.iload_n 3, 1) := by decide +kernel
theorem dL_law_1434 : decode cL_law 1434 = .ok (.iconst 1, 1) := by decide +kernel
theorem dL_law_1435 : decode cL_law 1435 = .ok (.iadd, 1) := by decide +kernel
theorem dL_law_1436 : decode cL_law 1436 = .ok (.iaload, 1) := by decide +kernel
theorem dL_law_1437 : decode cL_law 1437 = .ok (.invokevirtual 140, 3) := by decide +kernel
theorem dL_law_1440 : decode cL_law 1440 = .ok (.if_icmp .eq 276, 3) := by decide +kernel
theorem dL_law_1443 : decode cL_law 1443 = .ok (.iconst 0, 1) := by decide +kernel
theorem dL_law_1444 : decode cL_law 1444 = .ok (.ireturn, 1) := by decide +kernel
theorem dL_law_1445 : decode cL_law 1445 = .ok (.aload_n 1, 1) := by decide +kernel
theorem dL_law_1446 : decode cL_law 1446 = .ok (.invokevirtual 141, 3) := by decide +kernel
theorem dL_law_1449 : decode cL_law 1449 = .ok (.aload_n 2, 1) := by decide +kernel
theorem dL_law_1450 : decode cL_law 1450 = .ok (.invokevirtual 144, 3) := by decide +kernel
theorem dL_law_1453 : decode cL_law 1453 = .ok (.if_icmp .eq 263, 3) := by decide +kernel
theorem dL_law_1456 : decode cL_law 1456 = .ok (.iconst 0, 1) := by decide +kernel
theorem dL_law_1457 : decode cL_law 1457 = .ok (.ireturn, 1) := by decide +kernel
theorem dL_law_1458 : decode cL_law 1458 = .ok (.aload_n 1, 1) := by decide +kernel
theorem dL_law_1459 : decode cL_law 1459 = .ok (.aload_n 0, 1) := by decide +kernel
theorem dL_law_1460 : decode cL_law 1460 = .ok (.iload_n 3, 1) := by decide +kernel
theorem dL_law_1461 : decode cL_law 1461 = .ok (.iconst 1, 1) := by decide +kernel
theorem dL_law_1462 : decode cL_law 1462 = .ok (.iadd, 1) := by decide +kernel
theorem dL_law_1463 : decode cL_law 1463 = .ok (.iaload, 1) := by decide +kernel
theorem dL_law_1464 : decode cL_law 1464 = .ok (.aload_n 0, 1) := by decide +kernel
theorem dL_law_1465 : decode cL_law 1465 = .ok (.iload_n 3, 1) := by decide +kernel
theorem dL_law_1466 : decode cL_law 1466 = .ok (.iconst 2, 1) := by decide +kernel
theorem dL_law_1467 : decode cL_law 1467 = .ok (.iadd, 1) := by decide +kernel
theorem dL_law_1468 : decode cL_law 1468 = .ok (.iaload, 1) := by decide +kernel
theorem dL_law_1469 : decode cL_law 1469 = .ok (.aload_n 0, 1) := by decide +kernel
theorem dL_law_1470 : decode cL_law 1470 = .ok (.iload_n 3, 1) := by decide +kernel
theorem dL_law_1471 : decode cL_law 1471 = .ok (.iconst 3, 1) := by decide +kernel
theorem dL_law_1472 : decode cL_law 1472 = .ok (.iadd, 1) := by decide +kernel
theorem dL_law_1473 : decode cL_law 1473 = .ok (.iaload, 1) := by decide +kernel
theorem dL_law_1474 : decode cL_law 1474 = .ok (.aload_n 0, 1) := by decide +kernel
theorem dL_law_1475 : decode cL_law 1475 = .ok (.iload_n 3, 1) := by decide +kernel
theorem dL_law_1476 : decode cL_law 1476 = .ok (.iconst 4, 1) := by decide +kernel
theorem dL_law_1477 : decode cL_law 1477 = .ok (.iadd, 1) := by decide +kernel
theorem dL_law_1478 : decode cL_law 1478 = .ok (.iaload, 1) := by decide +kernel
theorem dL_law_1479 : decode cL_law 1479 = .ok (.invokevirtual 145, 3) := by decide +kernel
theorem dL_law_1482 : decode cL_law 1482 = .ok (.aload_n 2, 1) := by decide +kernel
theorem dL_law_1483 : decode cL_law 1483 = .ok (.aload_n 0, 1) := by decide +kernel
theorem dL_law_1484 : decode cL_law 1484 = .ok (.iload_n 3, 1) := by decide +kernel
theorem dL_law_1485 : decode cL_law 1485 = .ok (.iconst 1, 1) := by decide +kernel
theorem dL_law_1486 : decode cL_law 1486 = .ok (.iadd, 1) := by decide +kernel
theorem dL_law_1487 : decode cL_law 1487 = .ok (.iaload, 1) := by decide +kernel
theorem dL_law_1488 : decode cL_law 1488 = .ok (.aload_n 0, 1) := by decide +kernel
theorem dL_law_1489 : decode cL_law 1489 = .ok (.iload_n 3, 1) := by decide +kernel
theorem dL_law_1490 : decode cL_law 1490 = .ok (.iconst 2, 1) := by decide +kernel
theorem dL_law_1491 : decode cL_law 1491 = .ok (.iadd, 1) := by decide +kernel
theorem dL_law_1492 : decode cL_law 1492 = .ok (.iaload, 1) := by decide +kernel
theorem dL_law_1493 : decode cL_law 1493 = .ok (.aload_n 0, 1) := by decide +kernel
theorem dL_law_1494 : decode cL_law 1494 = .ok (.iload_n 3, 1) := by decide +kernel
theorem dL_law_1495 : decode cL_law 1495 = .ok (.iconst 3, 1) := by decide +kernel
theorem dL_law_1496 : decode cL_law 1496 = .ok (.iadd, 1) := by decide +kernel
theorem dL_law_1497 : decode cL_law 1497 = .ok (.iaload, 1) := by decide +kernel
theorem dL_law_1498 : decode cL_law 1498 = .ok (.aload_n 0, 1) := by decide +kernel
theorem dL_law_1499 : decode cL_law 1499 = .ok (.iload_n 3, 1) := by decide +kernel
theorem dL_law_1500 : decode cL_law 1500 = .ok (.iconst 4, 1) := by decide +kernel
theorem dL_law_1501 : decode cL_law 1501 = .ok (.iadd, 1) := by decide +kernel
theorem dL_law_1502 : decode cL_law 1502 = .ok (.iaload, 1) := by decide +kernel
theorem dL_law_1503 : decode cL_law 1503 = .ok (.invokevirtual 148, 3) := by decide +kernel
theorem dL_law_1506 : decode cL_law 1506 = .ok (.if_icmp .eq 210, 3) := by decide +kernel
theorem dL_law_1509 : decode cL_law 1509 = .ok (.iconst 0, 1) := by decide +kernel
theorem dL_law_1510 : decode cL_law 1510 = .ok (.ireturn, 1) := by decide +kernel
theorem dL_law_1511 : decode cL_law 1511 = .ok (.aload_n 1, 1) := by decide +kernel
theorem dL_law_1512 : decode cL_law 1512 = .ok (.aload_n 0, 1) := by decide +kernel
theorem dL_law_1513 : decode cL_law 1513 = .ok (.iload_n 3, 1) := by decide +kernel
theorem dL_law_1514 : decode cL_law 1514 = .ok (.iconst 1, 1) := by decide +kernel
theorem dL_law_1515 : decode cL_law 1515 = .ok (.iadd, 1) := by decide +kernel
theorem dL_law_1516 : decode cL_law 1516 = .ok (.iaload, 1) := by decide +kernel
theorem dL_law_1517 : decode cL_law 1517 = .ok (.aload_n 0, 1) := by decide +kernel
theorem dL_law_1518 : decode cL_law 1518 = .ok (.iload_n 3, 1) := by decide +kernel
theorem dL_law_1519 : decode cL_law 1519 = .ok (.iconst 2, 1) := by decide +kernel
theorem dL_law_1520 : decode cL_law 1520 = .ok (.iadd, 1) := by decide +kernel
theorem dL_law_1521 : decode cL_law 1521 = .ok (.iaload, 1) := by decide +kernel
theorem dL_law_1522 : decode cL_law 1522 = .ok (.aload_n 0, 1) := by decide +kernel
theorem dL_law_1523 : decode cL_law 1523 = .ok (.iload_n 3, 1) := by decide +kernel
theorem dL_law_1524 : decode cL_law 1524 = .ok (.iconst 3, 1) := by decide +kernel
theorem dL_law_1525 : decode cL_law 1525 = .ok (.iadd, 1) := by decide +kernel
theorem dL_law_1526 : decode cL_law 1526 = .ok (.iaload, 1) := by decide +kernel
theorem dL_law_1527 : decode cL_law 1527 = .ok (.aload_n 0, 1) := by decide +kernel
theorem dL_law_1528 : decode cL_law 1528 = .ok (.iload_n 3, 1) := by decide +kernel
theorem dL_law_1529 : decode cL_law 1529 = .ok (.iconst 4, 1) := by decide +kernel
theorem dL_law_1530 : decode cL_law 1530 = .ok (.iadd, 1) := by decide +kernel
theorem dL_law_1531 : decode cL_law 1531 = .ok (.iaload, 1) := by decide +kernel
theorem dL_law_1532 : decode cL_law 1532 = .ok (.aload_n 0, 1) := by decide +kernel
theorem dL_law_1533 : decode cL_law 1533 = .ok (.iload_n 3, 1) := by decide +kernel
theorem dL_law_1534 : decode cL_law 1534 = .ok (.iconst 5, 1) := by decide +kernel
theorem dL_law_1535 : decode cL_law 1535 = .ok (.iadd, 1) := by decide +kernel
theorem dL_law_1536 : decode cL_law 1536 = .ok (.iaload, 1) := by decide +kernel
theorem dL_law_1537 : decode cL_law 1537 = .ok (.invokevirtual 149, 3) := by decide +kernel
theorem dL_law_1540 : decode cL_law 1540 = .ok (.aload_n 2, 1) := by decide +kernel
theorem dL_law_1541 : decode cL_law 1541 = .ok (.aload_n 0, 1) := by decide +kernel
theorem dL_law_1542 : decode cL_law 1542 = .ok (.iload_n 3, 1) := by decide +kernel
theorem dL_law_1543 : decode cL_law 1543 = .ok (.iconst 1, 1) := by decide +kernel
theorem dL_law_1544 : decode cL_law 1544 = .ok (.iadd, 1) := by decide +kernel
theorem dL_law_1545 : decode cL_law 1545 = .ok (.iaload, 1) := by decide +kernel
theorem dL_law_1546 : decode cL_law 1546 = .ok (.aload_n 0, 1) := by decide +kernel
theorem dL_law_1547 : decode cL_law 1547 = .ok (.iload_n 3, 1) := by decide +kernel
theorem dL_law_1548 : decode cL_law 1548 = .ok (.iconst 2, 1) := by decide +kernel
theorem dL_law_1549 : decode cL_law 1549 = .ok (.iadd, 1) := by decide +kernel
theorem dL_law_1550 : decode cL_law 1550 = .ok (.iaload, 1) := by decide +kernel
theorem dL_law_1551 : decode cL_law 1551 = .ok (.aload_n 0, 1) := by decide +kernel
theorem dL_law_1552 : decode cL_law 1552 = .ok (.iload_n 3, 1) := by decide +kernel
theorem dL_law_1553 : decode cL_law 1553 = .ok (.iconst 3, 1) := by decide +kernel
theorem dL_law_1554 : decode cL_law 1554 = .ok (.iadd, 1) := by decide +kernel
theorem dL_law_1555 : decode cL_law 1555 = .ok (.iaload, 1) := by decide +kernel
theorem dL_law_1556 : decode cL_law 1556 = .ok (.aload_n 0, 1) := by decide +kernel
theorem dL_law_1557 : decode cL_law 1557 = .ok (.iload_n 3, 1) := by decide +kernel
theorem dL_law_1558 : decode cL_law 1558 = .ok (.iconst 4, 1) := by decide +kernel
theorem dL_law_1559 : decode cL_law 1559 = .ok (.iadd, 1) := by decide +kernel
theorem dL_law_1560 : decode cL_law 1560 = .ok (.iaload, 1) := by decide +kernel
theorem dL_law_1561 : decode cL_law 1561 = .ok (.aload_n 0, 1) := by decide +kernel
theorem dL_law_1562 : decode cL_law 1562 = .ok (.iload_n 3, 1) := by decide +kernel
theorem dL_law_1563 : decode cL_law 1563 = .ok (.iconst 5, 1) := by decide +kernel
theorem dL_law_1564 : decode cL_law 1564 = .ok (.iadd, 1) := by decide +kernel
theorem dL_law_1565 : decode cL_law 1565 = .ok (.iaload, 1) := by decide +kernel
theorem dL_law_1566 : decode cL_law 1566 = .ok (.invokevirtual 152, 3) := by decide +kernel
theorem dL_law_1569 : decode cL_law 1569 = .ok (.lcmp, 1) := by decide +kernel
theorem dL_law_1570 : decode cL_law 1570 = .ok (.ifCond .eq 146, 3) := by decide +kernel
theorem dL_law_1573 : decode cL_law 1573 = .ok (.iconst 0, 1) := by decide +kernel
theorem dL_law_1574 : decode cL_law 1574 = .ok (.ireturn, 1) := by decide +kernel
theorem dL_law_1575 : decode cL_law 1575 = .ok (.aload_n 1, 1) := by decide +kernel
theorem dL_law_1576 : decode cL_law 1576 = .ok (.invokevirtual 153, 3) := by decide +kernel
theorem dL_law_1579 : decode cL_law 1579 = .ok (.aload_n 2, 1) := by decide +kernel
theorem dL_law_1580 : decode cL_law 1580 = .ok (.invokevirtual 156, 3) := by decide +kernel
theorem dL_law_1583 : decode cL_law 1583 = .ok (.if_icmp .eq 133, 3) := by decide +kernel
theorem dL_law_1586 : decode cL_law 1586 = .ok (.iconst 0, 1) := by decide +kernel
theorem dL_law_1587 : decode cL_law 1587 = .ok (.ireturn, 1) := by decide +kernel
theorem dL_law_1588 : decode cL_law 1588 = .ok (.aload_n 1, 1) := by decide +kernel
theorem dL_law_1589 : decode cL_law 1589 = .ok (.aload_n 0, 1) := by decide +kernel
theorem dL_law_1590 : decode cL_law 1590 = .ok (.iload_n 3, 1) := by decide +kernel
theorem dL_law_1591 : decode cL_law 1591 = .ok (.iconst 1, 1) := by decide +kernel
theorem dL_law_1592 : decode cL_law 1592 = .ok (.iadd, 1) := by decide +kernel
theorem dL_law_1593 : decode cL_law 1593 = .ok (.iaload, 1) := by decide +kernel
theorem dL_law_1594 : decode cL_law 1594 = .ok (.aload_n 0, 1) := by decide +kernel
theorem dL_law_1595 : decode cL_law 1595 = .ok (.iload_n 3, 1) := by decide +kernel
theorem dL_law_1596 : decode cL_law 1596 = .ok (.iconst 2, 1) := by decide +kernel
theorem dL_law_1597 : decode cL_law 1597 = .ok (.iadd, 1) := by decide +kernel
theorem dL_law_1598 : decode cL_law 1598 = .ok (.iaload, 1) := by decide +kernel
theorem dL_law_1599 : decode cL_law 1599 = .ok (.invokevirtual 157, 3) := by decide +kernel
theorem dL_law_1602 : decode cL_law 1602 = .ok (.aload_n 2, 1) := by decide +kernel
theorem dL_law_1603 : decode cL_law 1603 = .ok (.aload_n 0, 1) := by decide +kernel
theorem dL_law_1604 : decode cL_law 1604 = .ok (.iload_n 3, 1) := by decide +kernel
theorem dL_law_1605 : decode cL_law 1605 = .ok (.iconst 1, 1) := by decide +kernel
theorem dL_law_1606 : decode cL_law 1606 = .ok (.iadd, 1) := by decide +kernel
theorem dL_law_1607 : decode cL_law 1607 = .ok (.iaload, 1) := by decide +kernel
theorem dL_law_1608 : decode cL_law 1608 = .ok (.aload_n 0, 1) := by decide +kernel
theorem dL_law_1609 : decode cL_law 1609 = .ok (.iload_n 3, 1) := by decide +kernel
theorem dL_law_1610 : decode cL_law 1610 = .ok (.iconst 2, 1) := by decide +kernel
theorem dL_law_1611 : decode cL_law 1611 = .ok (.iadd, 1) := by decide +kernel
theorem dL_law_1612 : decode cL_law 1612 = .ok (.iaload, 1) := by decide +kernel
theorem dL_law_1613 : decode cL_law 1613 = .ok (.invokevirtual 160, 3) := by decide +kernel
theorem dL_law_1616 : decode cL_law 1616 = .ok (.if_icmp .eq 100, 3) := by decide +kernel
theorem dL_law_1619 : decode cL_law 1619 = .ok (.iconst 0, 1) := by decide +kernel
theorem dL_law_1620 : decode cL_law 1620 = .ok (.ireturn, 1) := by decide +kernel
theorem dL_law_1621 : decode cL_law 1621 = .ok (.aload_n 1, 1) := by decide +kernel
theorem dL_law_1622 : decode cL_law 1622 = .ok (.invokevirtual 161, 3) := by decide +kernel
theorem dL_law_1625 : decode cL_law 1625 = .ok (.aload_n 2, 1) := by decide +kernel
theorem dL_law_1626 : decode cL_law 1626 = .ok (.invokevirtual 164, 3) := by decide +kernel
theorem dL_law_1629 : decode cL_law 1629 = .ok (.if_icmp .eq 87, 3) := by decide +kernel
theorem dL_law_1632 : decode cL_law 1632 = .ok (.iconst 0, 1) := by decide +kernel
theorem dL_law_1633 : decode cL_law 1633 = .ok (.ireturn, 1) := by decide +kernel
theorem dL_law_1634 : decode cL_law 1634 = .ok (.aload_n 1, 1) := by decide +kernel
theorem dL_law_1635 : decode cL_law 1635 = .ok (.aload_n 0, 1) := by decide +kernel
theorem dL_law_1636 : decode cL_law 1636 = .ok (.iload_n 3, 1) := by decide +kernel
theorem dL_law_1637 : decode cL_law 1637 = .ok (.iconst 1, 1) := by decide +kernel
theorem dL_law_1638 : decode cL_law 1638 = .ok (.iadd, 1) := by decide +kernel
theorem dL_law_1639 : decode cL_law 1639 = .ok (.iaload, 1) := by decide +kernel
theorem dL_law_1640 : decode cL_law 1640 = .ok (.invokevirtual 165, 3) := by decide +kernel
theorem dL_law_1643 : decode cL_law 1643 = .ok (.aload_n 2, 1) := by decide +kernel
theorem dL_law_1644 : decode cL_law 1644 = .ok (.aload_n 0, 1) := by decide +kernel
theorem dL_law_1645 : decode cL_law 1645 = .ok (.iload_n 3, 1) := by decide +kernel
theorem dL_law_1646 : decode cL_law 1646 = .ok (.iconst 1, 1) := by decide +kernel
theorem dL_law_1647 : decode cL_law 1647 = .ok (.iadd, 1) := by decide +kernel
theorem dL_law_1648 : decode cL_law 1648 = .ok (.iaload, 1) := by decide +kernel
theorem dL_law_1649 : decode cL_law 1649 = .ok (.invokevirtual 168, 3) := by decide +kernel
theorem dL_law_1652 : decode cL_law 1652 = .ok (.if_icmp .eq 64, 3) := by decide +kernel
theorem dL_law_1655 : decode cL_law 1655 = .ok (.iconst 0, 1) := by decide +kernel
theorem dL_law_1656 : decode cL_law 1656 = .ok (.ireturn, 1) := by decide +kernel
theorem dL_law_1657 : decode cL_law 1657 = .ok (.aload_n 1, 1) := by decide +kernel
theorem dL_law_1658 : decode cL_law 1658 = .ok (.aload_n 0, 1) := by decide +kernel
theorem dL_law_1659 : decode cL_law 1659 = .ok (.iload_n 3, 1) := by decide +kernel
theorem dL_law_1660 : decode cL_law 1660 = .ok (.iconst 1, 1) := by decide +kernel
theorem dL_law_1661 : decode cL_law 1661 = .ok (.iadd, 1) := by decide +kernel
theorem dL_law_1662 : decode cL_law 1662 = .ok (.iaload, 1) := by decide +kernel
theorem dL_law_1663 : decode cL_law 1663 = .ok (.invokevirtual 169, 3) := by decide +kernel
theorem dL_law_1666 : decode cL_law 1666 = .ok (.aload_n 2, 1) := by decide +kernel
theorem dL_law_1667 : decode cL_law 1667 = .ok (.aload_n 0, 1) := by decide +kernel
theorem dL_law_1668 : decode cL_law 1668 = .ok (.iload_n 3, 1) := by decide +kernel
theorem dL_law_1669 : decode cL_law 1669 = .ok (.iconst 1, 1) := by decide +kernel
theorem dL_law_1670 : decode cL_law 1670 = .ok (.iadd, 1) := by decide +kernel
theorem dL_law_1671 : decode cL_law 1671 = .ok (.iaload, 1) := by decide +kernel
theorem dL_law_1672 : decode cL_law 1672 = .ok (.invokevirtual 172, 3) := by decide +kernel
theorem dL_law_1675 : decode cL_law 1675 = .ok (.if_icmp .eq 41, 3) := by decide +kernel
theorem dL_law_1678 : decode cL_law 1678 = .ok (.iconst 0, 1) := by decide +kernel
theorem dL_law_1679 : decode cL_law 1679 = .ok (.ireturn, 1) := by decide +kernel
theorem dL_law_1680 : decode cL_law 1680 = .ok (.aload_n 1, 1) := by decide +kernel
theorem dL_law_1681 : decode cL_law 1681 = .ok (.aload_n 0, 1) := by decide +kernel
theorem dL_law_1682 : decode cL_law 1682 = .ok (.iload_n 3, 1) := by decide +kernel
theorem dL_law_1683 : decode cL_law 1683 = .ok (.iconst 1, 1) := by decide +kernel
theorem dL_law_1684 : decode cL_law 1684 = .ok (.iadd, 1) := by decide +kernel
theorem dL_law_1685 : decode cL_law 1685 = .ok (.iaload, 1) := by decide +kernel
theorem dL_law_1686 : decode cL_law 1686 = .ok (.invokevirtual 173, 3) := by decide +kernel
theorem dL_law_1689 : decode cL_law 1689 = .ok (.aload_n 2, 1) := by decide +kernel
theorem dL_law_1690 : decode cL_law 1690 = .ok (.aload_n 0, 1) := by decide +kernel
theorem dL_law_1691 : decode cL_law 1691 = .ok (.iload_n 3, 1) := by decide +kernel
theorem dL_law_1692 : decode cL_law 1692 = .ok (.iconst 1, 1) := by decide +kernel
theorem dL_law_1693 : decode cL_law 1693 = .ok (.iadd, 1) := by decide +kernel
theorem dL_law_1694 : decode cL_law 1694 = .ok (.iaload, 1) := by decide +kernel
theorem dL_law_1695 : decode cL_law 1695 = .ok (.invokevirtual 176, 3) := by decide +kernel
theorem dL_law_1698 : decode cL_law 1698 = .ok (.if_icmp .eq 18, 3) := by decide +kernel
theorem dL_law_1701 : decode cL_law 1701 = .ok (.iconst 0, 1) := by decide +kernel
theorem dL_law_1702 : decode cL_law 1702 = .ok (.ireturn, 1) := by decide +kernel
theorem dL_law_1703 : decode cL_law 1703 = .ok (.aload_n 1, 1) := by decide +kernel
theorem dL_law_1704 : decode cL_law 1704 = .ok (.invokevirtual 177, 3) := by decide +kernel
theorem dL_law_1707 : decode cL_law 1707 = .ok (.aload_n 2, 1) := by decide +kernel
theorem dL_law_1708 : decode cL_law 1708 = .ok (.invokevirtual 180, 3) := by decide +kernel
theorem dL_law_1711 : decode cL_law 1711 = .ok (.if_icmp .eq 5, 3) := by decide +kernel
theorem dL_law_1714 : decode cL_law 1714 = .ok (.iconst 0, 1) := by decide +kernel
theorem dL_law_1715 : decode cL_law 1715 = .ok (.ireturn, 1) := by decide +kernel
theorem dL_law_1716 : decode cL_law 1716 = .ok (.iinc 3 7, 3) := by decide +kernel
theorem dL_law_1719 : decode cL_law 1719 = .ok (.goto (-1701), 3) := by decide +kernel
theorem dL_law_1722 : decode cL_law 1722 = .ok (.iconst 1, 1) := by decide +kernel
theorem dL_law_1723 : decode cL_law 1723 = .ok (.ireturn, 1) := by decide +kernel
