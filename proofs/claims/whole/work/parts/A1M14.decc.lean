theorem dX12_come_33 : decode cX12_come 33 = .ok (.ifCond .eq 18, 3) := by decide +kernel
theorem dX12_come_36 : decode cX12_come 36 = .ok (.iload_n 3, 1) := by decide +kernel
theorem dX12_come_37 : decode cX12_come 37 = .ok (.bipush 63, 2) := by decide +kernel
theorem dX12_come_39 : decode cX12_come 39 = .ok (.if_icmp .ne 60, 3) := by decide +kernel
theorem dX12_come_42 : decode cX12_come 42 = .ok (.aload_n 0, 1) := by decide +kernel
theorem dX12_come_43 : decode cX12_come 43 = .ok (.getfield 40, 3) := by decide +kernel
theorem dX12_come_46 : decode cX12_come 46 = .ok (.iload_n 1, 1) := by decide +kernel
theorem dX12_come_47 : decode cX12_come 47 = .ok (.iaload, 1) := by decide +kernel
theorem dX12_come_48 : decode cX12_come 48 = .ok (.ifCond .ne 51, 3) := by decide +kernel
theorem dX12_come_51 : decode cX12_come 51 = .ok (.iload_n 3, 1) := by decide +kernel
theorem dX12_come_52 : decode cX12_come 52 = .ok (.bipush 63, 2) := by decide +kernel
theorem dX12_come_54 : decode cX12_come 54 = .ok (.if_icmp .ne 21, 3) := by decide +kernel
theorem dX12_come_57 : decode cX12_come 57 = .ok (.aload_n 0, 1) := by decide +kernel
theorem dX12_come_58 : decode cX12_come 58 = .ok (.aload_n 0, 1) := by decide +kernel
theorem dX12_come_59 : decode cX12_come 59 = .ok (.getfield 49, 3) := by decide +kernel
theorem dX12_come_62 : decode cX12_come 62 = .ok (.iload_n 1, 1) := by decide +kernel
theorem dX12_come_63 : decode cX12_come 63 = .ok (.invokevirtual 181, 3) := by decide +kernel
theorem dX12_come_66 : decode cX12_come 66 = .ok (.aload_n 0, 1) := by decide +kernel
theorem dX12_come_67 : decode cX12_come 67 = .ok (.aload_n 0, 1) := by decide +kernel
theorem dX12_come_68 : decode cX12_come 68 = .ok (.getfield 46, 3) := by decide +kernel
theorem dX12_come_71 : decode cX12_come 71 = .ok (.iload_n 1, 1) := by decide +kernel
theorem dX12_come_72 : decode cX12_come 72 = .ok (.invokevirtual 188, 3) := by decide +kernel
theorem dX12_come_75 : decode cX12_come 75 = .ok (.aload_n 0, 1) := by decide +kernel
theorem dX12_come_76 : decode cX12_come 76 = .ok (.getfield 40, 3) := by decide +kernel
theorem dX12_come_79 : decode cX12_come 79 = .ok (.iload_n 1, 1) := by decide +kernel
theorem dX12_come_80 : decode cX12_come 80 = .ok (.iconst 1, 1) := by decide +kernel
theorem dX12_come_81 : decode cX12_come 81 = .ok (.iastore, 1) := by decide +kernel
theorem dX12_come_82 : decode cX12_come 82 = .ok (.aload_n 0, 1) := by decide +kernel
theorem dX12_come_83 : decode cX12_come 83 = .ok (.iload_n 2, 1) := by decide +kernel
theorem dX12_come_84 : decode cX12_come 84 = .ok (.iconst 1, 1) := by decide +kernel
theorem dX12_come_85 : decode cX12_come 85 = .ok (.iadd, 1) := by decide +kernel
theorem dX12_come_86 : decode cX12_come 86 = .ok (.aload_n 0, 1) := by decide +kernel
theorem dX12_come_87 : decode cX12_come 87 = .ok (.getfield 22, 3) := by decide +kernel
theorem dX12_come_90 : decode cX12_come 90 = .ok (.iload_n 2, 1) := by decide +kernel
theorem dX12_come_91 : decode cX12_come 91 = .ok (.iconst 1, 1) := by decide +kernel
theorem dX12_come_92 : decode cX12_come 92 = .ok (.iadd, 1) := by decide +kernel
theorem dX12_come_93 : decode cX12_come 93 = .ok (.iaload, 1) := by decide +kernel
theorem dX12_come_94 : decode cX12_come 94 = .ok (.iadd, 1) := by decide +kernel
theorem dX12_come_95 : decode cX12_come 95 = .ok (.putfield 168, 3) := by decide +kernel
theorem dX12_come_98 : decode cX12_come 98 = .ok (.return_, 1) := by decide +kernel
theorem dX12_come_99 : decode cX12_come 99 = .ok (.iload_n 3, 1) := by decide +kernel
theorem dX12_come_100 : decode cX12_come 100 = .ok (.bipush 63, 2) := by decide +kernel
theorem dX12_come_102 : decode cX12_come 102 = .ok (.if_icmp .ne 22, 3) := by decide +kernel
theorem dX12_come_105 : decode cX12_come 105 = .ok (.aload_n 0, 1) := by decide +kernel
theorem dX12_come_106 : decode cX12_come 106 = .ok (.getfield 40, 3) := by decide +kernel
theorem dX12_come_109 : decode cX12_come 109 = .ok (.iload_n 1, 1) := by decide +kernel
theorem dX12_come_110 : decode cX12_come 110 = .ok (.iaload, 1) := by decide +kernel
theorem dX12_come_111 : decode cX12_come 111 = .ok (.iconst 1, 1) := by decide +kernel
theorem dX12_come_112 : decode cX12_come 112 = .ok (.if_icmp .ne 12, 3) := by decide +kernel
theorem dX12_come_115 : decode cX12_come 115 = .ok (.aload_n 0, 1) := by decide +kernel
theorem dX12_come_116 : decode cX12_come 116 = .ok (.aload_n 0, 1) := by decide +kernel
theorem dX12_come_117 : decode cX12_come 117 = .ok (.getfield 49, 3) := by decide +kernel
theorem dX12_come_120 : decode cX12_come 120 = .ok (.iload_n 1, 1) := by decide +kernel
theorem dX12_come_121 : decode cX12_come 121 = .ok (.invokevirtual 191, 3) := by decide +kernel
theorem dX12_come_124 : decode cX12_come 124 = .ok (.iload_n 3, 1) := by decide +kernel
theorem dX12_come_125 : decode cX12_come 125 = .ok (.invokestatic 91, 3) := by decide +kernel
theorem dX12_come_128 : decode cX12_come 128 = .ok (.ifCond .eq 92, 3) := by decide +kernel
theorem dX12_come_131 : decode cX12_come 131 = .ok (.aload_n 0, 1) := by decide +kernel
theorem dX12_come_132 : decode cX12_come 132 = .ok (.getfield 43, 3) := by decide +kernel
theorem dX12_come_135 : decode cX12_come 135 = .ok (.iload_n 1, 1) := by decide +kernel
theorem dX12_come_136 : decode cX12_come 136 = .ok (.dup2, 1) := by decide +kernel
theorem dX12_come_137 : decode cX12_come 137 = .ok (.iaload, 1) := by decide +kernel
theorem dX12_come_138 : decode cX12_come 138 = .ok (.iconst 1, 1) := by decide +kernel
theorem dX12_come_139 : decode cX12_come 139 = .ok (.isub, 1) := by decide +kernel
theorem dX12_come_140 : decode cX12_come 140 = .ok (.iastore, 1) := by decide +kernel
theorem dX12_come_141 : decode cX12_come 141 = .ok (.aload_n 0, 1) := by decide +kernel
theorem dX12_come_142 : decode cX12_come 142 = .ok (.getfield 40, 3) := by decide +kernel
theorem dX12_come_145 : decode cX12_come 145 = .ok (.iload_n 1, 1) := by decide +kernel
theorem dX12_come_146 : decode cX12_come 146 = .ok (.iaload, 1) := by decide +kernel
theorem dX12_come_147 : decode cX12_come 147 = .ok (.ifCond .ne 7, 3) := by decide +kernel
theorem dX12_come_150 : decode cX12_come 150 = .ok (.iconst 1, 1) := by decide +kernel
theorem dX12_come_151 : decode cX12_come 151 = .ok (.goto 4, 3) := by decide +kernel
theorem dX12_come_154 : decode cX12_come 154 = .ok (.iconst 0, 1) := by decide +kernel
theorem dX12_come_155 : decode cX12_come 155 = .ok (.istore 4, 2) := by decide +kernel
theorem dX12_come_157 : decode cX12_come 157 = .ok (.iload 4, 2) := by decide +kernel
theorem dX12_come_159 : decode cX12_come 159 = .ok (.ifCond .eq 30, 3) := by decide +kernel
theorem dX12_come_162 : decode cX12_come 162 = .ok (.aload_n 0, 1) := by decide +kernel
theorem dX12_come_163 : decode cX12_come 163 = .ok (.aload_n 0, 1) := by decide +kernel
theorem dX12_come_164 : decode cX12_come 164 = .ok (.getfield 49, 3) := by decide +kernel
theorem dX12_come_167 : decode cX12_come 167 = .ok (.iload_n 1, 1) := by decide +kernel
theorem dX12_come_168 : decode cX12_come 168 = .ok (.invokevirtual 181, 3) := by decide +kernel
theorem dX12_come_171 : decode cX12_come 171 = .ok (.aload_n 0, 1) := by decide +kernel
theorem dX12_come_172 : decode cX12_come 172 = .ok (.aload_n 0, 1) := by decide +kernel
theorem dX12_come_173 : decode cX12_come 173 = .ok (.getfield 46, 3) := by decide +kernel
theorem dX12_come_176 : decode cX12_come 176 = .ok (.iload_n 1, 1) := by decide +kernel
theorem dX12_come_177 : decode cX12_come 177 = .ok (.invokevirtual 191, 3) := by decide +kernel
theorem dX12_come_180 : decode cX12_come 180 = .ok (.aload_n 0, 1) := by decide +kernel
theorem dX12_come_181 : decode cX12_come 181 = .ok (.aload_n 0, 1) := by decide +kernel
theorem dX12_come_182 : decode cX12_come 182 = .ok (.getfield 46, 3) := by decide +kernel
theorem dX12_come_185 : decode cX12_come 185 = .ok (.iload_n 1, 1) := by decide +kernel
theorem dX12_come_186 : decode cX12_come 186 = .ok (.invokevirtual 181, 3) := by decide +kernel
theorem dX12_come_189 : decode cX12_come 189 = .ok (.aload_n 0, 1) := by decide +kernel
theorem dX12_come_190 : decode cX12_come 190 = .ok (.getfield 43, 3) := by decide +kernel
theorem dX12_come_193 : decode cX12_come 193 = .ok (.iload_n 1, 1) := by decide +kernel
theorem dX12_come_194 : decode cX12_come 194 = .ok (.iaload, 1) := by decide +kernel
theorem dX12_come_195 : decode cX12_come 195 = .ok (.ifCond .le 25, 3) := by decide +kernel
theorem dX12_come_198 : decode cX12_come 198 = .ok (.iload 4, 2) := by decide +kernel
theorem dX12_come_200 : decode cX12_come 200 = .ok (.ifCond .eq 12, 3) := by decide +kernel
theorem dX12_come_203 : decode cX12_come 203 = .ok (.aload_n 0, 1) := by decide +kernel
theorem dX12_come_204 : decode cX12_come 204 = .ok (.aload_n 0, 1) := by decide +kernel
theorem dX12_come_205 : decode cX12_come 205 = .ok (.getfield 49, 3) := by decide +kernel
theorem dX12_come_208 : decode cX12_come 208 = .ok (.iload_n 1, 1) := by decide +kernel
theorem dX12_come_209 : decode cX12_come 209 = .ok (.invokevirtual 188, 3) := by decide +kernel
theorem dX12_come_212 : decode cX12_come 212 = .ok (.aload_n 0, 1) := by decide +kernel
theorem dX12_come_213 : decode cX12_come 213 = .ok (.iload_n 2, 1) := by decide +kernel
theorem dX12_come_214 : decode cX12_come 214 = .ok (.iconst 1, 1) := by decide +kernel
theorem dX12_come_215 : decode cX12_come 215 = .ok (.iadd, 1) := by decide +kernel
theorem dX12_come_216 : decode cX12_come 216 = .ok (.putfield 168, 3) := by decide +kernel
theorem dX12_come_219 : decode cX12_come 219 = .ok (.return_, 1) := by decide +kernel
theorem dX12_come_220 : decode cX12_come 220 = .ok (.aload_n 0, 1) := by decide +kernel
theorem dX12_come_221 : decode cX12_come 221 = .ok (.dup, 1) := by decide +kernel
theorem dX12_come_222 : decode cX12_come 222 = .ok (.getfield 165, 3) := by decide +kernel
theorem dX12_come_225 : decode cX12_come 225 = .ok (.iconst 1, 1) := by decide +kernel
theorem dX12_come_226 : decode cX12_come 226 = .ok (.isub, 1) := by decide +kernel
theorem dX12_come_227 : decode cX12_come 227 = .ok (.putfield 165, 3) := by decide +kernel
theorem dX12_come_230 : decode cX12_come 230 = .ok (.return_, 1) := by decide +kernel
theorem dX12_work_0 : decode cX12_work 0 = .ok (.aload_n 0, 1) := by decide +kernel
theorem dX12_work_1 : decode cX12_work 1 = .ok (.aload_n 0, 1) := by decide +kernel
theorem dX12_work_2 : decode cX12_work 2 = .ok (.invokevirtual 194, 3) := by decide +kernel
theorem dX12_work_5 : decode cX12_work 5 = .ok (.putfield 147, 3) := by decide +kernel
theorem dX12_work_8 : decode cX12_work 8 = .ok (.aload_n 0, 1) := by decide +kernel
theorem dX12_work_9 : decode cX12_work 9 = .ok (.iload_n 2, 1) := by decide +kernel
theorem dX12_work_10 : decode cX12_work 10 = .ok (.putfield 144, 3) := by decide +kernel
theorem dX12_work_13 : decode cX12_work 13 = .ok (.iconst 0, 1) := by decide +kernel
theorem dX12_work_14 : decode cX12_work 14 = .ok (.istore_n 3, 1) := by decide +kernel
theorem dX12_work_15 : decode cX12_work 15 = .ok (.iload_n 3, 1) := by decide +kernel
theorem dX12_work_16 : decode cX12_work 16 = .ok (.aload_n 0, 1) := by decide +kernel
theorem dX12_work_17 : decode cX12_work 17 = .ok (.getfield 147, 3) := by decide +kernel
theorem dX12_work_20 : decode cX12_work 20 = .ok (.if_icmp .ge 24, 3) := by decide +kernel
theorem dX12_work_23 : decode cX12_work 23 = .ok (.aload_n 0, 1) := by decide +kernel
theorem dX12_work_24 : decode cX12_work 24 = .ok (.getfield 34, 3) := by decide +kernel
theorem dX12_work_27 : decode cX12_work 27 = .ok (.iload_n 3, 1) := by decide +kernel
theorem dX12_work_28 : decode cX12_work 28 = .ok (.iload_n 3, 1) := by decide +kernel
theorem dX12_work_29 : decode cX12_work 29 = .ok (.ifCond .ne 7, 3) := by decide +kernel
theorem dX12_work_32 : decode cX12_work 32 = .ok (.iconst 0, 1) := by decide +kernel
theorem dX12_work_33 : decode cX12_work 33 = .ok (.goto 4, 3) := by decide +kernel
theorem dX12_work_36 : decode cX12_work 36 = .ok (.iconst (-1), 1) := by decide +kernel
theorem dX12_work_37 : decode cX12_work 37 = .ok (.iastore, 1) := by decide +kernel
theorem dX12_work_38 : decode cX12_work 38 = .ok (.iinc 3 1, 3) := by decide +kernel
theorem dX12_work_41 : decode cX12_work 41 = .ok (.goto (-26), 3) := by decide +kernel
theorem dX12_work_44 : decode cX12_work 44 = .ok (.aload_n 0, 1) := by decide +kernel
theorem dX12_work_45 : decode cX12_work 45 = .ok (.iconst 0, 1) := by decide +kernel
theorem dX12_work_46 : decode cX12_work 46 = .ok (.putfield 165, 3) := by decide +kernel
theorem dX12_work_49 : decode cX12_work 49 = .ok (.aload_n 0, 1) := by decide +kernel
theorem dX12_work_50 : decode cX12_work 50 = .ok (.iconst 0, 1) := by decide +kernel
theorem dX12_work_51 : decode cX12_work 51 = .ok (.putfield 156, 3) := by decide +kernel
theorem dX12_work_54 : decode cX12_work 54 = .ok (.aload_n 0, 1) := by decide +kernel
theorem dX12_work_55 : decode cX12_work 55 = .ok (.bipush (-6), 2) := by decide +kernel
theorem dX12_work_57 : decode cX12_work 57 = .ok (.putfield 162, 3) := by decide +kernel
theorem dX12_work_60 : decode cX12_work 60 = .ok (.aload_n 0, 1) := by decide +kernel
theorem dX12_work_61 : decode cX12_work 61 = .ok (.bipush 30, 2) := by decide +kernel
theorem dX12_work_63 : decode cX12_work 63 = .ok (.iload_n 1, 1) := by decide +kernel
theorem dX12_work_64 : decode cX12_work 64 = .ok (.imul, 1) := by decide +kernel
theorem dX12_work_65 : decode cX12_work 65 = .ok (.putfield 168, 3) := by decide +kernel
theorem dX12_work_68 : decode cX12_work 68 = .ok (.aload_n 0, 1) := by decide +kernel
theorem dX12_work_69 : decode cX12_work 69 = .ok (.getfield 168, 3) := by decide +kernel
theorem dX12_work_72 : decode cX12_work 72 = .ok (.ifCond .ge 10, 3) := by decide +kernel
theorem dX12_work_75 : decode cX12_work 75 = .ok (.aload_n 0, 1) := by decide +kernel
theorem dX12_work_76 : decode cX12_work 76 = .ok (.getfield 165, 3) := by decide +kernel
theorem dX12_work_79 : decode cX12_work 79 = .ok (.ifCond .le 24, 3) := by decide +kernel
theorem dX12_work_82 : decode cX12_work 82 = .ok (.aload_n 0, 1) := by decide +kernel
theorem dX12_work_83 : decode cX12_work 83 = .ok (.getfield 168, 3) := by decide +kernel
theorem dX12_work_86 : decode cX12_work 86 = .ok (.ifCond .lt 10, 3) := by decide +kernel
theorem dX12_work_89 : decode cX12_work 89 = .ok (.aload_n 0, 1) := by decide +kernel
theorem dX12_work_90 : decode cX12_work 90 = .ok (.invokevirtual 197, 3) := by decide +kernel
theorem dX12_work_93 : decode cX12_work 93 = .ok (.goto (-25), 3) := by decide +kernel
theorem dX12_work_96 : decode cX12_work 96 = .ok (.aload_n 0, 1) := by decide +kernel
theorem dX12_work_97 : decode cX12_work 97 = .ok (.invokevirtual 200, 3) := by decide +kernel
theorem dX12_work_100 : decode cX12_work 100 = .ok (.goto (-32), 3) := by decide +kernel
theorem dX12_work_103 : decode cX12_work 103 = .ok (.return_, 1) := by decide +kernel
theorem dX12_bestOf_0 : decode cX12_bestOf 0 = .ok (.iconst (-1), 1) := by decide +kernel
theorem dX12_bestOf_1 : decode cX12_bestOf 1 = .ok (.istore_n 1, 1) := by decide +kernel
theorem dX12_bestOf_2 : decode cX12_bestOf 2 = .ok (.iconst 0, 1) := by decide +kernel
theorem dX12_bestOf_3 : decode cX12_bestOf 3 = .ok (.istore_n 2, 1) := by decide +kernel
theorem dX12_bestOf_4 : decode cX12_bestOf 4 = .ok (.iload_n 2, 1) := by decide +kernel
theorem dX12_bestOf_5 : decode cX12_bestOf 5 = .ok (.aload_n 0, 1) := by decide +kernel
theorem dX12_bestOf_6 : decode cX12_bestOf 6 = .ok (.getfield 147, 3) := by decide +kernel
theorem dX12_bestOf_9 : decode cX12_bestOf 9 = .ok (.if_icmp .ge 34, 3) := by decide +kernel
theorem dX12_bestOf_12 : decode cX12_bestOf 12 = .ok (.aload_n 0, 1) := by decide +kernel
theorem dX12_bestOf_13 : decode cX12_bestOf 13 = .ok (.aload_n 0, 1) := by decide +kernel
theorem dX12_bestOf_14 : decode cX12_bestOf 14 = .ok (.getfield 34, 3) := by decide +kernel
theorem dX12_bestOf_17 : decode cX12_bestOf 17 = .ok (.iload_n 2, 1) := by decide +kernel
theorem dX12_bestOf_18 : decode cX12_bestOf 18 = .ok (.iaload, 1) := by decide +kernel
theorem dX12_bestOf_19 : decode cX12_bestOf 19 = .ok (.iload_n 1, 1) := by decide +kernel
theorem dX12_bestOf_20 : decode cX12_bestOf 20 = .ok (.invokevirtual 153, 3) := by decide +kernel
theorem dX12_bestOf_23 : decode cX12_bestOf 23 = .ok (.ifCond .eq 12, 3) := by decide +kernel
theorem dX12_bestOf_26 : decode cX12_bestOf 26 = .ok (.aload_n 0, 1) := by decide +kernel
theorem dX12_bestOf_27 : decode cX12_bestOf 27 = .ok (.getfield 34, 3) := by decide +kernel
theorem dX12_bestOf_30 : decode cX12_bestOf 30 = .ok (.iload_n 2, 1) := by decide +kernel
theorem dX12_bestOf_31 : decode cX12_bestOf 31 = .ok (.iaload, 1) := by decide +kernel
theorem dX12_bestOf_32 : decode cX12_bestOf 32 = .ok (.goto 4, 3) := by decide +kernel
theorem dX12_bestOf_35 : decode cX12_bestOf 35 = .ok (.iload_n 1, 1) := by decide +kernel
theorem dX12_bestOf_36 : decode cX12_bestOf 36 = .ok (.istore_n 1, 1) := by decide +kernel
theorem dX12_bestOf_37 : decode cX12_bestOf 37 = .ok (.iinc 2 1, 3) := by decide +kernel
theorem dX12_bestOf_40 : decode cX12_bestOf 40 = .ok (.goto (-36), 3) := by decide +kernel
theorem dX12_bestOf_43 : decode cX12_bestOf 43 = .ok (.iload_n 1, 1) := by decide +kernel
theorem dX12_bestOf_44 : decode cX12_bestOf 44 = .ok (.ireturn, 1) := by decide +kernel
theorem dX12_worstOf_0 : decode cX12_worstOf 0 = .ok (.aload_n 0, 1) := by decide +kernel
theorem dX12_worstOf_1 : decode cX12_worstOf 1 = .ok (.iconst 0, 1) := by decide +kernel
theorem dX12_worstOf_2 : decode cX12_worstOf 2 = .ok (.putfield 159, 3) := by decide +kernel
theorem dX12_worstOf_5 : decode cX12_worstOf 5 = .ok (.aload_n 0, 1) := by decide +kernel
theorem dX12_worstOf_6 : decode cX12_worstOf 6 = .ok (.iload_n 1, 1) := by decide +kernel
theorem dX12_worstOf_7 : decode cX12_worstOf 7 = .ok (.iconst 1, 1) := by decide +kernel
theorem dX12_worstOf_8 : decode cX12_worstOf 8 = .ok (.invokevirtual 203, 3) := by decide +kernel
theorem dX12_worstOf_11 : decode cX12_worstOf 11 = .ok (.aload_n 0, 1) := by decide +kernel
theorem dX12_worstOf_12 : decode cX12_worstOf 12 = .ok (.invokevirtual 207, 3) := by decide +kernel
theorem dX12_worstOf_15 : decode cX12_worstOf 15 = .ok (.ireturn, 1) := by decide +kernel
theorem dX12_choose_0 : decode cX12_choose 0 = .ok (.iload_n 1, 1) := by decide +kernel
theorem dX12_choose_1 : decode cX12_choose 1 = .ok (.iconst 0, 1) := by decide +kernel
theorem dX12_choose_2 : decode cX12_choose 2 = .ok (.bipush 9, 2) := by decide +kernel
theorem dX12_choose_4 : decode cX12_choose 4 = .ok (.invokestatic 80, 3) := by decide +kernel
theorem dX12_choose_7 : decode cX12_choose 7 = .ok (.ifCond .ne 6, 3) := by decide +kernel
theorem dX12_choose_10 : decode cX12_choose 10 = .ok (.bipush (-2), 2) := by decide +kernel
theorem dX12_choose_12 : decode cX12_choose 12 = .ok (.ireturn, 1) := by decide +kernel
theorem dX12_choose_13 : decode cX12_choose 13 = .ok (.aload_n 0, 1) := by decide +kernel
theorem dX12_choose_14 : decode cX12_choose 14 = .ok (.getfield 210, 3) := by decide +kernel
theorem dX12_choose_17 : decode cX12_choose 17 = .ok (.bipush 20, 2) := by decide +kernel
theorem dX12_choose_19 : decode cX12_choose 19 = .ok (.if_icmp .ne 6, 3) := by decide +kernel
theorem dX12_choose_22 : decode cX12_choose 22 = .ok (.bipush (-4), 2) := by decide +kernel
theorem dX12_choose_24 : decode cX12_choose 24 = .ok (.ireturn, 1) := by decide +kernel
theorem dX12_choose_25 : decode cX12_choose 25 = .ok (.aload_n 0, 1) := by decide +kernel
theorem dX12_choose_26 : decode cX12_choose 26 = .ok (.getfield 28, 3) := by decide +kernel
theorem dX12_choose_29 : decode cX12_choose 29 = .ok (.aload_n 0, 1) := by decide +kernel
theorem dX12_choose_30 : decode cX12_choose 30 = .ok (.getfield 210, 3) := by decide +kernel
theorem dX12_choose_33 : decode cX12_choose 33 = .ok (.iload_n 1, 1) := by decide +kernel
theorem dX12_choose_34 : decode cX12_choose 34 = .ok (.iastore, 1) := by decide +kernel
theorem dX12_choose_35 : decode cX12_choose 35 = .ok (.aload_n 0, 1) := by decide +kernel
theorem dX12_choose_36 : decode cX12_choose 36 = .ok (.dup, 1) := by decide +kernel
theorem dX12_choose_37 : decode cX12_choose 37 = .ok (.getfield 210, 3) := by decide +kernel
theorem dX12_choose_40 : decode cX12_choose 40 = .ok (.iconst 1, 1) := by decide +kernel
theorem dX12_choose_41 : decode cX12_choose 41 = .ok (.iadd, 1) := by decide +kernel
theorem dX12_choose_42 : decode cX12_choose 42 = .ok (.putfield 210, 3) := by decide +kernel
theorem dX12_choose_45 : decode cX12_choose 45 = .ok (.aload_n 0, 1) := by decide +kernel
theorem dX12_choose_46 : decode cX12_choose 46 = .ok (.getfield 210, 3) := by decide +kernel
theorem dX12_choose_49 : decode cX12_choose 49 = .ok (.ireturn, 1) := by decide +kernel
theorem dX12_forget_0 : decode cX12_forget 0 = .ok (.aload_n 0, 1) := by decide +kernel
theorem dX12_forget_1 : decode cX12_forget 1 = .ok (.getfield 210, 3) := by decide +kernel
theorem dX12_forget_4 : decode cX12_forget 4 = .ok (.istore_n 1, 1) := by decide +kernel
theorem dX12_forget_5 : decode cX12_forget 5 = .ok (.aload_n 0, 1) := by decide +kernel
theorem dX12_forget_6 : decode cX12_forget 6 = .ok (.iconst 0, 1) := by decide +kernel
theorem dX12_forget_7 : decode cX12_forget 7 = .ok (.putfield 210, 3) := by decide +kernel
theorem dX12_forget_10 : decode cX12_forget 10 = .ok (.iload_n 1, 1) := by decide +kernel
theorem dX12_forget_11 : decode cX12_forget 11 = .ok (.ireturn, 1) := by decide +kernel
theorem dX12_nextDigit_0 : decode cX12_nextDigit 0 = .ok (.aload_n 0, 1) := by decide +kernel
theorem dX12_nextDigit_1 : decode cX12_nextDigit 1 = .ok (.dup, 1) := by decide +kernel
theorem dX12_nextDigit_2 : decode cX12_nextDigit 2 = .ok (.getfield 213, 3) := by decide +kernel
theorem dX12_nextDigit_5 : decode cX12_nextDigit 5 = .ok (.iconst 1, 1) := by decide +kernel
theorem dX12_nextDigit_6 : decode cX12_nextDigit 6 = .ok (.iadd, 1) := by decide +kernel
theorem dX12_nextDigit_7 : decode cX12_nextDigit 7 = .ok (.putfield 213, 3) := by decide +kernel
theorem dX12_nextDigit_10 : decode cX12_nextDigit 10 = .ok (.aload_n 0, 1) := by decide +kernel
theorem dX12_nextDigit_11 : decode cX12_nextDigit 11 = .ok (.getfield 213, 3) := by decide +kernel
theorem dX12_nextDigit_14 : decode cX12_nextDigit 14 = .ok (.aload_n 0, 1) := by decide +kernel
theorem dX12_nextDigit_15 : decode cX12_nextDigit 15 = .ok (.getfield 210, 3) := by decide +kernel
theorem dX12_nextDigit_18 : decode cX12_nextDigit 18 = .ok (.if_icmp .le 7, 3) := by decide +kernel
theorem dX12_nextDigit_21 : decode cX12_nextDigit 21 = .ok (.iconst 0, 1) := by decide +kernel
theorem dX12_nextDigit_22 : decode cX12_nextDigit 22 = .ok (.goto 14, 3) := by decide +kernel
theorem dX12_nextDigit_25 : decode cX12_nextDigit 25 = .ok (.aload_n 0, 1) := by decide +kernel
theorem dX12_nextDigit_26 : decode cX12_nextDigit 26 = .ok (.getfield 28, 3) := by decide +kernel
theorem dX12_nextDigit_29 : decode cX12_nextDigit 29 = .ok (.aload_n 0, 1) := by decide +kernel
theorem dX12_nextDigit_30 : decode cX12_nextDigit 30 = .ok (.getfield 213, 3) := by decide +kernel
theorem dX12_nextDigit_33 : decode cX12_nextDigit 33 = .ok (.iconst 1, 1) := by decide +kernel
theorem dX12_nextDigit_34 : decode cX12_nextDigit 34 = .ok (.isub, 1) := by decide +kernel
theorem dX12_nextDigit_35 : decode cX12_nextDigit 35 = .ok (.iaload, 1) := by decide +kernel
theorem dX12_nextDigit_36 : decode cX12_nextDigit 36 = .ok (.ireturn, 1) := by decide +kernel
theorem dX12_run_0 : decode cX12_run 0 = .ok (.iload_n 1, 1) := by decide +kernel
theorem dX12_run_1 : decode cX12_run 1 = .ok (.invokestatic 103, 3) := by decide +kernel
theorem dX12_run_4 : decode cX12_run 4 = .ok (.ifCond .ne 5, 3) := by decide +kernel
theorem dX12_run_7 : decode cX12_run 7 = .ok (.iconst (-1), 1) := by decide +kernel
theorem dX12_run_8 : decode cX12_run 8 = .ok (.ireturn, 1) := by decide +kernel
theorem dX12_run_9 : decode cX12_run 9 = .ok (.iload_n 2, 1) := by decide +kernel
theorem dX12_run_10 : decode cX12_run 10 = .ok (.iconst 0, 1) := by decide +kernel
theorem dX12_run_11 : decode cX12_run 11 = .ok (.iconst 4, 1) := by decide +kernel
theorem dX12_run_12 : decode cX12_run 12 = .ok (.invokestatic 80, 3) := by decide +kernel
theorem dX12_run_15 : decode cX12_run 15 = .ok (.ifCond .ne 6, 3) := by decide +kernel
theorem dX12_run_18 : decode cX12_run 18 = .ok (.bipush (-2), 2) := by decide +kernel
theorem dX12_run_20 : decode cX12_run 20 = .ok (.ireturn, 1) := by decide +kernel
theorem dX12_run_21 : decode cX12_run 21 = .ok (.iconst 0, 1) := by decide +kernel
theorem dX12_run_22 : decode cX12_run 22 = .ok (.istore_n 3, 1) := by decide +kernel
theorem dX12_run_23 : decode cX12_run 23 = .ok (.iconst 0, 1) := by decide +kernel
theorem dX12_run_24 : decode cX12_run 24 = .ok (.istore 4, 2) := by decide +kernel
theorem dX12_run_26 : decode cX12_run 26 = .ok (.iconst 0, 1) := by decide +kernel
theorem dX12_run_27 : decode cX12_run 27 = .ok (.istore 5, 2) := by decide +kernel
theorem dX12_run_29 : decode cX12_run 29 = .ok (.iconst 0, 1) := by decide +kernel
theorem dX12_run_30 : decode cX12_run 30 = .ok (.istore 6, 2) := by decide +kernel
theorem dX12_run_32 : decode cX12_run 32 = .ok (.aload_n 0, 1) := by decide +kernel
theorem dX12_run_33 : decode cX12_run 33 = .ok (.iconst 0, 1) := by decide +kernel
theorem dX12_run_34 : decode cX12_run 34 = .ok (.putfield 213, 3) := by decide +kernel
theorem dX12_run_37 : decode cX12_run 37 = .ok (.aload_n 0, 1) := by decide +kernel
theorem dX12_run_38 : decode cX12_run 38 = .ok (.iconst 0, 1) := by decide +kernel
theorem dX12_run_39 : decode cX12_run 39 = .ok (.putfield 165, 3) := by decide +kernel
theorem dX12_run_42 : decode cX12_run 42 = .ok (.bipush 30, 2) := by decide +kernel
theorem dX12_run_44 : decode cX12_run 44 = .ok (.iload_n 1, 1) := by decide +kernel
theorem dX12_run_45 : decode cX12_run 45 = .ok (.imul, 1) := by decide +kernel
theorem dX12_run_46 : decode cX12_run 46 = .ok (.istore 7, 2) := by decide +kernel
theorem dX12_run_48 : decode cX12_run 48 = .ok (.iload 7, 2) := by decide +kernel
theorem dX12_run_50 : decode cX12_run 50 = .ok (.ifCond .ge 10, 3) := by decide +kernel
theorem dX12_run_53 : decode cX12_run 53 = .ok (.aload_n 0, 1) := by decide +kernel
theorem dX12_run_54 : decode cX12_run 54 = .ok (.getfield 165, 3) := by decide +kernel
theorem dX12_run_57 : decode cX12_run 57 = .ok (.ifCond .le 294, 3) := by decide +kernel
theorem dX12_run_60 : decode cX12_run 60 = .ok (.iload 7, 2) := by decide +kernel
theorem dX12_run_62 : decode cX12_run 62 = .ok (.ifCond .ge 108, 3) := by decide +kernel
theorem dX12_run_65 : decode cX12_run 65 = .ok (.aload_n 0, 1) := by decide +kernel
theorem dX12_run_66 : decode cX12_run 66 = .ok (.getfield 165, 3) := by decide +kernel
theorem dX12_run_69 : decode cX12_run 69 = .ok (.iconst 1, 1) := by decide +kernel
theorem dX12_run_70 : decode cX12_run 70 = .ok (.isub, 1) := by decide +kernel
theorem dX12_run_71 : decode cX12_run 71 = .ok (.istore 8, 2) := by decide +kernel
theorem dX12_run_73 : decode cX12_run 73 = .ok (.aload_n 0, 1) := by decide +kernel
theorem dX12_run_74 : decode cX12_run 74 = .ok (.getfield 43, 3) := by decide +kernel
theorem dX12_run_77 : decode cX12_run 77 = .ok (.iload 8, 2) := by decide +kernel
theorem dX12_run_79 : decode cX12_run 79 = .ok (.dup2, 1) := by decide +kernel
theorem dX12_run_80 : decode cX12_run 80 = .ok (.iaload, 1) := by decide +kernel
theorem dX12_run_81 : decode cX12_run 81 = .ok (.iconst 1, 1) := by decide +kernel
theorem dX12_run_82 : decode cX12_run 82 = .ok (.isub, 1) := by decide +kernel
theorem dX12_run_83 : decode cX12_run 83 = .ok (.iastore, 1) := by decide +kernel
theorem dX12_run_84 : decode cX12_run 84 = .ok (.aload_n 0, 1) := by decide +kernel
theorem dX12_run_85 : decode cX12_run 85 = .ok (.getfield 37, 3) := by decide +kernel
theorem dX12_run_88 : decode cX12_run 88 = .ok (.iload 8, 2) := by decide +kernel
theorem dX12_run_90 : decode cX12_run 90 = .ok (.iaload, 1) := by decide +kernel
theorem dX12_run_91 : decode cX12_run 91 = .ok (.istore 9, 2) := by decide +kernel
theorem dX12_run_93 : decode cX12_run 93 = .ok (.aload_n 0, 1) := by decide +kernel
theorem dX12_run_94 : decode cX12_run 94 = .ok (.getfield 43, 3) := by decide +kernel
theorem dX12_run_97 : decode cX12_run 97 = .ok (.iload 8, 2) := by decide +kernel
theorem dX12_run_99 : decode cX12_run 99 = .ok (.iaload, 1) := by decide +kernel
theorem dX12_run_100 : decode cX12_run 100 = .ok (.ifCond .ge 8, 3) := by decide +kernel
theorem dX12_run_103 : decode cX12_run 103 = .ok (.bipush (-6), 2) := by decide +kernel
theorem dX12_run_105 : decode cX12_run 105 = .ok (.goto 36, 3) := by decide +kernel
theorem dX12_run_108 : decode cX12_run 108 = .ok (.aload_n 0, 1) := by decide +kernel
theorem dX12_run_109 : decode cX12_run 109 = .ok (.getfield 19, 3) := by decide +kernel
theorem dX12_run_112 : decode cX12_run 112 = .ok (.iload 9, 2) := by decide +kernel
theorem dX12_run_114 : decode cX12_run 114 = .ok (.iaload, 1) := by decide +kernel
theorem dX12_run_115 : decode cX12_run 115 = .ok (.bipush 59, 2) := by decide +kernel
theorem dX12_run_117 : decode cX12_run 117 = .ok (.if_icmp .ne 20, 3) := by decide +kernel
theorem dX12_run_120 : decode cX12_run 120 = .ok (.iload 9, 2) := by decide +kernel
theorem dX12_run_122 : decode cX12_run 122 = .ok (.iconst 1, 1) := by decide +kernel
theorem dX12_run_123 : decode cX12_run 123 = .ok (.iadd, 1) := by decide +kernel
theorem dX12_run_124 : decode cX12_run 124 = .ok (.aload_n 0, 1) := by decide +kernel
theorem dX12_run_125 : decode cX12_run 125 = .ok (.getfield 22, 3) := by decide +kernel
theorem dX12_run_128 : decode cX12_run 128 = .ok (.iload 9, 2) := by decide +kernel
theorem dX12_run_130 : decode cX12_run 130 = .ok (.iconst 1, 1) := by decide +kernel
theorem dX12_run_131 : decode cX12_run 131 = .ok (.iadd, 1) := by decide +kernel
theorem dX12_run_132 : decode cX12_run 132 = .ok (.iaload, 1) := by decide +kernel
theorem dX12_run_133 : decode cX12_run 133 = .ok (.iadd, 1) := by decide +kernel
theorem dX12_run_134 : decode cX12_run 134 = .ok (.goto 7, 3) := by decide +kernel
theorem dX12_run_137 : decode cX12_run 137 = .ok (.iload 9, 2) := by decide +kernel
theorem dX12_run_139 : decode cX12_run 139 = .ok (.iconst 1, 1) := by decide +kernel
theorem dX12_run_140 : decode cX12_run 140 = .ok (.iadd, 1) := by decide +kernel
theorem dX12_run_141 : decode cX12_run 141 = .ok (.istore 7, 2) := by decide +kernel
theorem dX12_run_143 : decode cX12_run 143 = .ok (.aload_n 0, 1) := by decide +kernel
theorem dX12_run_144 : decode cX12_run 144 = .ok (.dup, 1) := by decide +kernel
theorem dX12_run_145 : decode cX12_run 145 = .ok (.getfield 165, 3) := by decide +kernel
theorem dX12_run_148 : decode cX12_run 148 = .ok (.aload_n 0, 1) := by decide +kernel
theorem dX12_run_149 : decode cX12_run 149 = .ok (.getfield 43, 3) := by decide +kernel
theorem dX12_run_152 : decode cX12_run 152 = .ok (.iload 8, 2) := by decide +kernel
theorem dX12_run_154 : decode cX12_run 154 = .ok (.iaload, 1) := by decide +kernel
theorem dX12_run_155 : decode cX12_run 155 = .ok (.ifCond .ge 7, 3) := by decide +kernel
theorem dX12_run_158 : decode cX12_run 158 = .ok (.iconst 1, 1) := by decide +kernel
theorem dX12_run_159 : decode cX12_run 159 = .ok (.goto 4, 3) := by decide +kernel
theorem dX12_run_162 : decode cX12_run 162 = .ok (.iconst 0, 1) := by decide +kernel
theorem dX12_run_163 : decode cX12_run 163 = .ok (.isub, 1) := by decide +kernel
theorem dX12_run_164 : decode cX12_run 164 = .ok (.putfield 165, 3) := by decide +kernel
theorem dX12_run_167 : decode cX12_run 167 = .ok (.goto (-119), 3) := by decide +kernel
theorem dX12_run_170 : decode cX12_run 170 = .ok (.iload 7, 2) := by decide +kernel
theorem dX12_run_172 : decode cX12_run 172 = .ok (.istore 8, 2) := by decide +kernel
theorem dX12_run_174 : decode cX12_run 174 = .ok (.aload_n 0, 1) := by decide +kernel
theorem dX12_run_175 : decode cX12_run 175 = .ok (.getfield 19, 3) := by decide +kernel
theorem dX12_run_178 : decode cX12_run 178 = .ok (.iload 8, 2) := by decide +kernel
theorem dX12_run_180 : decode cX12_run 180 = .ok (.iaload, 1) := by decide +kernel
theorem dX12_run_181 : decode cX12_run 181 = .ok (.istore 9, 2) := by decide +kernel
theorem dX12_run_183 : decode cX12_run 183 = .ok (.bipush (-6), 2) := by decide +kernel
theorem dX12_run_185 : decode cX12_run 185 = .ok (.istore 7, 2) := by decide +kernel
theorem dX12_run_187 : decode cX12_run 187 = .ok (.iload 9, 2) := by decide +kernel
theorem dX12_run_189 : decode cX12_run 189 = .ok (.bipush 48, 2) := by decide +kernel
theorem dX12_run_191 : decode cX12_run 191 = .ok (.bipush 55, 2) := by decide +kernel
theorem dX12_run_193 : decode cX12_run 193 = .ok (.invokestatic 80, 3) := by decide +kernel
theorem dX12_run_196 : decode cX12_run 196 = .ok (.ifCond .eq 59, 3) := by decide +kernel
theorem dX12_run_199 : decode cX12_run 199 = .ok (.aload_n 0, 1) := by decide +kernel
theorem dX12_run_200 : decode cX12_run 200 = .ok (.iload_n 3, 1) := by decide +kernel
theorem dX12_run_201 : decode cX12_run 201 = .ok (.iload 9, 2) := by decide +kernel
theorem dX12_run_203 : decode cX12_run 203 = .ok (.bipush 48, 2) := by decide +kernel
theorem dX12_run_205 : decode cX12_run 205 = .ok (.isub, 1) := by decide +kernel
theorem dX12_run_206 : decode cX12_run 206 = .ok (.invokevirtual 150, 3) := by decide +kernel
theorem dX12_run_209 : decode cX12_run 209 = .ok (.istore_n 3, 1) := by decide +kernel
theorem dX12_run_210 : decode cX12_run 210 = .ok (.iinc 5 1, 3) := by decide +kernel
theorem dX12_run_213 : decode cX12_run 213 = .ok (.iload 6, 2) := by decide +kernel
theorem dX12_run_215 : decode cX12_run 215 = .ok (.aload_n 0, 1) := by decide +kernel
theorem dX12_run_216 : decode cX12_run 216 = .ok (.getfield 127, 3) := by decide +kernel
theorem dX12_run_219 : decode cX12_run 219 = .ok (.ifCond .eq 7, 3) := by decide +kernel
theorem dX12_run_222 : decode cX12_run 222 = .ok (.iconst 0, 1) := by decide +kernel
theorem dX12_run_223 : decode cX12_run 223 = .ok (.goto 4, 3) := by decide +kernel
theorem dX12_run_226 : decode cX12_run 226 = .ok (.iconst 1, 1) := by decide +kernel
theorem dX12_run_227 : decode cX12_run 227 = .ok (.iadd, 1) := by decide +kernel
theorem dX12_run_228 : decode cX12_run 228 = .ok (.istore 6, 2) := by decide +kernel
theorem dX12_run_230 : decode cX12_run 230 = .ok (.iload 4, 2) := by decide +kernel
theorem dX12_run_232 : decode cX12_run 232 = .ok (.aload_n 0, 1) := by decide +kernel
theorem dX12_run_233 : decode cX12_run 233 = .ok (.getfield 127, 3) := by decide +kernel
theorem dX12_run_236 : decode cX12_run 236 = .ok (.ifCond .eq 7, 3) := by decide +kernel
theorem dX12_run_239 : decode cX12_run 239 = .ok (.iconst 1, 1) := by decide +kernel
theorem dX12_run_240 : decode cX12_run 240 = .ok (.goto 9, 3) := by decide +kernel
theorem dX12_run_243 : decode cX12_run 243 = .ok (.aload_n 0, 1) := by decide +kernel
theorem dX12_run_244 : decode cX12_run 244 = .ok (.getfield 7, 3) := by decide +kernel
theorem dX12_run_247 : decode cX12_run 247 = .ok (.iconst 2, 1) := by decide +kernel
theorem dX12_run_248 : decode cX12_run 248 = .ok (.iaload, 1) := by decide +kernel
theorem dX12_run_249 : decode cX12_run 249 = .ok (.iadd, 1) := by decide +kernel
theorem dX12_run_250 : decode cX12_run 250 = .ok (.istore 4, 2) := by decide +kernel
theorem dX12_run_252 : decode cX12_run 252 = .ok (.goto 96, 3) := by decide +kernel
theorem dX12_run_255 : decode cX12_run 255 = .ok (.iload 9, 2) := by decide +kernel
theorem dX12_run_257 : decode cX12_run 257 = .ok (.bipush 59, 2) := by decide +kernel
theorem dX12_run_259 : decode cX12_run 259 = .ok (.if_icmp .ne 20, 3) := by decide +kernel
theorem dX12_run_262 : decode cX12_run 262 = .ok (.aload_n 0, 1) := by decide +kernel
theorem dX12_run_263 : decode cX12_run 263 = .ok (.iload 8, 2) := by decide +kernel
theorem dX12_run_265 : decode cX12_run 265 = .ok (.iconst 0, 1) := by decide +kernel
theorem dX12_run_266 : decode cX12_run 266 = .ok (.iconst 1, 1) := by decide +kernel
theorem dX12_run_267 : decode cX12_run 267 = .ok (.invokevirtual 174, 3) := by decide +kernel
theorem dX12_run_270 : decode cX12_run 270 = .ok (.iload 8, 2) := by decide +kernel
theorem dX12_run_272 : decode cX12_run 272 = .ok (.iconst 1, 1) := by decide +kernel
theorem dX12_run_273 : decode cX12_run 273 = .ok (.iadd, 1) := by decide +kernel
theorem dX12_run_274 : decode cX12_run 274 = .ok (.istore 7, 2) := by decide +kernel
theorem dX12_run_276 : decode cX12_run 276 = .ok (.goto 72, 3) := by decide +kernel
theorem dX12_run_279 : decode cX12_run 279 = .ok (.iload 9, 2) := by decide +kernel
theorem dX12_run_281 : decode cX12_run 281 = .ok (.bipush 63, 2) := by decide +kernel
theorem dX12_run_283 : decode cX12_run 283 = .ok (.if_icmp .ne 38, 3) := by decide +kernel
theorem dX12_run_286 : decode cX12_run 286 = .ok (.aload_n 0, 1) := by decide +kernel
theorem dX12_run_287 : decode cX12_run 287 = .ok (.invokevirtual 216, 3) := by decide +kernel
theorem dX12_run_290 : decode cX12_run 290 = .ok (.iconst 2, 1) := by decide +kernel
theorem dX12_run_291 : decode cX12_run 291 = .ok (.irem, 1) := by decide +kernel
theorem dX12_run_292 : decode cX12_run 292 = .ok (.ifCond .ne 10, 3) := by decide +kernel
theorem dX12_run_295 : decode cX12_run 295 = .ok (.iload 8, 2) := by decide +kernel
theorem dX12_run_297 : decode cX12_run 297 = .ok (.iconst 1, 1) := by decide +kernel
theorem dX12_run_298 : decode cX12_run 298 = .ok (.iadd, 1) := by decide +kernel
theorem dX12_run_299 : decode cX12_run 299 = .ok (.goto 17, 3) := by decide +kernel
theorem dX12_run_302 : decode cX12_run 302 = .ok (.iload 8, 2) := by decide +kernel
theorem dX12_run_304 : decode cX12_run 304 = .ok (.iconst 1, 1) := by decide +kernel
theorem dX12_run_305 : decode cX12_run 305 = .ok (.iadd, 1) := by decide +kernel
theorem dX12_run_306 : decode cX12_run 306 = .ok (.aload_n 0, 1) := by decide +kernel
theorem dX12_run_307 : decode cX12_run 307 = .ok (.getfield 22, 3) := by decide +kernel
theorem dX12_run_310 : decode cX12_run 310 = .ok (.iload 8, 2) := by decide +kernel
theorem dX12_run_312 : decode cX12_run 312 = .ok (.iconst 1, 1) := by decide +kernel
theorem dX12_run_313 : decode cX12_run 313 = .ok (.iadd, 1) := by decide +kernel
theorem dX12_run_314 : decode cX12_run 314 = .ok (.iaload, 1) := by decide +kernel
theorem dX12_run_315 : decode cX12_run 315 = .ok (.iadd, 1) := by decide +kernel
theorem dX12_run_316 : decode cX12_run 316 = .ok (.istore 7, 2) := by decide +kernel
theorem dX12_run_318 : decode cX12_run 318 = .ok (.goto 30, 3) := by decide +kernel
theorem dX12_run_321 : decode cX12_run 321 = .ok (.iload 9, 2) := by decide +kernel
theorem dX12_run_323 : decode cX12_run 323 = .ok (.invokestatic 91, 3) := by decide +kernel
theorem dX12_run_326 : decode cX12_run 326 = .ok (.ifCond .eq 22, 3) := by decide +kernel
theorem dX12_run_329 : decode cX12_run 329 = .ok (.aload_n 0, 1) := by decide +kernel
theorem dX12_run_330 : decode cX12_run 330 = .ok (.iload 8, 2) := by decide +kernel
theorem dX12_run_332 : decode cX12_run 332 = .ok (.iconst 0, 1) := by decide +kernel
theorem dX12_run_333 : decode cX12_run 333 = .ok (.aload_n 0, 1) := by decide +kernel
theorem dX12_run_334 : decode cX12_run 334 = .ok (.invokevirtual 216, 3) := by decide +kernel
theorem dX12_run_337 : decode cX12_run 337 = .ok (.iload 9, 2) := by decide +kernel
theorem dX12_run_339 : decode cX12_run 339 = .ok (.invokestatic 185, 3) := by decide +kernel
theorem dX12_run_342 : decode cX12_run 342 = .ok (.iconst 1, 1) := by decide +kernel
theorem dX12_run_343 : decode cX12_run 343 = .ok (.iadd, 1) := by decide +kernel
theorem dX12_run_344 : decode cX12_run 344 = .ok (.irem, 1) := by decide +kernel
theorem dX12_run_345 : decode cX12_run 345 = .ok (.invokevirtual 174, 3) := by decide +kernel
theorem dX12_run_348 : decode cX12_run 348 = .ok (.goto (-300), 3) := by decide +kernel
theorem dX12_run_351 : decode cX12_run 351 = .ok (.iload_n 2, 1) := by decide +kernel
theorem dX12_run_352 : decode cX12_run 352 = .ok (.ifCond .ne 8, 3) := by decide +kernel
theorem dX12_run_355 : decode cX12_run 355 = .ok (.iload 4, 2) := by decide +kernel
theorem dX12_run_357 : decode cX12_run 357 = .ok (.goto 40, 3) := by decide +kernel
theorem dX12_run_360 : decode cX12_run 360 = .ok (.iload_n 2, 1) := by decide +kernel
theorem dX12_run_361 : decode cX12_run 361 = .ok (.iconst 1, 1) := by decide +kernel
theorem dX12_run_362 : decode cX12_run 362 = .ok (.if_icmp .ne 8, 3) := by decide +kernel
theorem dX12_run_365 : decode cX12_run 365 = .ok (.iload 5, 2) := by decide +kernel
theorem dX12_run_367 : decode cX12_run 367 = .ok (.goto 30, 3) := by decide +kernel
theorem dX12_run_370 : decode cX12_run 370 = .ok (.iload_n 2, 1) := by decide +kernel
theorem dX12_run_371 : decode cX12_run 371 = .ok (.iconst 2, 1) := by decide +kernel
theorem dX12_run_372 : decode cX12_run 372 = .ok (.if_icmp .ne 8, 3) := by decide +kernel
theorem dX12_run_375 : decode cX12_run 375 = .ok (.iload 6, 2) := by decide +kernel
theorem dX12_run_377 : decode cX12_run 377 = .ok (.goto 20, 3) := by decide +kernel
theorem dX12_run_380 : decode cX12_run 380 = .ok (.iload_n 2, 1) := by decide +kernel
theorem dX12_run_381 : decode cX12_run 381 = .ok (.iconst 3, 1) := by decide +kernel
theorem dX12_run_382 : decode cX12_run 382 = .ok (.if_icmp .ne 10, 3) := by decide +kernel
theorem dX12_run_385 : decode cX12_run 385 = .ok (.aload_n 0, 1) := by decide +kernel
theorem dX12_run_386 : decode cX12_run 386 = .ok (.getfield 213, 3) := by decide +kernel
theorem dX12_run_389 : decode cX12_run 389 = .ok (.goto 8, 3) := by decide +kernel
theorem dX12_run_392 : decode cX12_run 392 = .ok (.aload_n 0, 1) := by decide +kernel
theorem dX12_run_393 : decode cX12_run 393 = .ok (.iload_n 3, 1) := by decide +kernel
theorem dX12_run_394 : decode cX12_run 394 = .ok (.invokevirtual 219, 3) := by decide +kernel
theorem dX12_run_397 : decode cX12_run 397 = .ok (.ireturn, 1) := by decide +kernel
theorem dX12_most_0 : decode cX12_most 0 = .ok (.iload_n 1, 1) := by decide +kernel
theorem dX12_most_1 : decode cX12_most 1 = .ok (.invokestatic 103, 3) := by decide +kernel
theorem dX12_most_4 : decode cX12_most 4 = .ok (.ifCond .ne 5, 3) := by decide +kernel
theorem dX12_most_7 : decode cX12_most 7 = .ok (.iconst (-1), 1) := by decide +kernel
theorem dX12_most_8 : decode cX12_most 8 = .ok (.ireturn, 1) := by decide +kernel
theorem dX12_most_9 : decode cX12_most 9 = .ok (.iload_n 2, 1) := by decide +kernel
theorem dX12_most_10 : decode cX12_most 10 = .ok (.iconst 0, 1) := by decide +kernel
theorem dX12_most_11 : decode cX12_most 11 = .ok (.iconst 2, 1) := by decide +kernel
theorem dX12_most_12 : decode cX12_most 12 = .ok (.invokestatic 80, 3) := by decide +kernel
theorem dX12_most_15 : decode cX12_most 15 = .ok (.ifCond .ne 6, 3) := by decide +kernel
theorem dX12_most_18 : decode cX12_most 18 = .ok (.bipush (-2), 2) := by decide +kernel
theorem dX12_most_20 : decode cX12_most 20 = .ok (.ireturn, 1) := by decide +kernel
theorem dX12_most_21 : decode cX12_most 21 = .ok (.aload_n 0, 1) := by decide +kernel
theorem dX12_most_22 : decode cX12_most 22 = .ok (.iconst 0, 1) := by decide +kernel
theorem dX12_most_23 : decode cX12_most 23 = .ok (.putfield 159, 3) := by decide +kernel
theorem dX12_most_26 : decode cX12_most 26 = .ok (.aload_n 0, 1) := by decide +kernel
theorem dX12_most_27 : decode cX12_most 27 = .ok (.iload_n 1, 1) := by decide +kernel
theorem dX12_most_28 : decode cX12_most 28 = .ok (.iload_n 2, 1) := by decide +kernel
theorem dX12_most_29 : decode cX12_most 29 = .ok (.ifCond .ne 7, 3) := by decide +kernel
theorem dX12_most_32 : decode cX12_most 32 = .ok (.iconst 1, 1) := by decide +kernel
theorem dX12_most_33 : decode cX12_most 33 = .ok (.goto 4, 3) := by decide +kernel
theorem dX12_most_36 : decode cX12_most 36 = .ok (.iconst 0, 1) := by decide +kernel
theorem dX12_most_37 : decode cX12_most 37 = .ok (.invokevirtual 203, 3) := by decide +kernel
theorem dX12_most_40 : decode cX12_most 40 = .ok (.iconst 0, 1) := by decide +kernel
theorem dX12_most_41 : decode cX12_most 41 = .ok (.istore_n 3, 1) := by decide +kernel
theorem dX12_most_42 : decode cX12_most 42 = .ok (.iconst 0, 1) := by decide +kernel
theorem dX12_most_43 : decode cX12_most 43 = .ok (.istore 4, 2) := by decide +kernel
theorem dX12_most_45 : decode cX12_most 45 = .ok (.iload 4, 2) := by decide +kernel
theorem dX12_most_47 : decode cX12_most 47 = .ok (.aload_n 0, 1) := by decide +kernel
theorem dX12_most_48 : decode cX12_most 48 = .ok (.getfield 147, 3) := by decide +kernel
theorem dX12_most_51 : decode cX12_most 51 = .ok (.if_icmp .ge 27, 3) := by decide +kernel
theorem dX12_most_54 : decode cX12_most 54 = .ok (.iload_n 3, 1) := by decide +kernel
theorem dX12_most_55 : decode cX12_most 55 = .ok (.aload_n 0, 1) := by decide +kernel
theorem dX12_most_56 : decode cX12_most 56 = .ok (.getfield 34, 3) := by decide +kernel
theorem dX12_most_59 : decode cX12_most 59 = .ok (.iload 4, 2) := by decide +kernel
theorem dX12_most_61 : decode cX12_most 61 = .ok (.iaload, 1) := by decide +kernel
theorem dX12_most_62 : decode cX12_most 62 = .ok (.ifCond .lt 7, 3) := by decide +kernel
theorem dX12_most_65 : decode cX12_most 65 = .ok (.iconst 1, 1) := by decide +kernel
theorem dX12_most_66 : decode cX12_most 66 = .ok (.goto 4, 3) := by decide +kernel
theorem dX12_most_69 : decode cX12_most 69 = .ok (.iconst 0, 1) := by decide +kernel
theorem dX12_most_70 : decode cX12_most 70 = .ok (.iadd, 1) := by decide +kernel
theorem dX12_most_71 : decode cX12_most 71 = .ok (.istore_n 3, 1) := by decide +kernel
theorem dX12_most_72 : decode cX12_most 72 = .ok (.iinc 4 1, 3) := by decide +kernel
theorem dX12_most_75 : decode cX12_most 75 = .ok (.goto (-30), 3) := by decide +kernel
theorem dX12_most_78 : decode cX12_most 78 = .ok (.iload_n 2, 1) := by decide +kernel
theorem dX12_most_79 : decode cX12_most 79 = .ok (.iconst 2, 1) := by decide +kernel
theorem dX12_most_80 : decode cX12_most 80 = .ok (.if_icmp .ne 7, 3) := by decide +kernel
theorem dX12_most_83 : decode cX12_most 83 = .ok (.iload_n 3, 1) := by decide +kernel
theorem dX12_most_84 : decode cX12_most 84 = .ok (.goto 7, 3) := by decide +kernel
theorem dX12_most_87 : decode cX12_most 87 = .ok (.aload_n 0, 1) := by decide +kernel
theorem dX12_most_88 : decode cX12_most 88 = .ok (.invokevirtual 207, 3) := by decide +kernel
theorem dX12_most_91 : decode cX12_most 91 = .ok (.ireturn, 1) := by decide +kernel
theorem dX12_layRow_0 : decode cX12_layRow 0 = .ok (.aload_n 0, 1) := by decide +kernel
theorem dX12_layRow_1 : decode cX12_layRow 1 = .ok (.iload_n 1, 1) := by decide +kernel
theorem dX12_layRow_2 : decode cX12_layRow 2 = .ok (.invokevirtual 222, 3) := by decide +kernel
theorem dX12_layRow_5 : decode cX12_layRow 5 = .ok (.istore_n 2, 1) := by decide +kernel
theorem dX12_layRow_6 : decode cX12_layRow 6 = .ok (.iconst 0, 1) := by decide +kernel
theorem dX12_layRow_7 : decode cX12_layRow 7 = .ok (.istore_n 3, 1) := by decide +kernel
theorem dX12_layRow_8 : decode cX12_layRow 8 = .ok (.aload_n 0, 1) := by decide +kernel
theorem dX12_layRow_9 : decode cX12_layRow 9 = .ok (.getfield 162, 3) := by decide +kernel
theorem dX12_layRow_12 : decode cX12_layRow 12 = .ok (.istore 4, 2) := by decide +kernel
theorem dX12_layRow_14 : decode cX12_layRow 14 = .ok (.iload 4, 2) := by decide +kernel
theorem dX12_layRow_16 : decode cX12_layRow 16 = .ok (.ifCond .le 77, 3) := by decide +kernel
theorem dX12_layRow_19 : decode cX12_layRow 19 = .ok (.iload_n 3, 1) := by decide +kernel
theorem dX12_layRow_20 : decode cX12_layRow 20 = .ok (.bipush 20, 2) := by decide +kernel
theorem dX12_layRow_22 : decode cX12_layRow 22 = .ok (.if_icmp .ne 6, 3) := by decide +kernel
theorem dX12_layRow_25 : decode cX12_layRow 25 = .ok (.bipush (-6), 2) := by decide +kernel
theorem dX12_layRow_27 : decode cX12_layRow 27 = .ok (.ireturn, 1) := by decide +kernel
theorem dX12_layRow_28 : decode cX12_layRow 28 = .ok (.iconst 0, 1) := by decide +kernel
theorem dX12_layRow_29 : decode cX12_layRow 29 = .ok (.istore 5, 2) := by decide +kernel
theorem dX12_layRow_31 : decode cX12_layRow 31 = .ok (.iconst 0, 1) := by decide +kernel
theorem dX12_layRow_32 : decode cX12_layRow 32 = .ok (.istore 6, 2) := by decide +kernel
theorem dX12_layRow_34 : decode cX12_layRow 34 = .ok (.iload 6, 2) := by decide +kernel
theorem dX12_layRow_36 : decode cX12_layRow 36 = .ok (.ifCond .ne 45, 3) := by decide +kernel
theorem dX12_layRow_39 : decode cX12_layRow 39 = .ok (.aload_n 0, 1) := by decide +kernel
theorem dX12_layRow_40 : decode cX12_layRow 40 = .ok (.getfield 52, 3) := by decide +kernel
theorem dX12_layRow_43 : decode cX12_layRow 43 = .ok (.iload_n 3, 1) := by decide +kernel
theorem dX12_layRow_44 : decode cX12_layRow 44 = .ok (.iload 5, 2) := by decide +kernel
theorem dX12_layRow_46 : decode cX12_layRow 46 = .ok (.iastore, 1) := by decide +kernel
theorem dX12_layRow_47 : decode cX12_layRow 47 = .ok (.aload_n 0, 1) := by decide +kernel
theorem dX12_layRow_48 : decode cX12_layRow 48 = .ok (.iload_n 3, 1) := by decide +kernel
theorem dX12_layRow_49 : decode cX12_layRow 49 = .ok (.iconst 1, 1) := by decide +kernel
theorem dX12_layRow_50 : decode cX12_layRow 50 = .ok (.iadd, 1) := by decide +kernel
theorem dX12_layRow_51 : decode cX12_layRow 51 = .ok (.putfield 159, 3) := by decide +kernel
theorem dX12_layRow_54 : decode cX12_layRow 54 = .ok (.aload_n 0, 1) := by decide +kernel
theorem dX12_layRow_55 : decode cX12_layRow 55 = .ok (.iload_n 1, 1) := by decide +kernel
theorem dX12_layRow_56 : decode cX12_layRow 56 = .ok (.iconst 1, 1) := by decide +kernel
theorem dX12_layRow_57 : decode cX12_layRow 57 = .ok (.invokevirtual 203, 3) := by decide +kernel
theorem dX12_layRow_60 : decode cX12_layRow 60 = .ok (.aload_n 0, 1) := by decide +kernel
theorem dX12_layRow_61 : decode cX12_layRow 61 = .ok (.invokevirtual 207, 3) := by decide +kernel
theorem dX12_layRow_64 : decode cX12_layRow 64 = .ok (.iload_n 2, 1) := by decide +kernel
theorem dX12_layRow_65 : decode cX12_layRow 65 = .ok (.if_icmp .ne 7, 3) := by decide +kernel
theorem dX12_layRow_68 : decode cX12_layRow 68 = .ok (.iconst 1, 1) := by decide +kernel
theorem dX12_layRow_69 : decode cX12_layRow 69 = .ok (.goto 4, 3) := by decide +kernel
theorem dX12_layRow_72 : decode cX12_layRow 72 = .ok (.iconst 0, 1) := by decide +kernel
theorem dX12_layRow_73 : decode cX12_layRow 73 = .ok (.istore 6, 2) := by decide +kernel
theorem dX12_layRow_75 : decode cX12_layRow 75 = .ok (.iinc 5 1, 3) := by decide +kernel
theorem dX12_layRow_78 : decode cX12_layRow 78 = .ok (.goto (-44), 3) := by decide +kernel
theorem dX12_layRow_81 : decode cX12_layRow 81 = .ok (.iinc 3 1, 3) := by decide +kernel
theorem dX12_layRow_84 : decode cX12_layRow 84 = .ok (.aload_n 0, 1) := by decide +kernel
theorem dX12_layRow_85 : decode cX12_layRow 85 = .ok (.getfield 162, 3) := by decide +kernel
theorem dX12_layRow_88 : decode cX12_layRow 88 = .ok (.istore 4, 2) := by decide +kernel
theorem dX12_layRow_90 : decode cX12_layRow 90 = .ok (.goto (-76), 3) := by decide +kernel
theorem dX12_layRow_93 : decode cX12_layRow 93 = .ok (.iload_n 3, 1) := by decide +kernel
theorem dX12_layRow_94 : decode cX12_layRow 94 = .ok (.ireturn, 1) := by decide +kernel
theorem dX12_row_0 : decode cX12_row 0 = .ok (.iload_n 1, 1) := by decide +kernel
theorem dX12_row_1 : decode cX12_row 1 = .ok (.invokestatic 103, 3) := by decide +kernel
theorem dX12_row_4 : decode cX12_row 4 = .ok (.ifCond .ne 5, 3) := by decide +kernel
theorem dX12_row_7 : decode cX12_row 7 = .ok (.iconst (-1), 1) := by decide +kernel
theorem dX12_row_8 : decode cX12_row 8 = .ok (.ireturn, 1) := by decide +kernel
theorem dX12_row_9 : decode cX12_row 9 = .ok (.aload_n 0, 1) := by decide +kernel
theorem dX12_row_10 : decode cX12_row 10 = .ok (.iload_n 1, 1) := by decide +kernel
theorem dX12_row_11 : decode cX12_row 11 = .ok (.invokevirtual 225, 3) := by decide +kernel
theorem dX12_row_14 : decode cX12_row 14 = .ok (.istore_n 3, 1) := by decide +kernel
theorem dX12_row_15 : decode cX12_row 15 = .ok (.iload_n 3, 1) := by decide +kernel
theorem dX12_row_16 : decode cX12_row 16 = .ok (.ifCond .ge 8, 3) := by decide +kernel
theorem dX12_row_19 : decode cX12_row 19 = .ok (.bipush (-3), 2) := by decide +kernel
theorem dX12_row_21 : decode cX12_row 21 = .ok (.goto 34, 3) := by decide +kernel
theorem dX12_row_24 : decode cX12_row 24 = .ok (.iload_n 2, 1) := by decide +kernel
theorem dX12_row_25 : decode cX12_row 25 = .ok (.iconst (-1), 1) := by decide +kernel
theorem dX12_row_26 : decode cX12_row 26 = .ok (.if_icmp .ne 7, 3) := by decide +kernel
theorem dX12_row_29 : decode cX12_row 29 = .ok (.iload_n 3, 1) := by decide +kernel
theorem dX12_row_30 : decode cX12_row 30 = .ok (.goto 25, 3) := by decide +kernel
theorem dX12_row_33 : decode cX12_row 33 = .ok (.iload_n 2, 1) := by decide +kernel
theorem dX12_row_34 : decode cX12_row 34 = .ok (.iconst 0, 1) := by decide +kernel
theorem dX12_row_35 : decode cX12_row 35 = .ok (.iload_n 3, 1) := by decide +kernel
theorem dX12_row_36 : decode cX12_row 36 = .ok (.iconst 1, 1) := by decide +kernel
theorem dX12_row_37 : decode cX12_row 37 = .ok (.isub, 1) := by decide +kernel
theorem dX12_row_38 : decode cX12_row 38 = .ok (.invokestatic 80, 3) := by decide +kernel
theorem dX12_row_41 : decode cX12_row 41 = .ok (.ifCond .eq 12, 3) := by decide +kernel
theorem dX12_row_44 : decode cX12_row 44 = .ok (.aload_n 0, 1) := by decide +kernel
theorem dX12_row_45 : decode cX12_row 45 = .ok (.getfield 52, 3) := by decide +kernel
theorem dX12_row_48 : decode cX12_row 48 = .ok (.iload_n 2, 1) := by decide +kernel
theorem dX12_row_49 : decode cX12_row 49 = .ok (.iaload, 1) := by decide +kernel
theorem dX12_row_50 : decode cX12_row 50 = .ok (.goto 5, 3) := by decide +kernel
theorem dX12_row_53 : decode cX12_row 53 = .ok (.bipush (-6), 2) := by decide +kernel
theorem dX12_row_55 : decode cX12_row 55 = .ok (.ireturn, 1) := by decide +kernel
theorem dX12_fetchAges_0 : decode cX12_fetchAges 0 = .ok (.aload_n 0, 1) := by decide +kernel
theorem dX12_fetchAges_1 : decode cX12_fetchAges 1 = .ok (.iload_n 1, 1) := by decide +kernel
theorem dX12_fetchAges_2 : decode cX12_fetchAges 2 = .ok (.invokevirtual 131, 3) := by decide +kernel
theorem dX12_fetchAges_5 : decode cX12_fetchAges 5 = .ok (.istore_n 2, 1) := by decide +kernel
theorem dX12_fetchAges_6 : decode cX12_fetchAges 6 = .ok (.aload_n 0, 1) := by decide +kernel
theorem dX12_fetchAges_7 : decode cX12_fetchAges 7 = .ok (.iload_n 2, 1) := by decide +kernel
theorem dX12_fetchAges_8 : decode cX12_fetchAges 8 = .ok (.invokevirtual 134, 3) := by decide +kernel
theorem dX12_fetchAges_11 : decode cX12_fetchAges 11 = .ok (.istore_n 3, 1) := by decide +kernel
theorem dX12_fetchAges_12 : decode cX12_fetchAges 12 = .ok (.aload_n 0, 1) := by decide +kernel
theorem dX12_fetchAges_13 : decode cX12_fetchAges 13 = .ok (.iload_n 1, 1) := by decide +kernel
theorem dX12_fetchAges_14 : decode cX12_fetchAges 14 = .ok (.invokevirtual 124, 3) := by decide +kernel
theorem dX12_fetchAges_17 : decode cX12_fetchAges 17 = .ok (.ifCond .ne 7, 3) := by decide +kernel
theorem dX12_fetchAges_20 : decode cX12_fetchAges 20 = .ok (.iload_n 3, 1) := by decide +kernel
theorem dX12_fetchAges_21 : decode cX12_fetchAges 21 = .ok (.ifCond .ne 4, 3) := by decide +kernel
theorem dX12_fetchAges_24 : decode cX12_fetchAges 24 = .ok (.return_, 1) := by decide +kernel
theorem dX12_fetchAges_25 : decode cX12_fetchAges 25 = .ok (.aload_n 0, 1) := by decide +kernel
theorem dX12_fetchAges_26 : decode cX12_fetchAges 26 = .ok (.getfield 58, 3) := by decide +kernel
theorem dX12_fetchAges_29 : decode cX12_fetchAges 29 = .ok (.iload_n 1, 1) := by decide +kernel
theorem dX12_fetchAges_30 : decode cX12_fetchAges 30 = .ok (.iaload, 1) := by decide +kernel
theorem dX12_fetchAges_31 : decode cX12_fetchAges 31 = .ok (.istore 4, 2) := by decide +kernel
theorem dX12_fetchAges_33 : decode cX12_fetchAges 33 = .ok (.aload_n 0, 1) := by decide +kernel
theorem dX12_fetchAges_34 : decode cX12_fetchAges 34 = .ok (.getfield 58, 3) := by decide +kernel
theorem dX12_fetchAges_37 : decode cX12_fetchAges 37 = .ok (.bipush 8, 2) := by decide +kernel
theorem dX12_fetchAges_39 : decode cX12_fetchAges 39 = .ok (.iload_n 1, 1) := by decide +kernel
theorem dX12_fetchAges_40 : decode cX12_fetchAges 40 = .ok (.iadd, 1) := by decide +kernel
theorem dX12_fetchAges_41 : decode cX12_fetchAges 41 = .ok (.iaload, 1) := by decide +kernel
theorem dX12_fetchAges_42 : decode cX12_fetchAges 42 = .ok (.istore 5, 2) := by decide +kernel
theorem dX12_fetchAges_44 : decode cX12_fetchAges 44 = .ok (.iload_n 2, 1) := by decide +kernel
theorem dX12_fetchAges_45 : decode cX12_fetchAges 45 = .ok (.istore 6, 2) := by decide +kernel
theorem dX12_fetchAges_47 : decode cX12_fetchAges 47 = .ok (.iload 6, 2) := by decide +kernel
theorem dX12_fetchAges_49 : decode cX12_fetchAges 49 = .ok (.bipush 8, 2) := by decide +kernel
theorem dX12_fetchAges_51 : decode cX12_fetchAges 51 = .ok (.if_icmp .ge 106, 3) := by decide +kernel
theorem dX12_fetchAges_54 : decode cX12_fetchAges 54 = .ok (.iload 6, 2) := by decide +kernel
theorem dX12_fetchAges_56 : decode cX12_fetchAges 56 = .ok (.iload_n 1, 1) := by decide +kernel
theorem dX12_fetchAges_57 : decode cX12_fetchAges 57 = .ok (.if_icmp .eq 86, 3) := by decide +kernel
theorem dX12_fetchAges_60 : decode cX12_fetchAges 60 = .ok (.aload_n 0, 1) := by decide +kernel
theorem dX12_fetchAges_61 : decode cX12_fetchAges 61 = .ok (.iload 6, 2) := by decide +kernel
theorem dX12_fetchAges_63 : decode cX12_fetchAges 63 = .ok (.invokevirtual 124, 3) := by decide +kernel
theorem dX12_fetchAges_66 : decode cX12_fetchAges 66 = .ok (.ifCond .ne 77, 3) := by decide +kernel
theorem dX12_fetchAges_69 : decode cX12_fetchAges 69 = .ok (.aload_n 0, 1) := by decide +kernel
theorem dX12_fetchAges_70 : decode cX12_fetchAges 70 = .ok (.getfield 58, 3) := by decide +kernel
theorem dX12_fetchAges_73 : decode cX12_fetchAges 73 = .ok (.iload 6, 2) := by decide +kernel
theorem dX12_fetchAges_75 : decode cX12_fetchAges 75 = .ok (.dup2, 1) := by decide +kernel
theorem dX12_fetchAges_76 : decode cX12_fetchAges 76 = .ok (.iaload, 1) := by decide +kernel
theorem dX12_fetchAges_77 : decode cX12_fetchAges 77 = .ok (.aload_n 0, 1) := by decide +kernel
theorem dX12_fetchAges_78 : decode cX12_fetchAges 78 = .ok (.getfield 58, 3) := by decide +kernel
theorem dX12_fetchAges_81 : decode cX12_fetchAges 81 = .ok (.iload 6, 2) := by decide +kernel
theorem dX12_fetchAges_83 : decode cX12_fetchAges 83 = .ok (.iaload, 1) := by decide +kernel
theorem dX12_fetchAges_84 : decode cX12_fetchAges 84 = .ok (.iload 4, 2) := by decide +kernel
theorem dX12_fetchAges_86 : decode cX12_fetchAges 86 = .ok (.if_icmp .ge 7, 3) := by decide +kernel
theorem dX12_fetchAges_89 : decode cX12_fetchAges 89 = .ok (.iconst 1, 1) := by decide +kernel
theorem dX12_fetchAges_90 : decode cX12_fetchAges 90 = .ok (.goto 4, 3) := by decide +kernel
theorem dX12_fetchAges_93 : decode cX12_fetchAges 93 = .ok (.iconst 0, 1) := by decide +kernel
theorem dX12_fetchAges_94 : decode cX12_fetchAges 94 = .ok (.iadd, 1) := by decide +kernel
theorem dX12_fetchAges_95 : decode cX12_fetchAges 95 = .ok (.iastore, 1) := by decide +kernel
theorem dX12_fetchAges_96 : decode cX12_fetchAges 96 = .ok (.aload_n 0, 1) := by decide +kernel
theorem dX12_fetchAges_97 : decode cX12_fetchAges 97 = .ok (.getfield 58, 3) := by decide +kernel
theorem dX12_fetchAges_100 : decode cX12_fetchAges 100 = .ok (.bipush 8, 2) := by decide +kernel
theorem dX12_fetchAges_102 : decode cX12_fetchAges 102 = .ok (.iload 6, 2) := by decide +kernel
theorem dX12_fetchAges_104 : decode cX12_fetchAges 104 = .ok (.iadd, 1) := by decide +kernel
theorem dX12_fetchAges_105 : decode cX12_fetchAges 105 = .ok (.dup2, 1) := by decide +kernel
theorem dX12_fetchAges_106 : decode cX12_fetchAges 106 = .ok (.iaload, 1) := by decide +kernel
theorem dX12_fetchAges_107 : decode cX12_fetchAges 107 = .ok (.aload_n 0, 1) := by decide +kernel
theorem dX12_fetchAges_108 : decode cX12_fetchAges 108 = .ok (.getfield 58, 3) := by decide +kernel
theorem dX12_fetchAges_111 : decode cX12_fetchAges 111 = .ok (.bipush 8, 2) := by decide +kernel
theorem dX12_fetchAges_113 : decode cX12_fetchAges 113 = .ok (.iload 6, 2) := by decide +kernel
theorem dX12_fetchAges_115 : decode cX12_fetchAges 115 = .ok (.iadd, 1) := by decide +kernel
theorem dX12_fetchAges_116 : decode cX12_fetchAges 116 = .ok (.iaload, 1) := by decide +kernel
theorem dX12_fetchAges_117 : decode cX12_fetchAges 117 = .ok (.iload 5, 2) := by decide +kernel
theorem dX12_fetchAges_119 : decode cX12_fetchAges 119 = .ok (.if_icmp .gt 21, 3) := by decide +kernel
theorem dX12_fetchAges_122 : decode cX12_fetchAges 122 = .ok (.aload_n 0, 1) := by decide +kernel
theorem dX12_fetchAges_123 : decode cX12_fetchAges 123 = .ok (.getfield 58, 3) := by decide +kernel
theorem dX12_fetchAges_126 : decode cX12_fetchAges 126 = .ok (.bipush 8, 2) := by decide +kernel
theorem dX12_fetchAges_128 : decode cX12_fetchAges 128 = .ok (.iload 6, 2) := by decide +kernel
theorem dX12_fetchAges_130 : decode cX12_fetchAges 130 = .ok (.iadd, 1) := by decide +kernel
theorem dX12_fetchAges_131 : decode cX12_fetchAges 131 = .ok (.iaload, 1) := by decide +kernel
theorem dX12_fetchAges_132 : decode cX12_fetchAges 132 = .ok (.iload_n 3, 1) := by decide +kernel
theorem dX12_fetchAges_133 : decode cX12_fetchAges 133 = .ok (.if_icmp .ge 7, 3) := by decide +kernel
theorem dX12_fetchAges_136 : decode cX12_fetchAges 136 = .ok (.iconst 1, 1) := by decide +kernel
theorem dX12_fetchAges_137 : decode cX12_fetchAges 137 = .ok (.goto 4, 3) := by decide +kernel
theorem dX12_fetchAges_140 : decode cX12_fetchAges 140 = .ok (.iconst 0, 1) := by decide +kernel
theorem dX12_fetchAges_141 : decode cX12_fetchAges 141 = .ok (.iadd, 1) := by decide +kernel
theorem dX12_fetchAges_142 : decode cX12_fetchAges 142 = .ok (.iastore, 1) := by decide +kernel
theorem dX12_fetchAges_143 : decode cX12_fetchAges 143 = .ok (.iload 6, 2) := by decide +kernel
theorem dX12_fetchAges_145 : decode cX12_fetchAges 145 = .ok (.aload_n 0, 1) := by decide +kernel
theorem dX12_fetchAges_146 : decode cX12_fetchAges 146 = .ok (.getfield 7, 3) := by decide +kernel
theorem dX12_fetchAges_149 : decode cX12_fetchAges 149 = .ok (.iconst 0, 1) := by decide +kernel
theorem dX12_fetchAges_150 : decode cX12_fetchAges 150 = .ok (.iaload, 1) := by decide +kernel
theorem dX12_fetchAges_151 : decode cX12_fetchAges 151 = .ok (.iadd, 1) := by decide +kernel
theorem dX12_fetchAges_152 : decode cX12_fetchAges 152 = .ok (.istore 6, 2) := by decide +kernel
theorem dX12_fetchAges_154 : decode cX12_fetchAges 154 = .ok (.goto (-107), 3) := by decide +kernel
theorem dX12_fetchAges_157 : decode cX12_fetchAges 157 = .ok (.aload_n 0, 1) := by decide +kernel
theorem dX12_fetchAges_158 : decode cX12_fetchAges 158 = .ok (.getfield 58, 3) := by decide +kernel
theorem dX12_fetchAges_161 : decode cX12_fetchAges 161 = .ok (.iload_n 1, 1) := by decide +kernel
theorem dX12_fetchAges_162 : decode cX12_fetchAges 162 = .ok (.iconst 0, 1) := by decide +kernel
theorem dX12_fetchAges_163 : decode cX12_fetchAges 163 = .ok (.iastore, 1) := by decide +kernel
theorem dX12_fetchAges_164 : decode cX12_fetchAges 164 = .ok (.aload_n 0, 1) := by decide +kernel
theorem dX12_fetchAges_165 : decode cX12_fetchAges 165 = .ok (.getfield 58, 3) := by decide +kernel
theorem dX12_fetchAges_168 : decode cX12_fetchAges 168 = .ok (.bipush 8, 2) := by decide +kernel
theorem dX12_fetchAges_170 : decode cX12_fetchAges 170 = .ok (.iload_n 1, 1) := by decide +kernel
theorem dX12_fetchAges_171 : decode cX12_fetchAges 171 = .ok (.iadd, 1) := by decide +kernel
theorem dX12_fetchAges_172 : decode cX12_fetchAges 172 = .ok (.iconst 0, 1) := by decide +kernel
theorem dX12_fetchAges_173 : decode cX12_fetchAges 173 = .ok (.iastore, 1) := by decide +kernel
theorem dX12_fetchAges_174 : decode cX12_fetchAges 174 = .ok (.return_, 1) := by decide +kernel
theorem dX12_joinAges_0 : decode cX12_joinAges 0 = .ok (.iconst 0, 1) := by decide +kernel
theorem dX12_joinAges_1 : decode cX12_joinAges 1 = .ok (.istore_n 2, 1) := by decide +kernel
theorem dX12_joinAges_2 : decode cX12_joinAges 2 = .ok (.iconst 0, 1) := by decide +kernel
theorem dX12_joinAges_3 : decode cX12_joinAges 3 = .ok (.istore_n 3, 1) := by decide +kernel
theorem dX12_joinAges_4 : decode cX12_joinAges 4 = .ok (.iload_n 3, 1) := by decide +kernel
theorem dX12_joinAges_5 : decode cX12_joinAges 5 = .ok (.bipush 16, 2) := by decide +kernel
theorem dX12_joinAges_7 : decode cX12_joinAges 7 = .ok (.if_icmp .ge 108, 3) := by decide +kernel
theorem dX12_joinAges_10 : decode cX12_joinAges 10 = .ok (.aload_n 0, 1) := by decide +kernel
theorem dX12_joinAges_11 : decode cX12_joinAges 11 = .ok (.getfield 61, 3) := by decide +kernel
theorem dX12_joinAges_14 : decode cX12_joinAges 14 = .ok (.bipush 16, 2) := by decide +kernel
theorem dX12_joinAges_16 : decode cX12_joinAges 16 = .ok (.iload_n 1, 1) := by decide +kernel
theorem dX12_joinAges_17 : decode cX12_joinAges 17 = .ok (.imul, 1) := by decide +kernel
theorem dX12_joinAges_18 : decode cX12_joinAges 18 = .ok (.iload_n 3, 1) := by decide +kernel
theorem dX12_joinAges_19 : decode cX12_joinAges 19 = .ok (.iadd, 1) := by decide +kernel
theorem dX12_joinAges_20 : decode cX12_joinAges 20 = .ok (.iaload, 1) := by decide +kernel
theorem dX12_joinAges_21 : decode cX12_joinAges 21 = .ok (.istore 4, 2) := by decide +kernel
theorem dX12_joinAges_23 : decode cX12_joinAges 23 = .ok (.iload_n 3, 1) := by decide +kernel
theorem dX12_joinAges_24 : decode cX12_joinAges 24 = .ok (.bipush 8, 2) := by decide +kernel
theorem dX12_joinAges_26 : decode cX12_joinAges 26 = .ok (.if_icmp .ge 22, 3) := by decide +kernel
theorem dX12_joinAges_29 : decode cX12_joinAges 29 = .ok (.iload 4, 2) := by decide +kernel
theorem dX12_joinAges_31 : decode cX12_joinAges 31 = .ok (.aload_n 0, 1) := by decide +kernel
theorem dX12_joinAges_32 : decode cX12_joinAges 32 = .ok (.getfield 58, 3) := by decide +kernel
theorem dX12_joinAges_35 : decode cX12_joinAges 35 = .ok (.iload_n 3, 1) := by decide +kernel
theorem dX12_joinAges_36 : decode cX12_joinAges 36 = .ok (.iaload, 1) := by decide +kernel
theorem dX12_joinAges_37 : decode cX12_joinAges 37 = .ok (.if_icmp .le 7, 3) := by decide +kernel
theorem dX12_joinAges_40 : decode cX12_joinAges 40 = .ok (.iconst 1, 1) := by decide +kernel
theorem dX12_joinAges_41 : decode cX12_joinAges 41 = .ok (.goto 23, 3) := by decide +kernel
theorem dX12_joinAges_44 : decode cX12_joinAges 44 = .ok (.iconst 0, 1) := by decide +kernel
theorem dX12_joinAges_45 : decode cX12_joinAges 45 = .ok (.goto 19, 3) := by decide +kernel
theorem dX12_joinAges_48 : decode cX12_joinAges 48 = .ok (.iload 4, 2) := by decide +kernel
theorem dX12_joinAges_50 : decode cX12_joinAges 50 = .ok (.aload_n 0, 1) := by decide +kernel
theorem dX12_joinAges_51 : decode cX12_joinAges 51 = .ok (.getfield 58, 3) := by decide +kernel
theorem dX12_joinAges_54 : decode cX12_joinAges 54 = .ok (.iload_n 3, 1) := by decide +kernel
theorem dX12_joinAges_55 : decode cX12_joinAges 55 = .ok (.iaload, 1) := by decide +kernel
theorem dX12_joinAges_56 : decode cX12_joinAges 56 = .ok (.if_icmp .ge 7, 3) := by decide +kernel
theorem dX12_joinAges_59 : decode cX12_joinAges 59 = .ok (.iconst 1, 1) := by decide +kernel
theorem dX12_joinAges_60 : decode cX12_joinAges 60 = .ok (.goto 4, 3) := by decide +kernel
theorem dX12_joinAges_63 : decode cX12_joinAges 63 = .ok (.iconst 0, 1) := by decide +kernel
theorem dX12_joinAges_64 : decode cX12_joinAges 64 = .ok (.istore 5, 2) := by decide +kernel
theorem dX12_joinAges_66 : decode cX12_joinAges 66 = .ok (.aload_n 0, 1) := by decide +kernel
theorem dX12_joinAges_67 : decode cX12_joinAges 67 = .ok (.getfield 58, 3) := by decide +kernel
theorem dX12_joinAges_70 : decode cX12_joinAges 70 = .ok (.iload_n 3, 1) := by decide +kernel
theorem dX12_joinAges_71 : decode cX12_joinAges 71 = .ok (.iload 5, 2) := by decide +kernel
theorem dX12_joinAges_73 : decode cX12_joinAges 73 = .ok (.ifCond .eq 8, 3) := by decide +kernel
theorem dX12_joinAges_76 : decode cX12_joinAges 76 = .ok (.iload 4, 2) := by decide +kernel
theorem dX12_joinAges_78 : decode cX12_joinAges 78 = .ok (.goto 9, 3) := by decide +kernel
theorem dX12_joinAges_81 : decode cX12_joinAges 81 = .ok (.aload_n 0, 1) := by decide +kernel
theorem dX12_joinAges_82 : decode cX12_joinAges 82 = .ok (.getfield 58, 3) := by decide +kernel
theorem dX12_joinAges_85 : decode cX12_joinAges 85 = .ok (.iload_n 3, 1) := by decide +kernel
theorem dX12_joinAges_86 : decode cX12_joinAges 86 = .ok (.iaload, 1) := by decide +kernel
theorem dX12_joinAges_87 : decode cX12_joinAges 87 = .ok (.iastore, 1) := by decide +kernel
theorem dX12_joinAges_88 : decode cX12_joinAges 88 = .ok (.iload_n 2, 1) := by decide +kernel
theorem dX12_joinAges_89 : decode cX12_joinAges 89 = .ok (.ifCond .ne 14, 3) := by decide +kernel
theorem dX12_joinAges_92 : decode cX12_joinAges 92 = .ok (.aload_n 0, 1) := by decide +kernel
theorem dX12_joinAges_93 : decode cX12_joinAges 93 = .ok (.getfield 58, 3) := by decide +kernel
theorem dX12_joinAges_96 : decode cX12_joinAges 96 = .ok (.iload_n 3, 1) := by decide +kernel
theorem dX12_joinAges_97 : decode cX12_joinAges 97 = .ok (.iaload, 1) := by decide +kernel
theorem dX12_joinAges_98 : decode cX12_joinAges 98 = .ok (.iload 4, 2) := by decide +kernel
theorem dX12_joinAges_100 : decode cX12_joinAges 100 = .ok (.if_icmp .eq 7, 3) := by decide +kernel
theorem dX12_joinAges_103 : decode cX12_joinAges 103 = .ok (.iconst 1, 1) := by decide +kernel
theorem dX12_joinAges_104 : decode cX12_joinAges 104 = .ok (.goto 4, 3) := by decide +kernel
theorem dX12_joinAges_107 : decode cX12_joinAges 107 = .ok (.iconst 0, 1) := by decide +kernel
theorem dX12_joinAges_108 : decode cX12_joinAges 108 = .ok (.istore_n 2, 1) := by decide +kernel
theorem dX12_joinAges_109 : decode cX12_joinAges 109 = .ok (.iinc 3 1, 3) := by decide +kernel
theorem dX12_joinAges_112 : decode cX12_joinAges 112 = .ok (.goto (-108), 3) := by decide +kernel
theorem dX12_joinAges_115 : decode cX12_joinAges 115 = .ok (.iload_n 2, 1) := by decide +kernel
theorem dX12_joinAges_116 : decode cX12_joinAges 116 = .ok (.ireturn, 1) := by decide +kernel
theorem dX12_keepAges_0 : decode cX12_keepAges 0 = .ok (.iconst 0, 1) := by decide +kernel
theorem dX12_keepAges_1 : decode cX12_keepAges 1 = .ok (.istore_n 2, 1) := by decide +kernel
theorem dX12_keepAges_2 : decode cX12_keepAges 2 = .ok (.iload_n 2, 1) := by decide +kernel
theorem dX12_keepAges_3 : decode cX12_keepAges 3 = .ok (.bipush 16, 2) := by decide +kernel
theorem dX12_keepAges_5 : decode cX12_keepAges 5 = .ok (.if_icmp .ge 26, 3) := by decide +kernel
theorem dX12_keepAges_8 : decode cX12_keepAges 8 = .ok (.aload_n 0, 1) := by decide +kernel
theorem dX12_keepAges_9 : decode cX12_keepAges 9 = .ok (.getfield 61, 3) := by decide +kernel
theorem dX12_keepAges_12 : decode cX12_keepAges 12 = .ok (.bipush 16, 2) := by decide +kernel
theorem dX12_keepAges_14 : decode cX12_keepAges 14 = .ok (.iload_n 1, 1) := by decide +kernel
theorem dX12_keepAges_15 : decode cX12_keepAges 15 = .ok (.imul, 1) := by decide +kernel
theorem dX12_keepAges_16 : decode cX12_keepAges 16 = .ok (.iload_n 2, 1) := by decide +kernel
theorem dX12_keepAges_17 : decode cX12_keepAges 17 = .ok (.iadd, 1) := by decide +kernel
theorem dX12_keepAges_18 : decode cX12_keepAges 18 = .ok (.aload_n 0, 1) := by decide +kernel
theorem dX12_keepAges_19 : decode cX12_keepAges 19 = .ok (.getfield 58, 3) := by decide +kernel
theorem dX12_keepAges_22 : decode cX12_keepAges 22 = .ok (.iload_n 2, 1) := by decide +kernel
theorem dX12_keepAges_23 : decode cX12_keepAges 23 = .ok (.iaload, 1) := by decide +kernel
theorem dX12_keepAges_24 : decode cX12_keepAges 24 = .ok (.iastore, 1) := by decide +kernel
theorem dX12_keepAges_25 : decode cX12_keepAges 25 = .ok (.iinc 2 1, 3) := by decide +kernel
theorem dX12_keepAges_28 : decode cX12_keepAges 28 = .ok (.goto (-26), 3) := by decide +kernel
theorem dX12_keepAges_31 : decode cX12_keepAges 31 = .ok (.return_, 1) := by decide +kernel
theorem dX12_swapAges_0 : decode cX12_swapAges 0 = .ok (.iconst 0, 1) := by decide +kernel
theorem dX12_swapAges_1 : decode cX12_swapAges 1 = .ok (.istore_n 2, 1) := by decide +kernel
theorem dX12_swapAges_2 : decode cX12_swapAges 2 = .ok (.iload_n 2, 1) := by decide +kernel
theorem dX12_swapAges_3 : decode cX12_swapAges 3 = .ok (.bipush 16, 2) := by decide +kernel
theorem dX12_swapAges_5 : decode cX12_swapAges 5 = .ok (.if_icmp .ge 45, 3) := by decide +kernel
theorem dX12_swapAges_8 : decode cX12_swapAges 8 = .ok (.aload_n 0, 1) := by decide +kernel
theorem dX12_swapAges_9 : decode cX12_swapAges 9 = .ok (.getfield 61, 3) := by decide +kernel
theorem dX12_swapAges_12 : decode cX12_swapAges 12 = .ok (.bipush 16, 2) := by decide +kernel
theorem dX12_swapAges_14 : decode cX12_swapAges 14 = .ok (.iload_n 1, 1) := by decide +kernel
theorem dX12_swapAges_15 : decode cX12_swapAges 15 = .ok (.imul, 1) := by decide +kernel
theorem dX12_swapAges_16 : decode cX12_swapAges 16 = .ok (.iload_n 2, 1) := by decide +kernel
theorem dX12_swapAges_17 : decode cX12_swapAges 17 = .ok (.iadd, 1) := by decide +kernel
theorem dX12_swapAges_18 : decode cX12_swapAges 18 = .ok (.iaload, 1) := by decide +kernel
theorem dX12_swapAges_19 : decode cX12_swapAges 19 = .ok (.istore_n 3, 1) := by decide +kernel
theorem dX12_swapAges_20 : decode cX12_swapAges 20 = .ok (.aload_n 0, 1) := by decide +kernel
theorem dX12_swapAges_21 : decode cX12_swapAges 21 = .ok (.getfield 61, 3) := by decide +kernel
theorem dX12_swapAges_24 : decode cX12_swapAges 24 = .ok (.bipush 16, 2) := by decide +kernel
theorem dX12_swapAges_26 : decode cX12_swapAges 26 = .ok (.iload_n 1, 1) := by decide +kernel
theorem dX12_swapAges_27 : decode cX12_swapAges 27 = .ok (.imul, 1) := by decide +kernel
theorem dX12_swapAges_28 : decode cX12_swapAges 28 = .ok (.iload_n 2, 1) := by decide +kernel
theorem dX12_swapAges_29 : decode cX12_swapAges 29 = .ok (.iadd, 1) := by decide +kernel
theorem dX12_swapAges_30 : decode cX12_swapAges 30 = .ok (.aload_n 0, 1) := by decide +kernel
theorem dX12_swapAges_31 : decode cX12_swapAges 31 = .ok (.getfield 58, 3) := by decide +kernel
theorem dX12_swapAges_34 : decode cX12_swapAges 34 = .ok (.iload_n 2, 1) := by decide +kernel
theorem dX12_swapAges_35 : decode cX12_swapAges 35 = .ok (.iaload, 1) := by decide +kernel
theorem dX12_swapAges_36 : decode cX12_swapAges 36 = .ok (.iastore, 1) := by decide +kernel
theorem dX12_swapAges_37 : decode cX12_swapAges 37 = .ok (.aload_n 0, 1) := by decide +kernel
theorem dX12_swapAges_38 : decode cX12_swapAges 38 = .ok (.getfield 58, 3) := by decide +kernel
theorem dX12_swapAges_41 : decode cX12_swapAges 41 = .ok (.iload_n 2, 1) := by decide +kernel
theorem dX12_swapAges_42 : decode cX12_swapAges 42 = .ok (.iload_n 3, 1) := by decide +kernel
theorem dX12_swapAges_43 : decode cX12_swapAges 43 = .ok (.iastore, 1) := by decide +kernel
theorem dX12_swapAges_44 : decode cX12_swapAges 44 = .ok (.iinc 2 1, 3) := by decide +kernel
theorem dX12_swapAges_47 : decode cX12_swapAges 47 = .ok (.goto (-45), 3) := by decide +kernel
theorem dX12_swapAges_50 : decode cX12_swapAges 50 = .ok (.return_, 1) := by decide +kernel
theorem dX12_layAges_0 : decode cX12_layAges 0 = .ok (.iconst 0, 1) := by decide +kernel
theorem dX12_layAges_1 : decode cX12_layAges 1 = .ok (.istore_n 2, 1) := by decide +kernel
theorem dX12_layAges_2 : decode cX12_layAges 2 = .ok (.iload_n 2, 1) := by decide +kernel
theorem dX12_layAges_3 : decode cX12_layAges 3 = .ok (.bipush 8, 2) := by decide +kernel
theorem dX12_layAges_5 : decode cX12_layAges 5 = .ok (.if_icmp .ge 48, 3) := by decide +kernel
theorem dX12_layAges_8 : decode cX12_layAges 8 = .ok (.aload_n 0, 1) := by decide +kernel
theorem dX12_layAges_9 : decode cX12_layAges 9 = .ok (.iload_n 2, 1) := by decide +kernel
theorem dX12_layAges_10 : decode cX12_layAges 10 = .ok (.invokevirtual 124, 3) := by decide +kernel
theorem dX12_layAges_13 : decode cX12_layAges 13 = .ok (.ifCond .eq 7, 3) := by decide +kernel
theorem dX12_layAges_16 : decode cX12_layAges 16 = .ok (.iconst 0, 1) := by decide +kernel
theorem dX12_layAges_17 : decode cX12_layAges 17 = .ok (.goto 12, 3) := by decide +kernel
theorem dX12_layAges_20 : decode cX12_layAges 20 = .ok (.aload_n 0, 1) := by decide +kernel
theorem dX12_layAges_21 : decode cX12_layAges 21 = .ok (.aload_n 0, 1) := by decide +kernel
theorem dX12_layAges_22 : decode cX12_layAges 22 = .ok (.iload_n 2, 1) := by decide +kernel
theorem dX12_layAges_23 : decode cX12_layAges 23 = .ok (.invokevirtual 131, 3) := by decide +kernel
theorem dX12_layAges_26 : decode cX12_layAges 26 = .ok (.invokevirtual 134, 3) := by decide +kernel
theorem dX12_layAges_29 : decode cX12_layAges 29 = .ok (.istore_n 3, 1) := by decide +kernel
theorem dX12_layAges_30 : decode cX12_layAges 30 = .ok (.aload_n 0, 1) := by decide +kernel
theorem dX12_layAges_31 : decode cX12_layAges 31 = .ok (.getfield 58, 3) := by decide +kernel
theorem dX12_layAges_34 : decode cX12_layAges 34 = .ok (.iload_n 2, 1) := by decide +kernel
theorem dX12_layAges_35 : decode cX12_layAges 35 = .ok (.iload_n 3, 1) := by decide +kernel
theorem dX12_layAges_36 : decode cX12_layAges 36 = .ok (.iastore, 1) := by decide +kernel
theorem dX12_layAges_37 : decode cX12_layAges 37 = .ok (.aload_n 0, 1) := by decide +kernel
theorem dX12_layAges_38 : decode cX12_layAges 38 = .ok (.getfield 58, 3) := by decide +kernel
theorem dX12_layAges_41 : decode cX12_layAges 41 = .ok (.bipush 8, 2) := by decide +kernel
theorem dX12_layAges_43 : decode cX12_layAges 43 = .ok (.iload_n 2, 1) := by decide +kernel
theorem dX12_layAges_44 : decode cX12_layAges 44 = .ok (.iadd, 1) := by decide +kernel
theorem dX12_layAges_45 : decode cX12_layAges 45 = .ok (.iload_n 3, 1) := by decide +kernel
theorem dX12_layAges_46 : decode cX12_layAges 46 = .ok (.iastore, 1) := by decide +kernel
theorem dX12_layAges_47 : decode cX12_layAges 47 = .ok (.iinc 2 1, 3) := by decide +kernel
theorem dX12_layAges_50 : decode cX12_layAges 50 = .ok (.goto (-48), 3) := by decide +kernel
theorem dX12_layAges_53 : decode cX12_layAges 53 = .ok (.aload_n 0, 1) := by decide +kernel
theorem dX12_layAges_54 : decode cX12_layAges 54 = .ok (.iconst 0, 1) := by decide +kernel
theorem dX12_layAges_55 : decode cX12_layAges 55 = .ok (.putfield 165, 3) := by decide +kernel
theorem dX12_layAges_58 : decode cX12_layAges 58 = .ok (.bipush 30, 2) := by decide +kernel
theorem dX12_layAges_60 : decode cX12_layAges 60 = .ok (.iload_n 1, 1) := by decide +kernel
theorem dX12_layAges_61 : decode cX12_layAges 61 = .ok (.imul, 1) := by decide +kernel
theorem dX12_layAges_62 : decode cX12_layAges 62 = .ok (.istore_n 2, 1) := by decide +kernel
theorem dX12_layAges_63 : decode cX12_layAges 63 = .ok (.iload_n 2, 1) := by decide +kernel
theorem dX12_layAges_64 : decode cX12_layAges 64 = .ok (.ifCond .ge 10, 3) := by decide +kernel
theorem dX12_layAges_67 : decode cX12_layAges 67 = .ok (.aload_n 0, 1) := by decide +kernel
theorem dX12_layAges_68 : decode cX12_layAges 68 = .ok (.getfield 165, 3) := by decide +kernel
theorem dX12_layAges_71 : decode cX12_layAges 71 = .ok (.ifCond .le 273, 3) := by decide +kernel
theorem dX12_layAges_74 : decode cX12_layAges 74 = .ok (.iload_n 2, 1) := by decide +kernel
theorem dX12_layAges_75 : decode cX12_layAges 75 = .ok (.ifCond .lt 112, 3) := by decide +kernel
theorem dX12_layAges_78 : decode cX12_layAges 78 = .ok (.iload_n 2, 1) := by decide +kernel
theorem dX12_layAges_79 : decode cX12_layAges 79 = .ok (.istore_n 3, 1) := by decide +kernel
theorem dX12_layAges_80 : decode cX12_layAges 80 = .ok (.aload_n 0, 1) := by decide +kernel
theorem dX12_layAges_81 : decode cX12_layAges 81 = .ok (.getfield 19, 3) := by decide +kernel
theorem dX12_layAges_84 : decode cX12_layAges 84 = .ok (.iload_n 3, 1) := by decide +kernel
theorem dX12_layAges_85 : decode cX12_layAges 85 = .ok (.iaload, 1) := by decide +kernel
theorem dX12_layAges_86 : decode cX12_layAges 86 = .ok (.istore 4, 2) := by decide +kernel
theorem dX12_layAges_88 : decode cX12_layAges 88 = .ok (.bipush (-6), 2) := by decide +kernel
theorem dX12_layAges_90 : decode cX12_layAges 90 = .ok (.istore_n 2, 1) := by decide +kernel
theorem dX12_layAges_91 : decode cX12_layAges 91 = .ok (.iload 4, 2) := by decide +kernel
theorem dX12_layAges_93 : decode cX12_layAges 93 = .ok (.bipush 48, 2) := by decide +kernel
theorem dX12_layAges_95 : decode cX12_layAges 95 = .ok (.bipush 55, 2) := by decide +kernel
theorem dX12_layAges_97 : decode cX12_layAges 97 = .ok (.invokestatic 80, 3) := by decide +kernel
theorem dX12_layAges_100 : decode cX12_layAges 100 = .ok (.ifCond .eq 55, 3) := by decide +kernel
theorem dX12_layAges_103 : decode cX12_layAges 103 = .ok (.iconst 0, 1) := by decide +kernel
theorem dX12_layAges_104 : decode cX12_layAges 104 = .ok (.istore 5, 2) := by decide +kernel
theorem dX12_layAges_106 : decode cX12_layAges 106 = .ok (.iload 5, 2) := by decide +kernel
theorem dX12_layAges_108 : decode cX12_layAges 108 = .ok (.bipush 16, 2) := by decide +kernel
theorem dX12_layAges_110 : decode cX12_layAges 110 = .ok (.if_icmp .ge 33, 3) := by decide +kernel
theorem dX12_layAges_113 : decode cX12_layAges 113 = .ok (.aload_n 0, 1) := by decide +kernel
theorem dX12_layAges_114 : decode cX12_layAges 114 = .ok (.getfield 64, 3) := by decide +kernel
theorem dX12_layAges_117 : decode cX12_layAges 117 = .ok (.bipush 16, 2) := by decide +kernel
theorem dX12_layAges_119 : decode cX12_layAges 119 = .ok (.iload_n 3, 1) := by decide +kernel
theorem dX12_layAges_120 : decode cX12_layAges 120 = .ok (.bipush 30, 2) := by decide +kernel
theorem dX12_layAges_122 : decode cX12_layAges 122 = .ok (.iload_n 1, 1) := by decide +kernel
theorem dX12_layAges_123 : decode cX12_layAges 123 = .ok (.imul, 1) := by decide +kernel
theorem dX12_layAges_124 : decode cX12_layAges 124 = .ok (.isub, 1) := by decide +kernel
theorem dX12_layAges_125 : decode cX12_layAges 125 = .ok (.imul, 1) := by decide +kernel
theorem dX12_layAges_126 : decode cX12_layAges 126 = .ok (.iload 5, 2) := by decide +kernel
theorem dX12_layAges_128 : decode cX12_layAges 128 = .ok (.iadd, 1) := by decide +kernel
theorem dX12_layAges_129 : decode cX12_layAges 129 = .ok (.aload_n 0, 1) := by decide +kernel
theorem dX12_layAges_130 : decode cX12_layAges 130 = .ok (.getfield 58, 3) := by decide +kernel
theorem dX12_layAges_133 : decode cX12_layAges 133 = .ok (.iload 5, 2) := by decide +kernel
theorem dX12_layAges_135 : decode cX12_layAges 135 = .ok (.iaload, 1) := by decide +kernel
theorem dX12_layAges_136 : decode cX12_layAges 136 = .ok (.iastore, 1) := by decide +kernel
theorem dX12_layAges_137 : decode cX12_layAges 137 = .ok (.iinc 5 1, 3) := by decide +kernel
theorem dX12_layAges_140 : decode cX12_layAges 140 = .ok (.goto (-34), 3) := by decide +kernel
theorem dX12_layAges_143 : decode cX12_layAges 143 = .ok (.aload_n 0, 1) := by decide +kernel
theorem dX12_layAges_144 : decode cX12_layAges 144 = .ok (.iload 4, 2) := by decide +kernel
theorem dX12_layAges_146 : decode cX12_layAges 146 = .ok (.bipush 48, 2) := by decide +kernel
theorem dX12_layAges_148 : decode cX12_layAges 148 = .ok (.isub, 1) := by decide +kernel
theorem dX12_layAges_149 : decode cX12_layAges 149 = .ok (.invokevirtual 228, 3) := by decide +kernel
theorem dX12_layAges_152 : decode cX12_layAges 152 = .ok (.goto 32, 3) := by decide +kernel
theorem dX12_layAges_155 : decode cX12_layAges 155 = .ok (.iload 4, 2) := by decide +kernel
theorem dX12_layAges_157 : decode cX12_layAges 157 = .ok (.invokestatic 95, 3) := by decide +kernel
theorem dX12_layAges_160 : decode cX12_layAges 160 = .ok (.ifCond .le 24, 3) := by decide +kernel
theorem dX12_layAges_163 : decode cX12_layAges 163 = .ok (.aload_n 0, 1) := by decide +kernel
theorem dX12_layAges_164 : decode cX12_layAges 164 = .ok (.iload_n 3, 1) := by decide +kernel
theorem dX12_layAges_165 : decode cX12_layAges 165 = .ok (.iconst 0, 1) := by decide +kernel
theorem dX12_layAges_166 : decode cX12_layAges 166 = .ok (.iconst 0, 1) := by decide +kernel
theorem dX12_layAges_167 : decode cX12_layAges 167 = .ok (.invokevirtual 174, 3) := by decide +kernel
theorem dX12_layAges_170 : decode cX12_layAges 170 = .ok (.aload_n 0, 1) := by decide +kernel
theorem dX12_layAges_171 : decode cX12_layAges 171 = .ok (.aload_n 0, 1) := by decide +kernel
theorem dX12_layAges_172 : decode cX12_layAges 172 = .ok (.getfield 165, 3) := by decide +kernel
theorem dX12_layAges_175 : decode cX12_layAges 175 = .ok (.iconst 1, 1) := by decide +kernel
theorem dX12_layAges_176 : decode cX12_layAges 176 = .ok (.isub, 1) := by decide +kernel
theorem dX12_layAges_177 : decode cX12_layAges 177 = .ok (.invokevirtual 231, 3) := by decide +kernel
theorem dX12_layAges_180 : decode cX12_layAges 180 = .ok (.iload_n 3, 1) := by decide +kernel
theorem dX12_layAges_181 : decode cX12_layAges 181 = .ok (.iconst 1, 1) := by decide +kernel
theorem dX12_layAges_182 : decode cX12_layAges 182 = .ok (.iadd, 1) := by decide +kernel
theorem dX12_layAges_183 : decode cX12_layAges 183 = .ok (.istore_n 2, 1) := by decide +kernel
theorem dX12_layAges_184 : decode cX12_layAges 184 = .ok (.goto (-121), 3) := by decide +kernel
theorem dX12_layAges_187 : decode cX12_layAges 187 = .ok (.aload_n 0, 1) := by decide +kernel
theorem dX12_layAges_188 : decode cX12_layAges 188 = .ok (.getfield 165, 3) := by decide +kernel
theorem dX12_layAges_191 : decode cX12_layAges 191 = .ok (.iconst 1, 1) := by decide +kernel
theorem dX12_layAges_192 : decode cX12_layAges 192 = .ok (.isub, 1) := by decide +kernel
theorem dX12_layAges_193 : decode cX12_layAges 193 = .ok (.istore_n 3, 1) := by decide +kernel
theorem dX12_layAges_194 : decode cX12_layAges 194 = .ok (.aload_n 0, 1) := by decide +kernel
theorem dX12_layAges_195 : decode cX12_layAges 195 = .ok (.getfield 37, 3) := by decide +kernel
theorem dX12_layAges_198 : decode cX12_layAges 198 = .ok (.iload_n 3, 1) := by decide +kernel
theorem dX12_layAges_199 : decode cX12_layAges 199 = .ok (.iaload, 1) := by decide +kernel
theorem dX12_layAges_200 : decode cX12_layAges 200 = .ok (.istore 4, 2) := by decide +kernel
theorem dX12_layAges_202 : decode cX12_layAges 202 = .ok (.aload_n 0, 1) := by decide +kernel
theorem dX12_layAges_203 : decode cX12_layAges 203 = .ok (.getfield 19, 3) := by decide +kernel
theorem dX12_layAges_206 : decode cX12_layAges 206 = .ok (.iload 4, 2) := by decide +kernel
theorem dX12_layAges_208 : decode cX12_layAges 208 = .ok (.iaload, 1) := by decide +kernel
theorem dX12_layAges_209 : decode cX12_layAges 209 = .ok (.istore 5, 2) := by decide +kernel
theorem dX12_layAges_211 : decode cX12_layAges 211 = .ok (.iload 5, 2) := by decide +kernel
theorem dX12_layAges_213 : decode cX12_layAges 213 = .ok (.bipush 59, 2) := by decide +kernel
theorem dX12_layAges_215 : decode cX12_layAges 215 = .ok (.if_icmp .eq 10, 3) := by decide +kernel
theorem dX12_layAges_218 : decode cX12_layAges 218 = .ok (.iload 5, 2) := by decide +kernel
theorem dX12_layAges_220 : decode cX12_layAges 220 = .ok (.bipush 63, 2) := by decide +kernel
theorem dX12_layAges_222 : decode cX12_layAges 222 = .ok (.if_icmp .ne 7, 3) := by decide +kernel
theorem dX12_layAges_225 : decode cX12_layAges 225 = .ok (.iconst 1, 1) := by decide +kernel
theorem dX12_layAges_226 : decode cX12_layAges 226 = .ok (.goto 4, 3) := by decide +kernel
theorem dX12_layAges_229 : decode cX12_layAges 229 = .ok (.iconst 0, 1) := by decide +kernel
theorem dX12_layAges_230 : decode cX12_layAges 230 = .ok (.istore 6, 2) := by decide +kernel
theorem dX12_layAges_232 : decode cX12_layAges 232 = .ok (.iload 6, 2) := by decide +kernel
theorem dX12_layAges_234 : decode cX12_layAges 234 = .ok (.ifCond .eq 49, 3) := by decide +kernel
theorem dX12_layAges_237 : decode cX12_layAges 237 = .ok (.aload_n 0, 1) := by decide +kernel
theorem dX12_layAges_238 : decode cX12_layAges 238 = .ok (.getfield 40, 3) := by decide +kernel
theorem dX12_layAges_241 : decode cX12_layAges 241 = .ok (.iload_n 3, 1) := by decide +kernel
theorem dX12_layAges_242 : decode cX12_layAges 242 = .ok (.iaload, 1) := by decide +kernel
theorem dX12_layAges_243 : decode cX12_layAges 243 = .ok (.ifCond .ne 40, 3) := by decide +kernel
theorem dX12_layAges_246 : decode cX12_layAges 246 = .ok (.aload_n 0, 1) := by decide +kernel
theorem dX12_layAges_247 : decode cX12_layAges 247 = .ok (.getfield 40, 3) := by decide +kernel
theorem dX12_layAges_250 : decode cX12_layAges 250 = .ok (.iload_n 3, 1) := by decide +kernel
theorem dX12_layAges_251 : decode cX12_layAges 251 = .ok (.iconst 1, 1) := by decide +kernel
theorem dX12_layAges_252 : decode cX12_layAges 252 = .ok (.iastore, 1) := by decide +kernel
theorem dX12_layAges_253 : decode cX12_layAges 253 = .ok (.iload 5, 2) := by decide +kernel
theorem dX12_layAges_255 : decode cX12_layAges 255 = .ok (.bipush 63, 2) := by decide +kernel
theorem dX12_layAges_257 : decode cX12_layAges 257 = .ok (.if_icmp .ne 8, 3) := by decide +kernel
theorem dX12_layAges_260 : decode cX12_layAges 260 = .ok (.aload_n 0, 1) := by decide +kernel
theorem dX12_layAges_261 : decode cX12_layAges 261 = .ok (.iload_n 3, 1) := by decide +kernel
theorem dX12_layAges_262 : decode cX12_layAges 262 = .ok (.invokevirtual 234, 3) := by decide +kernel
theorem dX12_layAges_265 : decode cX12_layAges 265 = .ok (.iload 4, 2) := by decide +kernel
theorem dX12_layAges_267 : decode cX12_layAges 267 = .ok (.iconst 1, 1) := by decide +kernel
theorem dX12_layAges_268 : decode cX12_layAges 268 = .ok (.iadd, 1) := by decide +kernel
theorem dX12_layAges_269 : decode cX12_layAges 269 = .ok (.aload_n 0, 1) := by decide +kernel
theorem dX12_layAges_270 : decode cX12_layAges 270 = .ok (.getfield 22, 3) := by decide +kernel
theorem dX12_layAges_273 : decode cX12_layAges 273 = .ok (.iload 4, 2) := by decide +kernel
theorem dX12_layAges_275 : decode cX12_layAges 275 = .ok (.iconst 1, 1) := by decide +kernel
theorem dX12_layAges_276 : decode cX12_layAges 276 = .ok (.iadd, 1) := by decide +kernel
theorem dX12_layAges_277 : decode cX12_layAges 277 = .ok (.iaload, 1) := by decide +kernel
theorem dX12_layAges_278 : decode cX12_layAges 278 = .ok (.iadd, 1) := by decide +kernel
theorem dX12_layAges_279 : decode cX12_layAges 279 = .ok (.istore_n 2, 1) := by decide +kernel
theorem dX12_layAges_280 : decode cX12_layAges 280 = .ok (.goto 61, 3) := by decide +kernel
theorem dX12_layAges_283 : decode cX12_layAges 283 = .ok (.iload 5, 2) := by decide +kernel
theorem dX12_layAges_285 : decode cX12_layAges 285 = .ok (.bipush 59, 2) := by decide +kernel
theorem dX12_layAges_287 : decode cX12_layAges 287 = .ok (.if_icmp .eq 15, 3) := by decide +kernel
theorem dX12_layAges_290 : decode cX12_layAges 290 = .ok (.aload_n 0, 1) := by decide +kernel
theorem dX12_layAges_291 : decode cX12_layAges 291 = .ok (.iload_n 3, 1) := by decide +kernel
theorem dX12_layAges_292 : decode cX12_layAges 292 = .ok (.invokevirtual 237, 3) := by decide +kernel
theorem dX12_layAges_295 : decode cX12_layAges 295 = .ok (.ifCond .eq 7, 3) := by decide +kernel
theorem dX12_layAges_298 : decode cX12_layAges 298 = .ok (.iconst 1, 1) := by decide +kernel
theorem dX12_layAges_299 : decode cX12_layAges 299 = .ok (.goto 4, 3) := by decide +kernel
theorem dX12_layAges_302 : decode cX12_layAges 302 = .ok (.iconst 0, 1) := by decide +kernel
theorem dX12_layAges_303 : decode cX12_layAges 303 = .ok (.istore 7, 2) := by decide +kernel
theorem dX12_layAges_305 : decode cX12_layAges 305 = .ok (.iload 5, 2) := by decide +kernel
theorem dX12_layAges_307 : decode cX12_layAges 307 = .ok (.invokestatic 91, 3) := by decide +kernel
theorem dX12_layAges_310 : decode cX12_layAges 310 = .ok (.ifCond .eq 21, 3) := by decide +kernel
theorem dX12_layAges_313 : decode cX12_layAges 313 = .ok (.iload 7, 2) := by decide +kernel
theorem dX12_layAges_315 : decode cX12_layAges 315 = .ok (.ifCond .eq 16, 3) := by decide +kernel
theorem dX12_layAges_318 : decode cX12_layAges 318 = .ok (.aload_n 0, 1) := by decide +kernel
theorem dX12_layAges_319 : decode cX12_layAges 319 = .ok (.iload_n 3, 1) := by decide +kernel
theorem dX12_layAges_320 : decode cX12_layAges 320 = .ok (.invokevirtual 231, 3) := by decide +kernel
theorem dX12_layAges_323 : decode cX12_layAges 323 = .ok (.iload 4, 2) := by decide +kernel
theorem dX12_layAges_325 : decode cX12_layAges 325 = .ok (.iconst 1, 1) := by decide +kernel
theorem dX12_layAges_326 : decode cX12_layAges 326 = .ok (.iadd, 1) := by decide +kernel
theorem dX12_layAges_327 : decode cX12_layAges 327 = .ok (.istore_n 2, 1) := by decide +kernel
theorem dX12_layAges_328 : decode cX12_layAges 328 = .ok (.goto 13, 3) := by decide +kernel
theorem dX12_layAges_331 : decode cX12_layAges 331 = .ok (.aload_n 0, 1) := by decide +kernel
theorem dX12_layAges_332 : decode cX12_layAges 332 = .ok (.dup, 1) := by decide +kernel
theorem dX12_layAges_333 : decode cX12_layAges 333 = .ok (.getfield 165, 3) := by decide +kernel
theorem dX12_layAges_336 : decode cX12_layAges 336 = .ok (.iconst 1, 1) := by decide +kernel
theorem dX12_layAges_337 : decode cX12_layAges 337 = .ok (.isub, 1) := by decide +kernel
theorem dX12_layAges_338 : decode cX12_layAges 338 = .ok (.putfield 165, 3) := by decide +kernel
theorem dX12_layAges_341 : decode cX12_layAges 341 = .ok (.goto (-278), 3) := by decide +kernel
theorem dX12_layAges_344 : decode cX12_layAges 344 = .ok (.return_, 1) := by decide +kernel
theorem dX12_isFetch_0 : decode cX12_isFetch 0 = .ok (.aload_n 0, 1) := by decide +kernel
theorem dX12_isFetch_1 : decode cX12_isFetch 1 = .ok (.iload_n 1, 1) := by decide +kernel
theorem dX12_isFetch_2 : decode cX12_isFetch 2 = .ok (.iload_n 2, 1) := by decide +kernel
theorem dX12_isFetch_3 : decode cX12_isFetch 3 = .ok (.invokevirtual 110, 3) := by decide +kernel
theorem dX12_isFetch_6 : decode cX12_isFetch 6 = .ok (.ifCond .eq 28, 3) := by decide +kernel
theorem dX12_isFetch_9 : decode cX12_isFetch 9 = .ok (.aload_n 0, 1) := by decide +kernel
theorem dX12_isFetch_10 : decode cX12_isFetch 10 = .ok (.getfield 19, 3) := by decide +kernel
theorem dX12_isFetch_13 : decode cX12_isFetch 13 = .ok (.bipush 30, 2) := by decide +kernel
theorem dX12_isFetch_15 : decode cX12_isFetch 15 = .ok (.iload_n 1, 1) := by decide +kernel
theorem dX12_isFetch_16 : decode cX12_isFetch 16 = .ok (.imul, 1) := by decide +kernel
theorem dX12_isFetch_17 : decode cX12_isFetch 17 = .ok (.iload_n 2, 1) := by decide +kernel
theorem dX12_isFetch_18 : decode cX12_isFetch 18 = .ok (.iadd, 1) := by decide +kernel
theorem dX12_isFetch_19 : decode cX12_isFetch 19 = .ok (.iaload, 1) := by decide +kernel
theorem dX12_isFetch_20 : decode cX12_isFetch 20 = .ok (.bipush 48, 2) := by decide +kernel
theorem dX12_isFetch_22 : decode cX12_isFetch 22 = .ok (.bipush 55, 2) := by decide +kernel
theorem dX12_isFetch_24 : decode cX12_isFetch 24 = .ok (.invokestatic 80, 3) := by decide +kernel
theorem dX12_isFetch_27 : decode cX12_isFetch 27 = .ok (.ifCond .eq 7, 3) := by decide +kernel
theorem dX12_isFetch_30 : decode cX12_isFetch 30 = .ok (.iconst 1, 1) := by decide +kernel
theorem dX12_isFetch_31 : decode cX12_isFetch 31 = .ok (.goto 4, 3) := by decide +kernel
theorem dX12_isFetch_34 : decode cX12_isFetch 34 = .ok (.iconst 0, 1) := by decide +kernel
theorem dX12_isFetch_35 : decode cX12_isFetch 35 = .ok (.ireturn, 1) := by decide +kernel
theorem dX12_age_0 : decode cX12_age 0 = .ok (.aload_n 0, 1) := by decide +kernel
theorem dX12_age_1 : decode cX12_age 1 = .ok (.iload_n 1, 1) := by decide +kernel
theorem dX12_age_2 : decode cX12_age 2 = .ok (.iload_n 2, 1) := by decide +kernel
theorem dX12_age_3 : decode cX12_age 3 = .ok (.invokevirtual 240, 3) := by decide +kernel
theorem dX12_age_6 : decode cX12_age 6 = .ok (.ifCond .eq 14, 3) := by decide +kernel
theorem dX12_age_9 : decode cX12_age 9 = .ok (.iload 4, 2) := by decide +kernel
theorem dX12_age_11 : decode cX12_age 11 = .ok (.iconst 0, 1) := by decide +kernel
theorem dX12_age_12 : decode cX12_age 12 = .ok (.bipush 7, 2) := by decide +kernel
theorem dX12_age_14 : decode cX12_age 14 = .ok (.invokestatic 80, 3) := by decide +kernel
theorem dX12_age_17 : decode cX12_age 17 = .ok (.ifCond .ne 5, 3) := by decide +kernel
theorem dX12_age_20 : decode cX12_age 20 = .ok (.iconst (-1), 1) := by decide +kernel
theorem dX12_age_21 : decode cX12_age 21 = .ok (.ireturn, 1) := by decide +kernel
theorem dX12_age_22 : decode cX12_age 22 = .ok (.iload_n 3, 1) := by decide +kernel
theorem dX12_age_23 : decode cX12_age 23 = .ok (.iconst 0, 1) := by decide +kernel
theorem dX12_age_24 : decode cX12_age 24 = .ok (.iconst 1, 1) := by decide +kernel
theorem dX12_age_25 : decode cX12_age 25 = .ok (.invokestatic 80, 3) := by decide +kernel
theorem dX12_age_28 : decode cX12_age 28 = .ok (.ifCond .ne 6, 3) := by decide +kernel
theorem dX12_age_31 : decode cX12_age 31 = .ok (.bipush (-2), 2) := by decide +kernel
theorem dX12_age_33 : decode cX12_age 33 = .ok (.ireturn, 1) := by decide +kernel
theorem dX12_age_34 : decode cX12_age 34 = .ok (.aload_n 0, 1) := by decide +kernel
theorem dX12_age_35 : decode cX12_age 35 = .ok (.iload_n 1, 1) := by decide +kernel
theorem dX12_age_36 : decode cX12_age 36 = .ok (.invokevirtual 243, 3) := by decide +kernel
theorem dX12_age_39 : decode cX12_age 39 = .ok (.aload_n 0, 1) := by decide +kernel
theorem dX12_age_40 : decode cX12_age 40 = .ok (.getfield 64, 3) := by decide +kernel
theorem dX12_age_43 : decode cX12_age 43 = .ok (.bipush 16, 2) := by decide +kernel
theorem dX12_age_45 : decode cX12_age 45 = .ok (.iload_n 2, 1) := by decide +kernel
theorem dX12_age_46 : decode cX12_age 46 = .ok (.imul, 1) := by decide +kernel
theorem dX12_age_47 : decode cX12_age 47 = .ok (.bipush 8, 2) := by decide +kernel
theorem dX12_age_49 : decode cX12_age 49 = .ok (.iload_n 3, 1) := by decide +kernel
theorem dX12_age_50 : decode cX12_age 50 = .ok (.imul, 1) := by decide +kernel
theorem dX12_age_51 : decode cX12_age 51 = .ok (.iadd, 1) := by decide +kernel
theorem dX12_age_52 : decode cX12_age 52 = .ok (.iload 4, 2) := by decide +kernel
theorem dX12_age_54 : decode cX12_age 54 = .ok (.iadd, 1) := by decide +kernel
theorem dX12_age_55 : decode cX12_age 55 = .ok (.iaload, 1) := by decide +kernel
theorem dX12_age_56 : decode cX12_age 56 = .ok (.ireturn, 1) := by decide +kernel
theorem dX12_crowdOf_0 : decode cX12_crowdOf 0 = .ok (.iconst 0, 1) := by decide +kernel
theorem dX12_crowdOf_1 : decode cX12_crowdOf 1 = .ok (.istore_n 3, 1) := by decide +kernel
theorem dX12_crowdOf_2 : decode cX12_crowdOf 2 = .ok (.iload_n 1, 1) := by decide +kernel
theorem dX12_crowdOf_3 : decode cX12_crowdOf 3 = .ok (.istore 4, 2) := by decide +kernel
theorem dX12_crowdOf_5 : decode cX12_crowdOf 5 = .ok (.iload 4, 2) := by decide +kernel
theorem dX12_crowdOf_7 : decode cX12_crowdOf 7 = .ok (.iload_n 1, 1) := by decide +kernel
theorem dX12_crowdOf_8 : decode cX12_crowdOf 8 = .ok (.aload_n 0, 1) := by decide +kernel
theorem dX12_crowdOf_9 : decode cX12_crowdOf 9 = .ok (.getfield 22, 3) := by decide +kernel
theorem dX12_crowdOf_12 : decode cX12_crowdOf 12 = .ok (.iload_n 1, 1) := by decide +kernel
theorem dX12_crowdOf_13 : decode cX12_crowdOf 13 = .ok (.iaload, 1) := by decide +kernel
theorem dX12_crowdOf_14 : decode cX12_crowdOf 14 = .ok (.iadd, 1) := by decide +kernel
theorem dX12_crowdOf_15 : decode cX12_crowdOf 15 = .ok (.if_icmp .ge 62, 3) := by decide +kernel
theorem dX12_crowdOf_18 : decode cX12_crowdOf 18 = .ok (.aload_n 0, 1) := by decide +kernel
theorem dX12_crowdOf_19 : decode cX12_crowdOf 19 = .ok (.getfield 19, 3) := by decide +kernel
theorem dX12_crowdOf_22 : decode cX12_crowdOf 22 = .ok (.iload 4, 2) := by decide +kernel
theorem dX12_crowdOf_24 : decode cX12_crowdOf 24 = .ok (.iaload, 1) := by decide +kernel
theorem dX12_crowdOf_25 : decode cX12_crowdOf 25 = .ok (.bipush 48, 2) := by decide +kernel
theorem dX12_crowdOf_27 : decode cX12_crowdOf 27 = .ok (.isub, 1) := by decide +kernel
theorem dX12_crowdOf_28 : decode cX12_crowdOf 28 = .ok (.istore 5, 2) := by decide +kernel
theorem dX12_crowdOf_30 : decode cX12_crowdOf 30 = .ok (.iload_n 3, 1) := by decide +kernel
theorem dX12_crowdOf_31 : decode cX12_crowdOf 31 = .ok (.iload 5, 2) := by decide +kernel
theorem dX12_crowdOf_33 : decode cX12_crowdOf 33 = .ok (.iconst 0, 1) := by decide +kernel
theorem dX12_crowdOf_34 : decode cX12_crowdOf 34 = .ok (.bipush 7, 2) := by decide +kernel
theorem dX12_crowdOf_36 : decode cX12_crowdOf 36 = .ok (.invokestatic 80, 3) := by decide +kernel
theorem dX12_crowdOf_39 : decode cX12_crowdOf 39 = .ok (.ifCond .eq 29, 3) := by decide +kernel
theorem dX12_crowdOf_42 : decode cX12_crowdOf 42 = .ok (.aload_n 0, 1) := by decide +kernel
theorem dX12_crowdOf_43 : decode cX12_crowdOf 43 = .ok (.iload 5, 2) := by decide +kernel
theorem dX12_crowdOf_45 : decode cX12_crowdOf 45 = .ok (.invokevirtual 124, 3) := by decide +kernel
theorem dX12_crowdOf_48 : decode cX12_crowdOf 48 = .ok (.ifCond .ne 20, 3) := by decide +kernel
theorem dX12_crowdOf_51 : decode cX12_crowdOf 51 = .ok (.aload_n 0, 1) := by decide +kernel
theorem dX12_crowdOf_52 : decode cX12_crowdOf 52 = .ok (.iload 5, 2) := by decide +kernel
theorem dX12_crowdOf_54 : decode cX12_crowdOf 54 = .ok (.invokevirtual 131, 3) := by decide +kernel
theorem dX12_crowdOf_57 : decode cX12_crowdOf 57 = .ok (.iload_n 2, 1) := by decide +kernel
theorem dX12_crowdOf_58 : decode cX12_crowdOf 58 = .ok (.if_icmp .ne 10, 3) := by decide +kernel
theorem dX12_crowdOf_61 : decode cX12_crowdOf 61 = .ok (.iconst 1, 1) := by decide +kernel
theorem dX12_crowdOf_62 : decode cX12_crowdOf 62 = .ok (.iload 5, 2) := by decide +kernel
theorem dX12_crowdOf_64 : decode cX12_crowdOf 64 = .ok (.ishl, 1) := by decide +kernel
theorem dX12_crowdOf_65 : decode cX12_crowdOf 65 = .ok (.goto 4, 3) := by decide +kernel
theorem dX12_crowdOf_68 : decode cX12_crowdOf 68 = .ok (.iconst 0, 1) := by decide +kernel
theorem dX12_crowdOf_69 : decode cX12_crowdOf 69 = .ok (.ior, 1) := by decide +kernel
theorem dX12_crowdOf_70 : decode cX12_crowdOf 70 = .ok (.istore_n 3, 1) := by decide +kernel
theorem dX12_crowdOf_71 : decode cX12_crowdOf 71 = .ok (.iinc 4 1, 3) := by decide +kernel
theorem dX12_crowdOf_74 : decode cX12_crowdOf 74 = .ok (.goto (-69), 3) := by decide +kernel
theorem dX12_crowdOf_77 : decode cX12_crowdOf 77 = .ok (.iload_n 3, 1) := by decide +kernel
theorem dX12_crowdOf_78 : decode cX12_crowdOf 78 = .ok (.ireturn, 1) := by decide +kernel
theorem dX12_loopOf_0 : decode cX12_loopOf 0 = .ok (.bipush 30, 2) := by decide +kernel
theorem dX12_loopOf_2 : decode cX12_loopOf 2 = .ok (.iload_n 1, 1) := by decide +kernel
theorem dX12_loopOf_3 : decode cX12_loopOf 3 = .ok (.imul, 1) := by decide +kernel
theorem dX12_loopOf_4 : decode cX12_loopOf 4 = .ok (.iload_n 2, 1) := by decide +kernel
theorem dX12_loopOf_5 : decode cX12_loopOf 5 = .ok (.iadd, 1) := by decide +kernel
theorem dX12_loopOf_6 : decode cX12_loopOf 6 = .ok (.istore_n 3, 1) := by decide +kernel
theorem dX12_loopOf_7 : decode cX12_loopOf 7 = .ok (.aload_n 0, 1) := by decide +kernel
theorem dX12_loopOf_8 : decode cX12_loopOf 8 = .ok (.aload_n 0, 1) := by decide +kernel
theorem dX12_loopOf_9 : decode cX12_loopOf 9 = .ok (.getfield 19, 3) := by decide +kernel
theorem dX12_loopOf_12 : decode cX12_loopOf 12 = .ok (.iload_n 3, 1) := by decide +kernel
theorem dX12_loopOf_13 : decode cX12_loopOf 13 = .ok (.iaload, 1) := by decide +kernel
theorem dX12_loopOf_14 : decode cX12_loopOf 14 = .ok (.bipush 48, 2) := by decide +kernel
theorem dX12_loopOf_16 : decode cX12_loopOf 16 = .ok (.isub, 1) := by decide +kernel
theorem dX12_loopOf_17 : decode cX12_loopOf 17 = .ok (.invokevirtual 131, 3) := by decide +kernel
theorem dX12_loopOf_20 : decode cX12_loopOf 20 = .ok (.istore 4, 2) := by decide +kernel
theorem dX12_loopOf_22 : decode cX12_loopOf 22 = .ok (.bipush 30, 2) := by decide +kernel
theorem dX12_loopOf_24 : decode cX12_loopOf 24 = .ok (.iload_n 1, 1) := by decide +kernel
theorem dX12_loopOf_25 : decode cX12_loopOf 25 = .ok (.imul, 1) := by decide +kernel
theorem dX12_loopOf_26 : decode cX12_loopOf 26 = .ok (.istore 5, 2) := by decide +kernel
theorem dX12_loopOf_28 : decode cX12_loopOf 28 = .ok (.iload 5, 2) := by decide +kernel
theorem dX12_loopOf_30 : decode cX12_loopOf 30 = .ok (.iload_n 3, 1) := by decide +kernel
theorem dX12_loopOf_31 : decode cX12_loopOf 31 = .ok (.if_icmp .ge 59, 3) := by decide +kernel
theorem dX12_loopOf_34 : decode cX12_loopOf 34 = .ok (.aload_n 0, 1) := by decide +kernel
theorem dX12_loopOf_35 : decode cX12_loopOf 35 = .ok (.getfield 19, 3) := by decide +kernel
theorem dX12_loopOf_38 : decode cX12_loopOf 38 = .ok (.iload 5, 2) := by decide +kernel
theorem dX12_loopOf_40 : decode cX12_loopOf 40 = .ok (.iaload, 1) := by decide +kernel
theorem dX12_loopOf_41 : decode cX12_loopOf 41 = .ok (.invokestatic 91, 3) := by decide +kernel
theorem dX12_loopOf_44 : decode cX12_loopOf 44 = .ok (.ifCond .eq 40, 3) := by decide +kernel
theorem dX12_loopOf_47 : decode cX12_loopOf 47 = .ok (.iload 5, 2) := by decide +kernel
theorem dX12_loopOf_49 : decode cX12_loopOf 49 = .ok (.aload_n 0, 1) := by decide +kernel
theorem dX12_loopOf_50 : decode cX12_loopOf 50 = .ok (.getfield 22, 3) := by decide +kernel
theorem dX12_loopOf_53 : decode cX12_loopOf 53 = .ok (.iload 5, 2) := by decide +kernel
theorem dX12_loopOf_55 : decode cX12_loopOf 55 = .ok (.iaload, 1) := by decide +kernel
theorem dX12_loopOf_56 : decode cX12_loopOf 56 = .ok (.iadd, 1) := by decide +kernel
theorem dX12_loopOf_57 : decode cX12_loopOf 57 = .ok (.iload_n 3, 1) := by decide +kernel
theorem dX12_loopOf_58 : decode cX12_loopOf 58 = .ok (.if_icmp .le 26, 3) := by decide +kernel
theorem dX12_loopOf_61 : decode cX12_loopOf 61 = .ok (.aload_n 0, 1) := by decide +kernel
theorem dX12_loopOf_62 : decode cX12_loopOf 62 = .ok (.iload 5, 2) := by decide +kernel
theorem dX12_loopOf_64 : decode cX12_loopOf 64 = .ok (.iload 4, 2) := by decide +kernel
theorem dX12_loopOf_66 : decode cX12_loopOf 66 = .ok (.invokevirtual 246, 3) := by decide +kernel
theorem dX12_loopOf_69 : decode cX12_loopOf 69 = .ok (.invokestatic 249, 3) := by decide +kernel
theorem dX12_loopOf_72 : decode cX12_loopOf 72 = .ok (.aload_n 0, 1) := by decide +kernel
theorem dX12_loopOf_73 : decode cX12_loopOf 73 = .ok (.iload 4, 2) := by decide +kernel
theorem dX12_loopOf_75 : decode cX12_loopOf 75 = .ok (.invokevirtual 134, 3) := by decide +kernel
theorem dX12_loopOf_78 : decode cX12_loopOf 78 = .ok (.if_icmp .gt 6, 3) := by decide +kernel
theorem dX12_loopOf_81 : decode cX12_loopOf 81 = .ok (.iload 5, 2) := by decide +kernel
theorem dX12_loopOf_83 : decode cX12_loopOf 83 = .ok (.ireturn, 1) := by decide +kernel
theorem dX12_loopOf_84 : decode cX12_loopOf 84 = .ok (.iinc 5 1, 3) := by decide +kernel
theorem dX12_loopOf_87 : decode cX12_loopOf 87 = .ok (.goto (-59), 3) := by decide +kernel
theorem dX12_loopOf_90 : decode cX12_loopOf 90 = .ok (.bipush (-6), 2) := by decide +kernel
theorem dX12_loopOf_92 : decode cX12_loopOf 92 = .ok (.ireturn, 1) := by decide +kernel
theorem dX12_sortOf_0 : decode cX12_sortOf 0 = .ok (.aload_n 0, 1) := by decide +kernel
theorem dX12_sortOf_1 : decode cX12_sortOf 1 = .ok (.getfield 19, 3) := by decide +kernel
theorem dX12_sortOf_4 : decode cX12_sortOf 4 = .ok (.bipush 30, 2) := by decide +kernel
theorem dX12_sortOf_6 : decode cX12_sortOf 6 = .ok (.iload_n 1, 1) := by decide +kernel
theorem dX12_sortOf_7 : decode cX12_sortOf 7 = .ok (.imul, 1) := by decide +kernel
theorem dX12_sortOf_8 : decode cX12_sortOf 8 = .ok (.iload_n 2, 1) := by decide +kernel
theorem dX12_sortOf_9 : decode cX12_sortOf 9 = .ok (.iadd, 1) := by decide +kernel
theorem dX12_sortOf_10 : decode cX12_sortOf 10 = .ok (.iaload, 1) := by decide +kernel
theorem dX12_sortOf_11 : decode cX12_sortOf 11 = .ok (.bipush 48, 2) := by decide +kernel
theorem dX12_sortOf_13 : decode cX12_sortOf 13 = .ok (.isub, 1) := by decide +kernel
theorem dX12_sortOf_14 : decode cX12_sortOf 14 = .ok (.istore_n 3, 1) := by decide +kernel
theorem dX12_sortOf_15 : decode cX12_sortOf 15 = .ok (.aload_n 0, 1) := by decide +kernel
theorem dX12_sortOf_16 : decode cX12_sortOf 16 = .ok (.aload_n 0, 1) := by decide +kernel
theorem dX12_sortOf_17 : decode cX12_sortOf 17 = .ok (.iload_n 3, 1) := by decide +kernel
theorem dX12_sortOf_18 : decode cX12_sortOf 18 = .ok (.invokevirtual 131, 3) := by decide +kernel
theorem dX12_sortOf_21 : decode cX12_sortOf 21 = .ok (.invokevirtual 134, 3) := by decide +kernel
theorem dX12_sortOf_24 : decode cX12_sortOf 24 = .ok (.istore 4, 2) := by decide +kernel
theorem dX12_sortOf_26 : decode cX12_sortOf 26 = .ok (.aload_n 0, 1) := by decide +kernel
theorem dX12_sortOf_27 : decode cX12_sortOf 27 = .ok (.iload_n 3, 1) := by decide +kernel
theorem dX12_sortOf_28 : decode cX12_sortOf 28 = .ok (.invokevirtual 124, 3) := by decide +kernel
theorem dX12_sortOf_31 : decode cX12_sortOf 31 = .ok (.ifCond .ne 19, 3) := by decide +kernel
theorem dX12_sortOf_34 : decode cX12_sortOf 34 = .ok (.aload_n 0, 1) := by decide +kernel
theorem dX12_sortOf_35 : decode cX12_sortOf 35 = .ok (.getfield 64, 3) := by decide +kernel
theorem dX12_sortOf_38 : decode cX12_sortOf 38 = .ok (.bipush 16, 2) := by decide +kernel
theorem dX12_sortOf_40 : decode cX12_sortOf 40 = .ok (.iload_n 2, 1) := by decide +kernel
theorem dX12_sortOf_41 : decode cX12_sortOf 41 = .ok (.imul, 1) := by decide +kernel
theorem dX12_sortOf_42 : decode cX12_sortOf 42 = .ok (.iload_n 3, 1) := by decide +kernel
theorem dX12_sortOf_43 : decode cX12_sortOf 43 = .ok (.iadd, 1) := by decide +kernel
theorem dX12_sortOf_44 : decode cX12_sortOf 44 = .ok (.iaload, 1) := by decide +kernel
theorem dX12_sortOf_45 : decode cX12_sortOf 45 = .ok (.iload 4, 2) := by decide +kernel
theorem dX12_sortOf_47 : decode cX12_sortOf 47 = .ok (.if_icmp .ge 5, 3) := by decide +kernel
theorem dX12_sortOf_50 : decode cX12_sortOf 50 = .ok (.iconst 0, 1) := by decide +kernel
theorem dX12_sortOf_51 : decode cX12_sortOf 51 = .ok (.ireturn, 1) := by decide +kernel
theorem dX12_sortOf_52 : decode cX12_sortOf 52 = .ok (.aload_n 0, 1) := by decide +kernel
theorem dX12_sortOf_53 : decode cX12_sortOf 53 = .ok (.getfield 64, 3) := by decide +kernel
theorem dX12_sortOf_56 : decode cX12_sortOf 56 = .ok (.bipush 16, 2) := by decide +kernel
theorem dX12_sortOf_58 : decode cX12_sortOf 58 = .ok (.iload_n 2, 1) := by decide +kernel
theorem dX12_sortOf_59 : decode cX12_sortOf 59 = .ok (.imul, 1) := by decide +kernel
theorem dX12_sortOf_60 : decode cX12_sortOf 60 = .ok (.bipush 8, 2) := by decide +kernel
theorem dX12_sortOf_62 : decode cX12_sortOf 62 = .ok (.iadd, 1) := by decide +kernel
theorem dX12_sortOf_63 : decode cX12_sortOf 63 = .ok (.iload_n 3, 1) := by decide +kernel
theorem dX12_sortOf_64 : decode cX12_sortOf 64 = .ok (.iadd, 1) := by decide +kernel
theorem dX12_sortOf_65 : decode cX12_sortOf 65 = .ok (.iaload, 1) := by decide +kernel
theorem dX12_sortOf_66 : decode cX12_sortOf 66 = .ok (.iload 4, 2) := by decide +kernel
theorem dX12_sortOf_68 : decode cX12_sortOf 68 = .ok (.if_icmp .ne 7, 3) := by decide +kernel
theorem dX12_sortOf_71 : decode cX12_sortOf 71 = .ok (.iconst 1, 1) := by decide +kernel
theorem dX12_sortOf_72 : decode cX12_sortOf 72 = .ok (.goto 17, 3) := by decide +kernel
theorem dX12_sortOf_75 : decode cX12_sortOf 75 = .ok (.aload_n 0, 1) := by decide +kernel
theorem dX12_sortOf_76 : decode cX12_sortOf 76 = .ok (.iload_n 1, 1) := by decide +kernel
theorem dX12_sortOf_77 : decode cX12_sortOf 77 = .ok (.iload_n 2, 1) := by decide +kernel
theorem dX12_sortOf_78 : decode cX12_sortOf 78 = .ok (.invokevirtual 252, 3) := by decide +kernel
theorem dX12_sortOf_81 : decode cX12_sortOf 81 = .ok (.ifCond .lt 7, 3) := by decide +kernel
theorem dX12_sortOf_84 : decode cX12_sortOf 84 = .ok (.iconst 2, 1) := by decide +kernel
theorem dX12_sortOf_85 : decode cX12_sortOf 85 = .ok (.goto 4, 3) := by decide +kernel
theorem dX12_sortOf_88 : decode cX12_sortOf 88 = .ok (.iconst 3, 1) := by decide +kernel
theorem dX12_sortOf_89 : decode cX12_sortOf 89 = .ok (.ireturn, 1) := by decide +kernel
theorem dX12_sort_0 : decode cX12_sort 0 = .ok (.aload_n 0, 1) := by decide +kernel
theorem dX12_sort_1 : decode cX12_sort 1 = .ok (.iload_n 1, 1) := by decide +kernel
theorem dX12_sort_2 : decode cX12_sort 2 = .ok (.iload_n 2, 1) := by decide +kernel
theorem dX12_sort_3 : decode cX12_sort 3 = .ok (.invokevirtual 240, 3) := by decide +kernel
theorem dX12_sort_6 : decode cX12_sort 6 = .ok (.ifCond .ne 5, 3) := by decide +kernel
theorem dX12_sort_9 : decode cX12_sort 9 = .ok (.iconst (-1), 1) := by decide +kernel
theorem dX12_sort_10 : decode cX12_sort 10 = .ok (.ireturn, 1) := by decide +kernel
theorem dX12_sort_11 : decode cX12_sort 11 = .ok (.aload_n 0, 1) := by decide +kernel
theorem dX12_sort_12 : decode cX12_sort 12 = .ok (.iload_n 1, 1) := by decide +kernel
theorem dX12_sort_13 : decode cX12_sort 13 = .ok (.invokevirtual 243, 3) := by decide +kernel
theorem dX12_sort_16 : decode cX12_sort 16 = .ok (.aload_n 0, 1) := by decide +kernel
theorem dX12_sort_17 : decode cX12_sort 17 = .ok (.iload_n 1, 1) := by decide +kernel
theorem dX12_sort_18 : decode cX12_sort 18 = .ok (.iload_n 2, 1) := by decide +kernel
theorem dX12_sort_19 : decode cX12_sort 19 = .ok (.invokevirtual 255, 3) := by decide +kernel
theorem dX12_sort_22 : decode cX12_sort 22 = .ok (.ireturn, 1) := by decide +kernel
theorem dX12_bound_0 : decode cX12_bound 0 = .ok (.iload_n 1, 1) := by decide +kernel
theorem dX12_bound_1 : decode cX12_bound 1 = .ok (.invokestatic 103, 3) := by decide +kernel
theorem dX12_bound_4 : decode cX12_bound 4 = .ok (.ifCond .ne 5, 3) := by decide +kernel
theorem dX12_bound_7 : decode cX12_bound 7 = .ok (.iconst (-1), 1) := by decide +kernel
theorem dX12_bound_8 : decode cX12_bound 8 = .ok (.ireturn, 1) := by decide +kernel
theorem dX12_bound_9 : decode cX12_bound 9 = .ok (.iload_n 2, 1) := by decide +kernel
theorem dX12_bound_10 : decode cX12_bound 10 = .ok (.iconst 0, 1) := by decide +kernel
theorem dX12_bound_11 : decode cX12_bound 11 = .ok (.iconst 1, 1) := by decide +kernel
theorem dX12_bound_12 : decode cX12_bound 12 = .ok (.invokestatic 80, 3) := by decide +kernel
theorem dX12_bound_15 : decode cX12_bound 15 = .ok (.ifCond .ne 6, 3) := by decide +kernel
theorem dX12_bound_18 : decode cX12_bound 18 = .ok (.bipush (-2), 2) := by decide +kernel
theorem dX12_bound_20 : decode cX12_bound 20 = .ok (.ireturn, 1) := by decide +kernel
theorem dX12_bound_21 : decode cX12_bound 21 = .ok (.aload_n 0, 1) := by decide +kernel
theorem dX12_bound_22 : decode cX12_bound 22 = .ok (.iload_n 1, 1) := by decide +kernel
theorem dX12_bound_23 : decode cX12_bound 23 = .ok (.invokevirtual 243, 3) := by decide +kernel
theorem dX12_bound_26 : decode cX12_bound 26 = .ok (.aload_n 0, 1) := by decide +kernel
theorem dX12_bound_27 : decode cX12_bound 27 = .ok (.getfield 16, 3) := by decide +kernel
theorem dX12_bound_30 : decode cX12_bound 30 = .ok (.iload_n 1, 1) := by decide +kernel
theorem dX12_bound_31 : decode cX12_bound 31 = .ok (.iaload, 1) := by decide +kernel
theorem dX12_bound_32 : decode cX12_bound 32 = .ok (.iconst 1, 1) := by decide +kernel
theorem dX12_bound_33 : decode cX12_bound 33 = .ok (.isub, 1) := by decide +kernel
theorem dX12_bound_34 : decode cX12_bound 34 = .ok (.istore_n 3, 1) := by decide +kernel
theorem dX12_bound_35 : decode cX12_bound 35 = .ok (.iload_n 3, 1) := by decide +kernel
theorem dX12_bound_36 : decode cX12_bound 36 = .ok (.ifCond .lt 194, 3) := by decide +kernel
theorem dX12_bound_39 : decode cX12_bound 39 = .ok (.bipush 30, 2) := by decide +kernel
theorem dX12_bound_41 : decode cX12_bound 41 = .ok (.iload_n 1, 1) := by decide +kernel
theorem dX12_bound_42 : decode cX12_bound 42 = .ok (.imul, 1) := by decide +kernel
theorem dX12_bound_43 : decode cX12_bound 43 = .ok (.iload_n 3, 1) := by decide +kernel
theorem dX12_bound_44 : decode cX12_bound 44 = .ok (.iadd, 1) := by decide +kernel
theorem dX12_bound_45 : decode cX12_bound 45 = .ok (.istore 4, 2) := by decide +kernel
theorem dX12_bound_47 : decode cX12_bound 47 = .ok (.aload_n 0, 1) := by decide +kernel
theorem dX12_bound_48 : decode cX12_bound 48 = .ok (.getfield 19, 3) := by decide +kernel
theorem dX12_bound_51 : decode cX12_bound 51 = .ok (.iload 4, 2) := by decide +kernel
theorem dX12_bound_53 : decode cX12_bound 53 = .ok (.iaload, 1) := by decide +kernel
theorem dX12_bound_54 : decode cX12_bound 54 = .ok (.istore 5, 2) := by decide +kernel
theorem dX12_bound_56 : decode cX12_bound 56 = .ok (.iload 5, 2) := by decide +kernel
theorem dX12_bound_58 : decode cX12_bound 58 = .ok (.bipush 48, 2) := by decide +kernel
theorem dX12_bound_60 : decode cX12_bound 60 = .ok (.bipush 55, 2) := by decide +kernel
theorem dX12_bound_62 : decode cX12_bound 62 = .ok (.invokestatic 80, 3) := by decide +kernel
theorem dX12_bound_65 : decode cX12_bound 65 = .ok (.ifCond .eq 46, 3) := by decide +kernel
theorem dX12_bound_68 : decode cX12_bound 68 = .ok (.aload_n 0, 1) := by decide +kernel
theorem dX12_bound_69 : decode cX12_bound 69 = .ok (.iload_n 1, 1) := by decide +kernel
theorem dX12_bound_70 : decode cX12_bound 70 = .ok (.iload_n 3, 1) := by decide +kernel
theorem dX12_bound_71 : decode cX12_bound 71 = .ok (.invokevirtual 255, 3) := by decide +kernel
theorem dX12_bound_74 : decode cX12_bound 74 = .ok (.istore 6, 2) := by decide +kernel
theorem dX12_bound_76 : decode cX12_bound 76 = .ok (.aload_n 0, 1) := by decide +kernel
theorem dX12_bound_77 : decode cX12_bound 77 = .ok (.getfield 67, 3) := by decide +kernel
theorem dX12_bound_80 : decode cX12_bound 80 = .ok (.iload_n 3, 1) := by decide +kernel
theorem dX12_bound_81 : decode cX12_bound 81 = .ok (.iload 6, 2) := by decide +kernel
theorem dX12_bound_83 : decode cX12_bound 83 = .ok (.ifCond .eq 14, 3) := by decide +kernel
theorem dX12_bound_86 : decode cX12_bound 86 = .ok (.iload_n 2, 1) := by decide +kernel
theorem dX12_bound_87 : decode cX12_bound 87 = .ok (.iconst 1, 1) := by decide +kernel
theorem dX12_bound_88 : decode cX12_bound 88 = .ok (.if_icmp .ne 13, 3) := by decide +kernel
theorem dX12_bound_91 : decode cX12_bound 91 = .ok (.iload 6, 2) := by decide +kernel
theorem dX12_bound_93 : decode cX12_bound 93 = .ok (.iconst 2, 1) := by decide +kernel
theorem dX12_bound_94 : decode cX12_bound 94 = .ok (.if_icmp .ne 7, 3) := by decide +kernel
theorem dX12_bound_97 : decode cX12_bound 97 = .ok (.iconst 1, 1) := by decide +kernel
theorem dX12_bound_98 : decode cX12_bound 98 = .ok (.goto 9, 3) := by decide +kernel
theorem dX12_bound_101 : decode cX12_bound 101 = .ok (.aload_n 0, 1) := by decide +kernel
theorem dX12_bound_102 : decode cX12_bound 102 = .ok (.getfield 7, 3) := by decide +kernel
theorem dX12_bound_105 : decode cX12_bound 105 = .ok (.iconst 2, 1) := by decide +kernel
theorem dX12_bound_106 : decode cX12_bound 106 = .ok (.iaload, 1) := by decide +kernel
theorem dX12_bound_107 : decode cX12_bound 107 = .ok (.iastore, 1) := by decide +kernel
theorem dX12_bound_108 : decode cX12_bound 108 = .ok (.goto 116, 3) := by decide +kernel
theorem dX12_bound_111 : decode cX12_bound 111 = .ok (.iload 5, 2) := by decide +kernel
theorem dX12_bound_113 : decode cX12_bound 113 = .ok (.bipush 45, 2) := by decide +kernel
theorem dX12_bound_115 : decode cX12_bound 115 = .ok (.if_icmp .ne 13, 3) := by decide +kernel
theorem dX12_bound_118 : decode cX12_bound 118 = .ok (.aload_n 0, 1) := by decide +kernel
theorem dX12_bound_119 : decode cX12_bound 119 = .ok (.getfield 67, 3) := by decide +kernel
theorem dX12_bound_122 : decode cX12_bound 122 = .ok (.iload_n 3, 1) := by decide +kernel
theorem dX12_bound_123 : decode cX12_bound 123 = .ok (.iconst 0, 1) := by decide +kernel
theorem dX12_bound_124 : decode cX12_bound 124 = .ok (.iastore, 1) := by decide +kernel
theorem dX12_bound_125 : decode cX12_bound 125 = .ok (.goto 99, 3) := by decide +kernel
theorem dX12_bound_128 : decode cX12_bound 128 = .ok (.iload 5, 2) := by decide +kernel
theorem dX12_bound_130 : decode cX12_bound 130 = .ok (.invokestatic 91, 3) := by decide +kernel
theorem dX12_bound_133 : decode cX12_bound 133 = .ok (.ifCond .eq 26, 3) := by decide +kernel
theorem dX12_bound_136 : decode cX12_bound 136 = .ok (.aload_n 0, 1) := by decide +kernel
theorem dX12_bound_137 : decode cX12_bound 137 = .ok (.getfield 67, 3) := by decide +kernel
theorem dX12_bound_140 : decode cX12_bound 140 = .ok (.iload_n 3, 1) := by decide +kernel
theorem dX12_bound_141 : decode cX12_bound 141 = .ok (.iload 5, 2) := by decide +kernel
theorem dX12_bound_143 : decode cX12_bound 143 = .ok (.invokestatic 185, 3) := by decide +kernel
theorem dX12_bound_146 : decode cX12_bound 146 = .ok (.aload_n 0, 1) := by decide +kernel
theorem dX12_bound_147 : decode cX12_bound 147 = .ok (.getfield 67, 3) := by decide +kernel
theorem dX12_bound_150 : decode cX12_bound 150 = .ok (.iload_n 3, 1) := by decide +kernel
theorem dX12_bound_151 : decode cX12_bound 151 = .ok (.iconst 1, 1) := by decide +kernel
theorem dX12_bound_152 : decode cX12_bound 152 = .ok (.iadd, 1) := by decide +kernel
theorem dX12_bound_153 : decode cX12_bound 153 = .ok (.iaload, 1) := by decide +kernel
theorem dX12_bound_154 : decode cX12_bound 154 = .ok (.imul, 1) := by decide +kernel
theorem dX12_bound_155 : decode cX12_bound 155 = .ok (.iastore, 1) := by decide +kernel
theorem dX12_bound_156 : decode cX12_bound 156 = .ok (.goto 68, 3) := by decide +kernel
theorem dX12_bound_159 : decode cX12_bound 159 = .ok (.aload_n 0, 1) := by decide +kernel
theorem dX12_bound_160 : decode cX12_bound 160 = .ok (.getfield 67, 3) := by decide +kernel
theorem dX12_bound_163 : decode cX12_bound 163 = .ok (.iload_n 3, 1) := by decide +kernel
theorem dX12_bound_164 : decode cX12_bound 164 = .ok (.iconst 1, 1) := by decide +kernel
theorem dX12_bound_165 : decode cX12_bound 165 = .ok (.iadd, 1) := by decide +kernel
theorem dX12_bound_166 : decode cX12_bound 166 = .ok (.iaload, 1) := by decide +kernel
theorem dX12_bound_167 : decode cX12_bound 167 = .ok (.istore 6, 2) := by decide +kernel
theorem dX12_bound_169 : decode cX12_bound 169 = .ok (.aload_n 0, 1) := by decide +kernel
theorem dX12_bound_170 : decode cX12_bound 170 = .ok (.getfield 67, 3) := by decide +kernel
theorem dX12_bound_173 : decode cX12_bound 173 = .ok (.iload_n 3, 1) := by decide +kernel
theorem dX12_bound_174 : decode cX12_bound 174 = .ok (.iconst 1, 1) := by decide +kernel
theorem dX12_bound_175 : decode cX12_bound 175 = .ok (.iadd, 1) := by decide +kernel
theorem dX12_bound_176 : decode cX12_bound 176 = .ok (.aload_n 0, 1) := by decide +kernel
theorem dX12_bound_177 : decode cX12_bound 177 = .ok (.getfield 22, 3) := by decide +kernel
theorem dX12_bound_180 : decode cX12_bound 180 = .ok (.iload 4, 2) := by decide +kernel
theorem dX12_bound_182 : decode cX12_bound 182 = .ok (.iconst 1, 1) := by decide +kernel
theorem dX12_bound_183 : decode cX12_bound 183 = .ok (.iadd, 1) := by decide +kernel
theorem dX12_bound_184 : decode cX12_bound 184 = .ok (.iaload, 1) := by decide +kernel
theorem dX12_bound_185 : decode cX12_bound 185 = .ok (.iadd, 1) := by decide +kernel
theorem dX12_bound_186 : decode cX12_bound 186 = .ok (.iaload, 1) := by decide +kernel
theorem dX12_bound_187 : decode cX12_bound 187 = .ok (.istore 7, 2) := by decide +kernel
theorem dX12_bound_189 : decode cX12_bound 189 = .ok (.aload_n 0, 1) := by decide +kernel
theorem dX12_bound_190 : decode cX12_bound 190 = .ok (.getfield 67, 3) := by decide +kernel
theorem dX12_bound_193 : decode cX12_bound 193 = .ok (.iload_n 3, 1) := by decide +kernel
theorem dX12_bound_194 : decode cX12_bound 194 = .ok (.iload 5, 2) := by decide +kernel
theorem dX12_bound_196 : decode cX12_bound 196 = .ok (.bipush 59, 2) := by decide +kernel
theorem dX12_bound_198 : decode cX12_bound 198 = .ok (.if_icmp .ne 11, 3) := by decide +kernel
theorem dX12_bound_201 : decode cX12_bound 201 = .ok (.iload 6, 2) := by decide +kernel
theorem dX12_bound_203 : decode cX12_bound 203 = .ok (.iload 7, 2) := by decide +kernel
theorem dX12_bound_205 : decode cX12_bound 205 = .ok (.iadd, 1) := by decide +kernel
theorem dX12_bound_206 : decode cX12_bound 206 = .ok (.goto 17, 3) := by decide +kernel
theorem dX12_bound_209 : decode cX12_bound 209 = .ok (.iload 6, 2) := by decide +kernel
theorem dX12_bound_211 : decode cX12_bound 211 = .ok (.iload 7, 2) := by decide +kernel
theorem dX12_bound_213 : decode cX12_bound 213 = .ok (.if_icmp .le 8, 3) := by decide +kernel
theorem dX12_bound_216 : decode cX12_bound 216 = .ok (.iload 6, 2) := by decide +kernel
theorem dX12_bound_218 : decode cX12_bound 218 = .ok (.goto 5, 3) := by decide +kernel
theorem dX12_bound_221 : decode cX12_bound 221 = .ok (.iload 7, 2) := by decide +kernel
theorem dX12_bound_223 : decode cX12_bound 223 = .ok (.iastore, 1) := by decide +kernel
theorem dX12_bound_224 : decode cX12_bound 224 = .ok (.iinc 3 (-1), 3) := by decide +kernel
theorem dX12_bound_227 : decode cX12_bound 227 = .ok (.goto (-192), 3) := by decide +kernel
theorem dX12_bound_230 : decode cX12_bound 230 = .ok (.aload_n 0, 1) := by decide +kernel
theorem dX12_bound_231 : decode cX12_bound 231 = .ok (.getfield 67, 3) := by decide +kernel
theorem dX12_bound_234 : decode cX12_bound 234 = .ok (.iconst 0, 1) := by decide +kernel
theorem dX12_bound_235 : decode cX12_bound 235 = .ok (.iaload, 1) := by decide +kernel
theorem dX12_bound_236 : decode cX12_bound 236 = .ok (.istore_n 3, 1) := by decide +kernel
theorem dX12_bound_237 : decode cX12_bound 237 = .ok (.iconst 0, 1) := by decide +kernel
theorem dX12_bound_238 : decode cX12_bound 238 = .ok (.istore 4, 2) := by decide +kernel
theorem dX12_bound_240 : decode cX12_bound 240 = .ok (.iload 4, 2) := by decide +kernel
theorem dX12_bound_242 : decode cX12_bound 242 = .ok (.aload_n 0, 1) := by decide +kernel
theorem dX12_bound_243 : decode cX12_bound 243 = .ok (.getfield 16, 3) := by decide +kernel
theorem dX12_bound_246 : decode cX12_bound 246 = .ok (.iload_n 1, 1) := by decide +kernel
theorem dX12_bound_247 : decode cX12_bound 247 = .ok (.iaload, 1) := by decide +kernel
theorem dX12_bound_248 : decode cX12_bound 248 = .ok (.if_icmp .ge 62, 3) := by decide +kernel
theorem dX12_bound_251 : decode cX12_bound 251 = .ok (.iload_n 2, 1) := by decide +kernel
theorem dX12_bound_252 : decode cX12_bound 252 = .ok (.iconst 1, 1) := by decide +kernel
theorem dX12_bound_253 : decode cX12_bound 253 = .ok (.if_icmp .ne 57, 3) := by decide +kernel
theorem dX12_bound_256 : decode cX12_bound 256 = .ok (.aload_n 0, 1) := by decide +kernel
theorem dX12_bound_257 : decode cX12_bound 257 = .ok (.getfield 19, 3) := by decide +kernel
theorem dX12_bound_260 : decode cX12_bound 260 = .ok (.bipush 30, 2) := by decide +kernel
theorem dX12_bound_262 : decode cX12_bound 262 = .ok (.iload_n 1, 1) := by decide +kernel
theorem dX12_bound_263 : decode cX12_bound 263 = .ok (.imul, 1) := by decide +kernel
theorem dX12_bound_264 : decode cX12_bound 264 = .ok (.iload 4, 2) := by decide +kernel
theorem dX12_bound_266 : decode cX12_bound 266 = .ok (.iadd, 1) := by decide +kernel
theorem dX12_bound_267 : decode cX12_bound 267 = .ok (.iaload, 1) := by decide +kernel
theorem dX12_bound_268 : decode cX12_bound 268 = .ok (.invokestatic 91, 3) := by decide +kernel
theorem dX12_bound_271 : decode cX12_bound 271 = .ok (.ifCond .eq 33, 3) := by decide +kernel
theorem dX12_bound_274 : decode cX12_bound 274 = .ok (.iload_n 3, 1) := by decide +kernel
theorem dX12_bound_275 : decode cX12_bound 275 = .ok (.aload_n 0, 1) := by decide +kernel
theorem dX12_bound_276 : decode cX12_bound 276 = .ok (.getfield 7, 3) := by decide +kernel
theorem dX12_bound_279 : decode cX12_bound 279 = .ok (.iconst 2, 1) := by decide +kernel
theorem dX12_bound_280 : decode cX12_bound 280 = .ok (.iaload, 1) := by decide +kernel
theorem dX12_bound_281 : decode cX12_bound 281 = .ok (.iconst 1, 1) := by decide +kernel
theorem dX12_bound_282 : decode cX12_bound 282 = .ok (.isub, 1) := by decide +kernel
theorem dX12_bound_283 : decode cX12_bound 283 = .ok (.aload_n 0, 1) := by decide +kernel
theorem dX12_bound_284 : decode cX12_bound 284 = .ok (.iload_n 1, 1) := by decide +kernel
theorem dX12_bound_285 : decode cX12_bound 285 = .ok (.iload 4, 2) := by decide +kernel
theorem dX12_bound_287 : decode cX12_bound 287 = .ok (.invokevirtual 258, 3) := by decide +kernel
theorem dX12_bound_290 : decode cX12_bound 290 = .ok (.invokestatic 249, 3) := by decide +kernel
theorem dX12_bound_293 : decode cX12_bound 293 = .ok (.imul, 1) := by decide +kernel
theorem dX12_bound_294 : decode cX12_bound 294 = .ok (.aload_n 0, 1) := by decide +kernel
theorem dX12_bound_295 : decode cX12_bound 295 = .ok (.iload_n 1, 1) := by decide +kernel
theorem dX12_bound_296 : decode cX12_bound 296 = .ok (.iload 4, 2) := by decide +kernel
theorem dX12_bound_298 : decode cX12_bound 298 = .ok (.invokevirtual 261, 3) := by decide +kernel
theorem dX12_bound_301 : decode cX12_bound 301 = .ok (.imul, 1) := by decide +kernel
theorem dX12_bound_302 : decode cX12_bound 302 = .ok (.iadd, 1) := by decide +kernel
theorem dX12_bound_303 : decode cX12_bound 303 = .ok (.istore_n 3, 1) := by decide +kernel
theorem dX12_bound_304 : decode cX12_bound 304 = .ok (.iinc 4 1, 3) := by decide +kernel
theorem dX12_bound_307 : decode cX12_bound 307 = .ok (.goto (-67), 3) := by decide +kernel
theorem dX12_bound_310 : decode cX12_bound 310 = .ok (.iload_n 3, 1) := by decide +kernel
theorem dX12_bound_311 : decode cX12_bound 311 = .ok (.ireturn, 1) := by decide +kernel
theorem dX12_onceIn_0 : decode cX12_onceIn 0 = .ok (.iconst 0, 1) := by decide +kernel
theorem dX12_onceIn_1 : decode cX12_onceIn 1 = .ok (.istore_n 3, 1) := by decide +kernel
theorem dX12_onceIn_2 : decode cX12_onceIn 2 = .ok (.iload_n 2, 1) := by decide +kernel
theorem dX12_onceIn_3 : decode cX12_onceIn 3 = .ok (.iconst 1, 1) := by decide +kernel
theorem dX12_onceIn_4 : decode cX12_onceIn 4 = .ok (.iadd, 1) := by decide +kernel
theorem dX12_onceIn_5 : decode cX12_onceIn 5 = .ok (.istore 4, 2) := by decide +kernel
theorem dX12_onceIn_7 : decode cX12_onceIn 7 = .ok (.iload 4, 2) := by decide +kernel
theorem dX12_onceIn_9 : decode cX12_onceIn 9 = .ok (.aload_n 0, 1) := by decide +kernel
theorem dX12_onceIn_10 : decode cX12_onceIn 10 = .ok (.getfield 16, 3) := by decide +kernel
theorem dX12_onceIn_13 : decode cX12_onceIn 13 = .ok (.iload_n 1, 1) := by decide +kernel
theorem dX12_onceIn_14 : decode cX12_onceIn 14 = .ok (.iaload, 1) := by decide +kernel
theorem dX12_onceIn_15 : decode cX12_onceIn 15 = .ok (.if_icmp .ge 66, 3) := by decide +kernel
theorem dX12_onceIn_18 : decode cX12_onceIn 18 = .ok (.aload_n 0, 1) := by decide +kernel
theorem dX12_onceIn_19 : decode cX12_onceIn 19 = .ok (.iload_n 1, 1) := by decide +kernel
theorem dX12_onceIn_20 : decode cX12_onceIn 20 = .ok (.iload 4, 2) := by decide +kernel
theorem dX12_onceIn_22 : decode cX12_onceIn 22 = .ok (.invokevirtual 240, 3) := by decide +kernel
theorem dX12_onceIn_25 : decode cX12_onceIn 25 = .ok (.ifCond .eq 50, 3) := by decide +kernel
theorem dX12_onceIn_28 : decode cX12_onceIn 28 = .ok (.aload_n 0, 1) := by decide +kernel
theorem dX12_onceIn_29 : decode cX12_onceIn 29 = .ok (.iload_n 1, 1) := by decide +kernel
theorem dX12_onceIn_30 : decode cX12_onceIn 30 = .ok (.iload 4, 2) := by decide +kernel
theorem dX12_onceIn_32 : decode cX12_onceIn 32 = .ok (.invokevirtual 255, 3) := by decide +kernel
theorem dX12_onceIn_35 : decode cX12_onceIn 35 = .ok (.iconst 2, 1) := by decide +kernel
theorem dX12_onceIn_36 : decode cX12_onceIn 36 = .ok (.if_icmp .ne 39, 3) := by decide +kernel
theorem dX12_onceIn_39 : decode cX12_onceIn 39 = .ok (.aload_n 0, 1) := by decide +kernel
theorem dX12_onceIn_40 : decode cX12_onceIn 40 = .ok (.iload_n 1, 1) := by decide +kernel
theorem dX12_onceIn_41 : decode cX12_onceIn 41 = .ok (.iload 4, 2) := by decide +kernel
theorem dX12_onceIn_43 : decode cX12_onceIn 43 = .ok (.invokevirtual 252, 3) := by decide +kernel
theorem dX12_onceIn_46 : decode cX12_onceIn 46 = .ok (.bipush 30, 2) := by decide +kernel
theorem dX12_onceIn_48 : decode cX12_onceIn 48 = .ok (.iload_n 1, 1) := by decide +kernel
theorem dX12_onceIn_49 : decode cX12_onceIn 49 = .ok (.imul, 1) := by decide +kernel
theorem dX12_onceIn_50 : decode cX12_onceIn 50 = .ok (.iload_n 2, 1) := by decide +kernel
theorem dX12_onceIn_51 : decode cX12_onceIn 51 = .ok (.iadd, 1) := by decide +kernel
theorem dX12_onceIn_52 : decode cX12_onceIn 52 = .ok (.if_icmp .ne 23, 3) := by decide +kernel
theorem dX12_onceIn_55 : decode cX12_onceIn 55 = .ok (.iload_n 3, 1) := by decide +kernel
theorem dX12_onceIn_56 : decode cX12_onceIn 56 = .ok (.iconst 1, 1) := by decide +kernel
theorem dX12_onceIn_57 : decode cX12_onceIn 57 = .ok (.aload_n 0, 1) := by decide +kernel
theorem dX12_onceIn_58 : decode cX12_onceIn 58 = .ok (.getfield 19, 3) := by decide +kernel
theorem dX12_onceIn_61 : decode cX12_onceIn 61 = .ok (.bipush 30, 2) := by decide +kernel
theorem dX12_onceIn_63 : decode cX12_onceIn 63 = .ok (.iload_n 1, 1) := by decide +kernel
theorem dX12_onceIn_64 : decode cX12_onceIn 64 = .ok (.imul, 1) := by decide +kernel
theorem dX12_onceIn_65 : decode cX12_onceIn 65 = .ok (.iload 4, 2) := by decide +kernel
theorem dX12_onceIn_67 : decode cX12_onceIn 67 = .ok (.iadd, 1) := by decide +kernel
theorem dX12_onceIn_68 : decode cX12_onceIn 68 = .ok (.iaload, 1) := by decide +kernel
theorem dX12_onceIn_69 : decode cX12_onceIn 69 = .ok (.bipush 48, 2) := by decide +kernel
theorem dX12_onceIn_71 : decode cX12_onceIn 71 = .ok (.isub, 1) := by decide +kernel
theorem dX12_onceIn_72 : decode cX12_onceIn 72 = .ok (.ishl, 1) := by decide +kernel
theorem dX12_onceIn_73 : decode cX12_onceIn 73 = .ok (.ior, 1) := by decide +kernel
theorem dX12_onceIn_74 : decode cX12_onceIn 74 = .ok (.istore_n 3, 1) := by decide +kernel
theorem dX12_onceIn_75 : decode cX12_onceIn 75 = .ok (.iinc 4 1, 3) := by decide +kernel
theorem dX12_onceIn_78 : decode cX12_onceIn 78 = .ok (.goto (-71), 3) := by decide +kernel
theorem dX12_onceIn_81 : decode cX12_onceIn 81 = .ok (.iload_n 3, 1) := by decide +kernel
theorem dX12_onceIn_82 : decode cX12_onceIn 82 = .ok (.ireturn, 1) := by decide +kernel
theorem dX12_comesTo_0 : decode cX12_comesTo 0 = .ok (.iconst 1, 1) := by decide +kernel
theorem dX12_comesTo_1 : decode cX12_comesTo 1 = .ok (.istore_n 3, 1) := by decide +kernel
theorem dX12_comesTo_2 : decode cX12_comesTo 2 = .ok (.iconst 0, 1) := by decide +kernel
theorem dX12_comesTo_3 : decode cX12_comesTo 3 = .ok (.istore 4, 2) := by decide +kernel
theorem dX12_comesTo_5 : decode cX12_comesTo 5 = .ok (.iload 4, 2) := by decide +kernel
theorem dX12_comesTo_7 : decode cX12_comesTo 7 = .ok (.iload_n 2, 1) := by decide +kernel
theorem dX12_comesTo_8 : decode cX12_comesTo 8 = .ok (.if_icmp .ge 62, 3) := by decide +kernel
theorem dX12_comesTo_11 : decode cX12_comesTo 11 = .ok (.bipush 30, 2) := by decide +kernel
theorem dX12_comesTo_13 : decode cX12_comesTo 13 = .ok (.iload_n 1, 1) := by decide +kernel
theorem dX12_comesTo_14 : decode cX12_comesTo 14 = .ok (.imul, 1) := by decide +kernel
theorem dX12_comesTo_15 : decode cX12_comesTo 15 = .ok (.iload 4, 2) := by decide +kernel
theorem dX12_comesTo_17 : decode cX12_comesTo 17 = .ok (.iadd, 1) := by decide +kernel
theorem dX12_comesTo_18 : decode cX12_comesTo 18 = .ok (.istore 5, 2) := by decide +kernel
theorem dX12_comesTo_20 : decode cX12_comesTo 20 = .ok (.iload_n 3, 1) := by decide +kernel
theorem dX12_comesTo_21 : decode cX12_comesTo 21 = .ok (.aload_n 0, 1) := by decide +kernel
theorem dX12_comesTo_22 : decode cX12_comesTo 22 = .ok (.getfield 19, 3) := by decide +kernel
theorem dX12_comesTo_25 : decode cX12_comesTo 25 = .ok (.iload 5, 2) := by decide +kernel
theorem dX12_comesTo_27 : decode cX12_comesTo 27 = .ok (.iaload, 1) := by decide +kernel
theorem dX12_comesTo_28 : decode cX12_comesTo 28 = .ok (.invokestatic 91, 3) := by decide +kernel
theorem dX12_comesTo_31 : decode cX12_comesTo 31 = .ok (.ifCond .eq 30, 3) := by decide +kernel
theorem dX12_comesTo_34 : decode cX12_comesTo 34 = .ok (.iload 4, 2) := by decide +kernel
theorem dX12_comesTo_36 : decode cX12_comesTo 36 = .ok (.aload_n 0, 1) := by decide +kernel
theorem dX12_comesTo_37 : decode cX12_comesTo 37 = .ok (.getfield 22, 3) := by decide +kernel
theorem dX12_comesTo_40 : decode cX12_comesTo 40 = .ok (.iload 5, 2) := by decide +kernel
theorem dX12_comesTo_42 : decode cX12_comesTo 42 = .ok (.iaload, 1) := by decide +kernel
theorem dX12_comesTo_43 : decode cX12_comesTo 43 = .ok (.iadd, 1) := by decide +kernel
theorem dX12_comesTo_44 : decode cX12_comesTo 44 = .ok (.iload_n 2, 1) := by decide +kernel
theorem dX12_comesTo_45 : decode cX12_comesTo 45 = .ok (.if_icmp .le 16, 3) := by decide +kernel
theorem dX12_comesTo_48 : decode cX12_comesTo 48 = .ok (.aload_n 0, 1) := by decide +kernel
theorem dX12_comesTo_49 : decode cX12_comesTo 49 = .ok (.getfield 19, 3) := by decide +kernel
theorem dX12_comesTo_52 : decode cX12_comesTo 52 = .ok (.iload 5, 2) := by decide +kernel
theorem dX12_comesTo_54 : decode cX12_comesTo 54 = .ok (.iaload, 1) := by decide +kernel
theorem dX12_comesTo_55 : decode cX12_comesTo 55 = .ok (.invokestatic 185, 3) := by decide +kernel
theorem dX12_comesTo_58 : decode cX12_comesTo 58 = .ok (.goto 4, 3) := by decide +kernel
theorem dX12_comesTo_61 : decode cX12_comesTo 61 = .ok (.iconst 1, 1) := by decide +kernel
theorem dX12_comesTo_62 : decode cX12_comesTo 62 = .ok (.imul, 1) := by decide +kernel
theorem dX12_comesTo_63 : decode cX12_comesTo 63 = .ok (.istore_n 3, 1) := by decide +kernel
theorem dX12_comesTo_64 : decode cX12_comesTo 64 = .ok (.iinc 4 1, 3) := by decide +kernel
theorem dX12_comesTo_67 : decode cX12_comesTo 67 = .ok (.goto (-62), 3) := by decide +kernel
theorem dX12_comesTo_70 : decode cX12_comesTo 70 = .ok (.iload_n 3, 1) := by decide +kernel
theorem dX12_comesTo_71 : decode cX12_comesTo 71 = .ok (.ireturn, 1) := by decide +kernel
theorem dX12_fast_0 : decode cX12_fast 0 = .ok (.iload_n 1, 1) := by decide +kernel
theorem dX12_fast_1 : decode cX12_fast 1 = .ok (.invokestatic 103, 3) := by decide +kernel
theorem dX12_fast_4 : decode cX12_fast 4 = .ok (.ifCond .ne 5, 3) := by decide +kernel
theorem dX12_fast_7 : decode cX12_fast 7 = .ok (.iconst (-1), 1) := by decide +kernel
theorem dX12_fast_8 : decode cX12_fast 8 = .ok (.ireturn, 1) := by decide +kernel
theorem dX12_fast_9 : decode cX12_fast 9 = .ok (.iload_n 2, 1) := by decide +kernel
theorem dX12_fast_10 : decode cX12_fast 10 = .ok (.iconst 0, 1) := by decide +kernel
theorem dX12_fast_11 : decode cX12_fast 11 = .ok (.iconst 1, 1) := by decide +kernel
theorem dX12_fast_12 : decode cX12_fast 12 = .ok (.invokestatic 80, 3) := by decide +kernel
theorem dX12_fast_15 : decode cX12_fast 15 = .ok (.ifCond .ne 6, 3) := by decide +kernel
theorem dX12_fast_18 : decode cX12_fast 18 = .ok (.bipush (-2), 2) := by decide +kernel
theorem dX12_fast_20 : decode cX12_fast 20 = .ok (.ireturn, 1) := by decide +kernel
theorem dX12_fast_21 : decode cX12_fast 21 = .ok (.aload_n 0, 1) := by decide +kernel
theorem dX12_fast_22 : decode cX12_fast 22 = .ok (.getfield 7, 3) := by decide +kernel
theorem dX12_fast_25 : decode cX12_fast 25 = .ok (.iconst 3, 1) := by decide +kernel
theorem dX12_fast_26 : decode cX12_fast 26 = .ok (.iaload, 1) := by decide +kernel
theorem dX12_fast_27 : decode cX12_fast 27 = .ok (.istore_n 3, 1) := by decide +kernel
theorem dX12_fast_28 : decode cX12_fast 28 = .ok (.bipush (-6), 2) := by decide +kernel
theorem dX12_fast_30 : decode cX12_fast 30 = .ok (.istore 4, 2) := by decide +kernel
theorem dX12_fast_32 : decode cX12_fast 32 = .ok (.iconst 0, 1) := by decide +kernel
theorem dX12_fast_33 : decode cX12_fast 33 = .ok (.istore 5, 2) := by decide +kernel
theorem dX12_fast_35 : decode cX12_fast 35 = .ok (.iconst 0, 1) := by decide +kernel
theorem dX12_fast_36 : decode cX12_fast 36 = .ok (.istore 6, 2) := by decide +kernel
theorem dX12_fast_38 : decode cX12_fast 38 = .ok (.iload 6, 2) := by decide +kernel
theorem dX12_fast_40 : decode cX12_fast 40 = .ok (.sipush 256, 3) := by decide +kernel
theorem dX12_fast_43 : decode cX12_fast 43 = .ok (.if_icmp .ge 85, 3) := by decide +kernel
theorem dX12_fast_46 : decode cX12_fast 46 = .ok (.aload_n 0, 1) := by decide +kernel
theorem dX12_fast_47 : decode cX12_fast 47 = .ok (.aload_n 0, 1) := by decide +kernel
theorem dX12_fast_48 : decode cX12_fast 48 = .ok (.getfield 7, 3) := by decide +kernel
theorem dX12_fast_51 : decode cX12_fast 51 = .ok (.iconst 0, 1) := by decide +kernel
theorem dX12_fast_52 : decode cX12_fast 52 = .ok (.iaload, 1) := by decide +kernel
theorem dX12_fast_53 : decode cX12_fast 53 = .ok (.aload_n 0, 1) := by decide +kernel
theorem dX12_fast_54 : decode cX12_fast 54 = .ok (.getfield 7, 3) := by decide +kernel
theorem dX12_fast_57 : decode cX12_fast 57 = .ok (.iconst 1, 1) := by decide +kernel
theorem dX12_fast_58 : decode cX12_fast 58 = .ok (.iaload, 1) := by decide +kernel
theorem dX12_fast_59 : decode cX12_fast 59 = .ok (.iload 6, 2) := by decide +kernel
theorem dX12_fast_61 : decode cX12_fast 61 = .ok (.invokevirtual 84, 3) := by decide +kernel
theorem dX12_fast_64 : decode cX12_fast 64 = .ok (.ifCond .eq 58, 3) := by decide +kernel
theorem dX12_fast_67 : decode cX12_fast 67 = .ok (.aload_n 0, 1) := by decide +kernel
theorem dX12_fast_68 : decode cX12_fast 68 = .ok (.getfield 7, 3) := by decide +kernel
theorem dX12_fast_71 : decode cX12_fast 71 = .ok (.iconst 3, 1) := by decide +kernel
theorem dX12_fast_72 : decode cX12_fast 72 = .ok (.iload 6, 2) := by decide +kernel
theorem dX12_fast_74 : decode cX12_fast 74 = .ok (.iastore, 1) := by decide +kernel
theorem dX12_fast_75 : decode cX12_fast 75 = .ok (.aload_n 0, 1) := by decide +kernel
theorem dX12_fast_76 : decode cX12_fast 76 = .ok (.iload_n 1, 1) := by decide +kernel
theorem dX12_fast_77 : decode cX12_fast 77 = .ok (.invokevirtual 222, 3) := by decide +kernel
theorem dX12_fast_80 : decode cX12_fast 80 = .ok (.istore 7, 2) := by decide +kernel
theorem dX12_fast_82 : decode cX12_fast 82 = .ok (.iload 4, 2) := by decide +kernel
theorem dX12_fast_84 : decode cX12_fast 84 = .ok (.ifCond .lt 30, 3) := by decide +kernel
theorem dX12_fast_87 : decode cX12_fast 87 = .ok (.iload 7, 2) := by decide +kernel
theorem dX12_fast_89 : decode cX12_fast 89 = .ok (.iload 5, 2) := by decide +kernel
theorem dX12_fast_91 : decode cX12_fast 91 = .ok (.if_icmp .lt 23, 3) := by decide +kernel
theorem dX12_fast_94 : decode cX12_fast 94 = .ok (.iload 7, 2) := by decide +kernel
theorem dX12_fast_96 : decode cX12_fast 96 = .ok (.iload 5, 2) := by decide +kernel
theorem dX12_fast_98 : decode cX12_fast 98 = .ok (.if_icmp .ne 24, 3) := by decide +kernel
theorem dX12_fast_101 : decode cX12_fast 101 = .ok (.iload 6, 2) := by decide +kernel
theorem dX12_fast_103 : decode cX12_fast 103 = .ok (.invokestatic 249, 3) := by decide +kernel
theorem dX12_fast_106 : decode cX12_fast 106 = .ok (.iload 4, 2) := by decide +kernel
theorem dX12_fast_108 : decode cX12_fast 108 = .ok (.invokestatic 249, 3) := by decide +kernel
theorem dX12_fast_111 : decode cX12_fast 111 = .ok (.if_icmp .ge 11, 3) := by decide +kernel
theorem dX12_fast_114 : decode cX12_fast 114 = .ok (.iload 6, 2) := by decide +kernel
theorem dX12_fast_116 : decode cX12_fast 116 = .ok (.istore 4, 2) := by decide +kernel
theorem dX12_fast_118 : decode cX12_fast 118 = .ok (.iload 7, 2) := by decide +kernel
theorem dX12_fast_120 : decode cX12_fast 120 = .ok (.istore 5, 2) := by decide +kernel
theorem dX12_fast_122 : decode cX12_fast 122 = .ok (.iinc 6 1, 3) := by decide +kernel
theorem dX12_fast_125 : decode cX12_fast 125 = .ok (.goto (-87), 3) := by decide +kernel
theorem dX12_fast_128 : decode cX12_fast 128 = .ok (.aload_n 0, 1) := by decide +kernel
theorem dX12_fast_129 : decode cX12_fast 129 = .ok (.getfield 7, 3) := by decide +kernel
theorem dX12_fast_132 : decode cX12_fast 132 = .ok (.iconst 3, 1) := by decide +kernel
theorem dX12_fast_133 : decode cX12_fast 133 = .ok (.iload_n 3, 1) := by decide +kernel
theorem dX12_fast_134 : decode cX12_fast 134 = .ok (.iastore, 1) := by decide +kernel
theorem dX12_fast_135 : decode cX12_fast 135 = .ok (.iload_n 2, 1) := by decide +kernel
theorem dX12_fast_136 : decode cX12_fast 136 = .ok (.ifCond .ne 8, 3) := by decide +kernel
theorem dX12_fast_139 : decode cX12_fast 139 = .ok (.iload 4, 2) := by decide +kernel
theorem dX12_fast_141 : decode cX12_fast 141 = .ok (.goto 5, 3) := by decide +kernel
theorem dX12_fast_144 : decode cX12_fast 144 = .ok (.iload 5, 2) := by decide +kernel
theorem dX12_fast_146 : decode cX12_fast 146 = .ok (.ireturn, 1) := by decide +kernel
theorem dX12_crowd0_0 : decode cX12_crowd0 0 = .ok (.iconst 0, 1) := by decide +kernel
theorem dX12_crowd0_1 : decode cX12_crowd0 1 = .ok (.istore_n 2, 1) := by decide +kernel
theorem dX12_crowd0_2 : decode cX12_crowd0 2 = .ok (.iconst 0, 1) := by decide +kernel
theorem dX12_crowd0_3 : decode cX12_crowd0 3 = .ok (.istore_n 3, 1) := by decide +kernel
theorem dX12_crowd0_4 : decode cX12_crowd0 4 = .ok (.iload_n 3, 1) := by decide +kernel
theorem dX12_crowd0_5 : decode cX12_crowd0 5 = .ok (.aload_n 0, 1) := by decide +kernel
theorem dX12_crowd0_6 : decode cX12_crowd0 6 = .ok (.getfield 16, 3) := by decide +kernel
theorem dX12_crowd0_9 : decode cX12_crowd0 9 = .ok (.iload_n 1, 1) := by decide +kernel
theorem dX12_crowd0_10 : decode cX12_crowd0 10 = .ok (.iaload, 1) := by decide +kernel
theorem dX12_crowd0_11 : decode cX12_crowd0 11 = .ok (.if_icmp .ge 47, 3) := by decide +kernel
theorem dX12_crowd0_14 : decode cX12_crowd0 14 = .ok (.aload_n 0, 1) := by decide +kernel
theorem dX12_crowd0_15 : decode cX12_crowd0 15 = .ok (.getfield 19, 3) := by decide +kernel
theorem dX12_crowd0_18 : decode cX12_crowd0 18 = .ok (.bipush 30, 2) := by decide +kernel
theorem dX12_crowd0_20 : decode cX12_crowd0 20 = .ok (.iload_n 1, 1) := by decide +kernel
theorem dX12_crowd0_21 : decode cX12_crowd0 21 = .ok (.imul, 1) := by decide +kernel
theorem dX12_crowd0_22 : decode cX12_crowd0 22 = .ok (.iload_n 3, 1) := by decide +kernel
theorem dX12_crowd0_23 : decode cX12_crowd0 23 = .ok (.iadd, 1) := by decide +kernel
theorem dX12_crowd0_24 : decode cX12_crowd0 24 = .ok (.iaload, 1) := by decide +kernel
theorem dX12_crowd0_25 : decode cX12_crowd0 25 = .ok (.bipush 48, 2) := by decide +kernel
theorem dX12_crowd0_27 : decode cX12_crowd0 27 = .ok (.isub, 1) := by decide +kernel
theorem dX12_crowd0_28 : decode cX12_crowd0 28 = .ok (.istore 4, 2) := by decide +kernel
theorem dX12_crowd0_30 : decode cX12_crowd0 30 = .ok (.iload_n 2, 1) := by decide +kernel
theorem dX12_crowd0_31 : decode cX12_crowd0 31 = .ok (.iload 4, 2) := by decide +kernel
theorem dX12_crowd0_33 : decode cX12_crowd0 33 = .ok (.iconst 0, 1) := by decide +kernel
theorem dX12_crowd0_34 : decode cX12_crowd0 34 = .ok (.bipush 7, 2) := by decide +kernel
theorem dX12_crowd0_36 : decode cX12_crowd0 36 = .ok (.invokestatic 80, 3) := by decide +kernel
theorem dX12_crowd0_39 : decode cX12_crowd0 39 = .ok (.ifCond .eq 10, 3) := by decide +kernel
theorem dX12_crowd0_42 : decode cX12_crowd0 42 = .ok (.iconst 1, 1) := by decide +kernel
theorem dX12_crowd0_43 : decode cX12_crowd0 43 = .ok (.iload 4, 2) := by decide +kernel
theorem dX12_crowd0_45 : decode cX12_crowd0 45 = .ok (.ishl, 1) := by decide +kernel
theorem dX12_crowd0_46 : decode cX12_crowd0 46 = .ok (.goto 4, 3) := by decide +kernel
theorem dX12_crowd0_49 : decode cX12_crowd0 49 = .ok (.iconst 0, 1) := by decide +kernel
theorem dX12_crowd0_50 : decode cX12_crowd0 50 = .ok (.ior, 1) := by decide +kernel
theorem dX12_crowd0_51 : decode cX12_crowd0 51 = .ok (.istore_n 2, 1) := by decide +kernel
theorem dX12_crowd0_52 : decode cX12_crowd0 52 = .ok (.iinc 3 1, 3) := by decide +kernel
theorem dX12_crowd0_55 : decode cX12_crowd0 55 = .ok (.goto (-51), 3) := by decide +kernel
theorem dX12_crowd0_58 : decode cX12_crowd0 58 = .ok (.iload_n 2, 1) := by decide +kernel
theorem dX12_crowd0_59 : decode cX12_crowd0 59 = .ok (.ireturn, 1) := by decide +kernel
theorem dX12_crowd_0 : decode cX12_crowd 0 = .ok (.iload_n 1, 1) := by decide +kernel
theorem dX12_crowd_1 : decode cX12_crowd 1 = .ok (.invokestatic 103, 3) := by decide +kernel
theorem dX12_crowd_4 : decode cX12_crowd 4 = .ok (.ifCond .eq 11, 3) := by decide +kernel
theorem dX12_crowd_7 : decode cX12_crowd 7 = .ok (.aload_n 0, 1) := by decide +kernel
theorem dX12_crowd_8 : decode cX12_crowd 8 = .ok (.iload_n 1, 1) := by decide +kernel
theorem dX12_crowd_9 : decode cX12_crowd 9 = .ok (.invokevirtual 264, 3) := by decide +kernel
theorem dX12_crowd_12 : decode cX12_crowd 12 = .ok (.goto 4, 3) := by decide +kernel
theorem dX12_crowd_15 : decode cX12_crowd 15 = .ok (.iconst (-1), 1) := by decide +kernel
theorem dX12_crowd_16 : decode cX12_crowd 16 = .ok (.ireturn, 1) := by decide +kernel
theorem dX12_period_0 : decode cX12_period 0 = .ok (.iload_n 1, 1) := by decide +kernel
theorem dX12_period_1 : decode cX12_period 1 = .ok (.invokestatic 103, 3) := by decide +kernel
theorem dX12_period_4 : decode cX12_period 4 = .ok (.ifCond .ne 5, 3) := by decide +kernel
theorem dX12_period_7 : decode cX12_period 7 = .ok (.iconst (-1), 1) := by decide +kernel
theorem dX12_period_8 : decode cX12_period 8 = .ok (.ireturn, 1) := by decide +kernel
theorem dX12_period_9 : decode cX12_period 9 = .ok (.iload_n 2, 1) := by decide +kernel
theorem dX12_period_10 : decode cX12_period 10 = .ok (.iconst 0, 1) := by decide +kernel
theorem dX12_period_11 : decode cX12_period 11 = .ok (.sipush 9999, 3) := by decide +kernel
theorem dX12_period_14 : decode cX12_period 14 = .ok (.invokestatic 80, 3) := by decide +kernel
theorem dX12_period_17 : decode cX12_period 17 = .ok (.ifCond .ne 6, 3) := by decide +kernel
theorem dX12_period_20 : decode cX12_period 20 = .ok (.bipush (-2), 2) := by decide +kernel
theorem dX12_period_22 : decode cX12_period 22 = .ok (.ireturn, 1) := by decide +kernel
theorem dX12_period_23 : decode cX12_period 23 = .ok (.aload_n 0, 1) := by decide +kernel
theorem dX12_period_24 : decode cX12_period 24 = .ok (.getfield 25, 3) := by decide +kernel
theorem dX12_period_27 : decode cX12_period 27 = .ok (.iload_n 1, 1) := by decide +kernel
theorem dX12_period_28 : decode cX12_period 28 = .ok (.iaload, 1) := by decide +kernel
theorem dX12_period_29 : decode cX12_period 29 = .ok (.istore_n 3, 1) := by decide +kernel
theorem dX12_period_30 : decode cX12_period 30 = .ok (.aload_n 0, 1) := by decide +kernel
theorem dX12_period_31 : decode cX12_period 31 = .ok (.getfield 25, 3) := by decide +kernel
theorem dX12_period_34 : decode cX12_period 34 = .ok (.iload_n 1, 1) := by decide +kernel
theorem dX12_period_35 : decode cX12_period 35 = .ok (.iload_n 2, 1) := by decide +kernel
theorem dX12_period_36 : decode cX12_period 36 = .ok (.iastore, 1) := by decide +kernel
theorem dX12_period_37 : decode cX12_period 37 = .ok (.iload_n 3, 1) := by decide +kernel
theorem dX12_period_38 : decode cX12_period 38 = .ok (.ireturn, 1) := by decide +kernel
theorem dX12_breaksOf_0 : decode cX12_breaksOf 0 = .ok (.aload_n 0, 1) := by decide +kernel
theorem dX12_breaksOf_1 : decode cX12_breaksOf 1 = .ok (.iload_n 1, 1) := by decide +kernel
theorem dX12_breaksOf_2 : decode cX12_breaksOf 2 = .ok (.invokevirtual 264, 3) := by decide +kernel
theorem dX12_breaksOf_5 : decode cX12_breaksOf 5 = .ok (.aload_n 0, 1) := by decide +kernel
theorem dX12_breaksOf_6 : decode cX12_breaksOf 6 = .ok (.getfield 7, 3) := by decide +kernel
theorem dX12_breaksOf_9 : decode cX12_breaksOf 9 = .ok (.iconst 3, 1) := by decide +kernel
theorem dX12_breaksOf_10 : decode cX12_breaksOf 10 = .ok (.iaload, 1) := by decide +kernel
theorem dX12_breaksOf_11 : decode cX12_breaksOf 11 = .ok (.iconst (-1), 1) := by decide +kernel
theorem dX12_breaksOf_12 : decode cX12_breaksOf 12 = .ok (.ixor, 1) := by decide +kernel
theorem dX12_breaksOf_13 : decode cX12_breaksOf 13 = .ok (.iand, 1) := by decide +kernel
theorem dX12_breaksOf_14 : decode cX12_breaksOf 14 = .ok (.istore_n 3, 1) := by decide +kernel
theorem dX12_breaksOf_15 : decode cX12_breaksOf 15 = .ok (.aload_n 0, 1) := by decide +kernel
theorem dX12_breaksOf_16 : decode cX12_breaksOf 16 = .ok (.iload_n 2, 1) := by decide +kernel
theorem dX12_breaksOf_17 : decode cX12_breaksOf 17 = .ok (.invokevirtual 264, 3) := by decide +kernel
theorem dX12_breaksOf_20 : decode cX12_breaksOf 20 = .ok (.aload_n 0, 1) := by decide +kernel
theorem dX12_breaksOf_21 : decode cX12_breaksOf 21 = .ok (.getfield 7, 3) := by decide +kernel
theorem dX12_breaksOf_24 : decode cX12_breaksOf 24 = .ok (.iconst 3, 1) := by decide +kernel
theorem dX12_breaksOf_25 : decode cX12_breaksOf 25 = .ok (.iaload, 1) := by decide +kernel
theorem dX12_breaksOf_26 : decode cX12_breaksOf 26 = .ok (.iconst (-1), 1) := by decide +kernel
theorem dX12_breaksOf_27 : decode cX12_breaksOf 27 = .ok (.ixor, 1) := by decide +kernel
theorem dX12_breaksOf_28 : decode cX12_breaksOf 28 = .ok (.iand, 1) := by decide +kernel
theorem dX12_breaksOf_29 : decode cX12_breaksOf 29 = .ok (.istore 4, 2) := by decide +kernel
theorem dX12_breaksOf_31 : decode cX12_breaksOf 31 = .ok (.iconst 0, 1) := by decide +kernel
theorem dX12_breaksOf_32 : decode cX12_breaksOf 32 = .ok (.istore 5, 2) := by decide +kernel
theorem dX12_breaksOf_34 : decode cX12_breaksOf 34 = .ok (.iconst 0, 1) := by decide +kernel
theorem dX12_breaksOf_35 : decode cX12_breaksOf 35 = .ok (.istore 6, 2) := by decide +kernel
theorem dX12_breaksOf_37 : decode cX12_breaksOf 37 = .ok (.iload 6, 2) := by decide +kernel
theorem dX12_breaksOf_39 : decode cX12_breaksOf 39 = .ok (.bipush 8, 2) := by decide +kernel
theorem dX12_breaksOf_41 : decode cX12_breaksOf 41 = .ok (.if_icmp .ge 91, 3) := by decide +kernel
theorem dX12_breaksOf_44 : decode cX12_breaksOf 44 = .ok (.iconst 0, 1) := by decide +kernel
theorem dX12_breaksOf_45 : decode cX12_breaksOf 45 = .ok (.istore 7, 2) := by decide +kernel
theorem dX12_breaksOf_47 : decode cX12_breaksOf 47 = .ok (.iconst 0, 1) := by decide +kernel
theorem dX12_breaksOf_48 : decode cX12_breaksOf 48 = .ok (.istore 8, 2) := by decide +kernel
theorem dX12_breaksOf_50 : decode cX12_breaksOf 50 = .ok (.iload 8, 2) := by decide +kernel
theorem dX12_breaksOf_52 : decode cX12_breaksOf 52 = .ok (.bipush 8, 2) := by decide +kernel
theorem dX12_breaksOf_54 : decode cX12_breaksOf 54 = .ok (.if_icmp .ge 46, 3) := by decide +kernel
theorem dX12_breaksOf_57 : decode cX12_breaksOf 57 = .ok (.iload 7, 2) := by decide +kernel
theorem dX12_breaksOf_59 : decode cX12_breaksOf 59 = .ok (.ifCond .ne 28, 3) := by decide +kernel
theorem dX12_breaksOf_62 : decode cX12_breaksOf 62 = .ok (.iload_n 3, 1) := by decide +kernel
theorem dX12_breaksOf_63 : decode cX12_breaksOf 63 = .ok (.iload 8, 2) := by decide +kernel
theorem dX12_breaksOf_65 : decode cX12_breaksOf 65 = .ok (.ishr, 1) := by decide +kernel
theorem dX12_breaksOf_66 : decode cX12_breaksOf 66 = .ok (.iconst 1, 1) := by decide +kernel
theorem dX12_breaksOf_67 : decode cX12_breaksOf 67 = .ok (.iand, 1) := by decide +kernel
theorem dX12_breaksOf_68 : decode cX12_breaksOf 68 = .ok (.iconst 1, 1) := by decide +kernel
theorem dX12_breaksOf_69 : decode cX12_breaksOf 69 = .ok (.if_icmp .ne 22, 3) := by decide +kernel
theorem dX12_breaksOf_72 : decode cX12_breaksOf 72 = .ok (.aload_n 0, 1) := by decide +kernel
theorem dX12_breaksOf_73 : decode cX12_breaksOf 73 = .ok (.iload 8, 2) := by decide +kernel
theorem dX12_breaksOf_75 : decode cX12_breaksOf 75 = .ok (.invokevirtual 131, 3) := by decide +kernel
theorem dX12_breaksOf_78 : decode cX12_breaksOf 78 = .ok (.aload_n 0, 1) := by decide +kernel
theorem dX12_breaksOf_79 : decode cX12_breaksOf 79 = .ok (.iload 6, 2) := by decide +kernel
theorem dX12_breaksOf_81 : decode cX12_breaksOf 81 = .ok (.invokevirtual 131, 3) := by decide +kernel
theorem dX12_breaksOf_84 : decode cX12_breaksOf 84 = .ok (.if_icmp .ne 7, 3) := by decide +kernel
theorem dX12_breaksOf_87 : decode cX12_breaksOf 87 = .ok (.iconst 1, 1) := by decide +kernel
theorem dX12_breaksOf_88 : decode cX12_breaksOf 88 = .ok (.goto 4, 3) := by decide +kernel
theorem dX12_breaksOf_91 : decode cX12_breaksOf 91 = .ok (.iconst 0, 1) := by decide +kernel
theorem dX12_breaksOf_92 : decode cX12_breaksOf 92 = .ok (.istore 7, 2) := by decide +kernel
theorem dX12_breaksOf_94 : decode cX12_breaksOf 94 = .ok (.iinc 8 1, 3) := by decide +kernel
theorem dX12_breaksOf_97 : decode cX12_breaksOf 97 = .ok (.goto (-47), 3) := by decide +kernel
theorem dX12_breaksOf_100 : decode cX12_breaksOf 100 = .ok (.iload 5, 2) := by decide +kernel
theorem dX12_breaksOf_102 : decode cX12_breaksOf 102 = .ok (.iload 4, 2) := by decide +kernel
theorem dX12_breaksOf_104 : decode cX12_breaksOf 104 = .ok (.iload 6, 2) := by decide +kernel
theorem dX12_breaksOf_106 : decode cX12_breaksOf 106 = .ok (.ishr, 1) := by decide +kernel
theorem dX12_breaksOf_107 : decode cX12_breaksOf 107 = .ok (.iconst 1, 1) := by decide +kernel
theorem dX12_breaksOf_108 : decode cX12_breaksOf 108 = .ok (.iand, 1) := by decide +kernel
theorem dX12_breaksOf_109 : decode cX12_breaksOf 109 = .ok (.iconst 1, 1) := by decide +kernel
theorem dX12_breaksOf_110 : decode cX12_breaksOf 110 = .ok (.if_icmp .ne 12, 3) := by decide +kernel
theorem dX12_breaksOf_113 : decode cX12_breaksOf 113 = .ok (.iload 7, 2) := by decide +kernel
theorem dX12_breaksOf_115 : decode cX12_breaksOf 115 = .ok (.ifCond .eq 7, 3) := by decide +kernel
theorem dX12_breaksOf_118 : decode cX12_breaksOf 118 = .ok (.iconst 1, 1) := by decide +kernel
theorem dX12_breaksOf_119 : decode cX12_breaksOf 119 = .ok (.goto 4, 3) := by decide +kernel
theorem dX12_breaksOf_122 : decode cX12_breaksOf 122 = .ok (.iconst 0, 1) := by decide +kernel
theorem dX12_breaksOf_123 : decode cX12_breaksOf 123 = .ok (.iadd, 1) := by decide +kernel
theorem dX12_breaksOf_124 : decode cX12_breaksOf 124 = .ok (.istore 5, 2) := by decide +kernel
theorem dX12_breaksOf_126 : decode cX12_breaksOf 126 = .ok (.iinc 6 1, 3) := by decide +kernel
theorem dX12_breaksOf_129 : decode cX12_breaksOf 129 = .ok (.goto (-92), 3) := by decide +kernel
theorem dX12_breaksOf_132 : decode cX12_breaksOf 132 = .ok (.iload 5, 2) := by decide +kernel
theorem dX12_breaksOf_134 : decode cX12_breaksOf 134 = .ok (.aload_n 0, 1) := by decide +kernel
theorem dX12_breaksOf_135 : decode cX12_breaksOf 135 = .ok (.getfield 7, 3) := by decide +kernel
theorem dX12_breaksOf_138 : decode cX12_breaksOf 138 = .ok (.iconst 2, 1) := by decide +kernel
theorem dX12_breaksOf_139 : decode cX12_breaksOf 139 = .ok (.iaload, 1) := by decide +kernel
theorem dX12_breaksOf_140 : decode cX12_breaksOf 140 = .ok (.imul, 1) := by decide +kernel
theorem dX12_breaksOf_141 : decode cX12_breaksOf 141 = .ok (.ireturn, 1) := by decide +kernel
theorem dX12_breaks_0 : decode cX12_breaks 0 = .ok (.iload_n 1, 1) := by decide +kernel
theorem dX12_breaks_1 : decode cX12_breaks 1 = .ok (.invokestatic 103, 3) := by decide +kernel
theorem dX12_breaks_4 : decode cX12_breaks 4 = .ok (.ifCond .eq 15, 3) := by decide +kernel
theorem dX12_breaks_7 : decode cX12_breaks 7 = .ok (.iload_n 2, 1) := by decide +kernel
theorem dX12_breaks_8 : decode cX12_breaks 8 = .ok (.invokestatic 103, 3) := by decide +kernel
theorem dX12_breaks_11 : decode cX12_breaks 11 = .ok (.ifCond .eq 8, 3) := by decide +kernel
theorem dX12_breaks_14 : decode cX12_breaks 14 = .ok (.iload_n 1, 1) := by decide +kernel
theorem dX12_breaks_15 : decode cX12_breaks 15 = .ok (.iload_n 2, 1) := by decide +kernel
theorem dX12_breaks_16 : decode cX12_breaks 16 = .ok (.if_icmp .lt 5, 3) := by decide +kernel
theorem dX12_breaks_19 : decode cX12_breaks 19 = .ok (.iconst (-1), 1) := by decide +kernel
theorem dX12_breaks_20 : decode cX12_breaks 20 = .ok (.ireturn, 1) := by decide +kernel
theorem dX12_breaks_21 : decode cX12_breaks 21 = .ok (.aload_n 0, 1) := by decide +kernel
theorem dX12_breaks_22 : decode cX12_breaks 22 = .ok (.getfield 25, 3) := by decide +kernel
theorem dX12_breaks_25 : decode cX12_breaks 25 = .ok (.iload_n 1, 1) := by decide +kernel
theorem dX12_breaks_26 : decode cX12_breaks 26 = .ok (.iaload, 1) := by decide +kernel
theorem dX12_breaks_27 : decode cX12_breaks 27 = .ok (.ifCond .eq 12, 3) := by decide +kernel
theorem dX12_breaks_30 : decode cX12_breaks 30 = .ok (.aload_n 0, 1) := by decide +kernel
theorem dX12_breaks_31 : decode cX12_breaks 31 = .ok (.getfield 25, 3) := by decide +kernel
theorem dX12_breaks_34 : decode cX12_breaks 34 = .ok (.iload_n 2, 1) := by decide +kernel
theorem dX12_breaks_35 : decode cX12_breaks 35 = .ok (.iaload, 1) := by decide +kernel
theorem dX12_breaks_36 : decode cX12_breaks 36 = .ok (.ifCond .ne 8, 3) := by decide +kernel
theorem dX12_breaks_39 : decode cX12_breaks 39 = .ok (.bipush (-3), 2) := by decide +kernel
theorem dX12_breaks_41 : decode cX12_breaks 41 = .ok (.goto 9, 3) := by decide +kernel
theorem dX12_breaks_44 : decode cX12_breaks 44 = .ok (.aload_n 0, 1) := by decide +kernel
theorem dX12_breaks_45 : decode cX12_breaks 45 = .ok (.iload_n 1, 1) := by decide +kernel
theorem dX12_breaks_46 : decode cX12_breaks 46 = .ok (.iload_n 2, 1) := by decide +kernel
theorem dX12_breaks_47 : decode cX12_breaks 47 = .ok (.invokevirtual 267, 3) := by decide +kernel
theorem dX12_breaks_50 : decode cX12_breaks 50 = .ok (.ireturn, 1) := by decide +kernel
theorem dX12_layWorsts_0 : decode cX12_layWorsts 0 = .ok (.iconst 0, 1) := by decide +kernel
theorem dX12_layWorsts_1 : decode cX12_layWorsts 1 = .ok (.istore_n 1, 1) := by decide +kernel
theorem dX12_layWorsts_2 : decode cX12_layWorsts 2 = .ok (.iload_n 1, 1) := by decide +kernel
theorem dX12_layWorsts_3 : decode cX12_layWorsts 3 = .ok (.iconst 4, 1) := by decide +kernel
theorem dX12_layWorsts_4 : decode cX12_layWorsts 4 = .ok (.if_icmp .ge 33, 3) := by decide +kernel
theorem dX12_layWorsts_7 : decode cX12_layWorsts 7 = .ok (.aload_n 0, 1) := by decide +kernel
theorem dX12_layWorsts_8 : decode cX12_layWorsts 8 = .ok (.getfield 70, 3) := by decide +kernel
theorem dX12_layWorsts_11 : decode cX12_layWorsts 11 = .ok (.iload_n 1, 1) := by decide +kernel
theorem dX12_layWorsts_12 : decode cX12_layWorsts 12 = .ok (.aload_n 0, 1) := by decide +kernel
theorem dX12_layWorsts_13 : decode cX12_layWorsts 13 = .ok (.getfield 25, 3) := by decide +kernel
theorem dX12_layWorsts_16 : decode cX12_layWorsts 16 = .ok (.iload_n 1, 1) := by decide +kernel
theorem dX12_layWorsts_17 : decode cX12_layWorsts 17 = .ok (.iaload, 1) := by decide +kernel
theorem dX12_layWorsts_18 : decode cX12_layWorsts 18 = .ok (.ifCond .le 11, 3) := by decide +kernel
theorem dX12_layWorsts_21 : decode cX12_layWorsts 21 = .ok (.aload_n 0, 1) := by decide +kernel
theorem dX12_layWorsts_22 : decode cX12_layWorsts 22 = .ok (.iload_n 1, 1) := by decide +kernel
theorem dX12_layWorsts_23 : decode cX12_layWorsts 23 = .ok (.invokevirtual 222, 3) := by decide +kernel
theorem dX12_layWorsts_26 : decode cX12_layWorsts 26 = .ok (.goto 4, 3) := by decide +kernel
theorem dX12_layWorsts_29 : decode cX12_layWorsts 29 = .ok (.iconst 0, 1) := by decide +kernel
theorem dX12_layWorsts_30 : decode cX12_layWorsts 30 = .ok (.iastore, 1) := by decide +kernel
theorem dX12_layWorsts_31 : decode cX12_layWorsts 31 = .ok (.iinc 1 1, 3) := by decide +kernel
theorem dX12_layWorsts_34 : decode cX12_layWorsts 34 = .ok (.goto (-32), 3) := by decide +kernel
theorem dX12_layWorsts_37 : decode cX12_layWorsts 37 = .ok (.return_, 1) := by decide +kernel
theorem dX12_doneOf_0 : decode cX12_doneOf 0 = .ok (.aload_n 0, 1) := by decide +kernel
theorem dX12_doneOf_1 : decode cX12_doneOf 1 = .ok (.getfield 70, 3) := by decide +kernel
theorem dX12_doneOf_4 : decode cX12_doneOf 4 = .ok (.iload_n 1, 1) := by decide +kernel
theorem dX12_doneOf_5 : decode cX12_doneOf 5 = .ok (.iaload, 1) := by decide +kernel
theorem dX12_doneOf_6 : decode cX12_doneOf 6 = .ok (.istore_n 2, 1) := by decide +kernel
theorem dX12_doneOf_7 : decode cX12_doneOf 7 = .ok (.iconst 1, 1) := by decide +kernel
theorem dX12_doneOf_8 : decode cX12_doneOf 8 = .ok (.istore_n 3, 1) := by decide +kernel
theorem dX12_doneOf_9 : decode cX12_doneOf 9 = .ok (.iload_n 3, 1) := by decide +kernel
theorem dX12_doneOf_10 : decode cX12_doneOf 10 = .ok (.ifCond .eq 104, 3) := by decide +kernel
theorem dX12_doneOf_13 : decode cX12_doneOf 13 = .ok (.iload_n 2, 1) := by decide +kernel
theorem dX12_doneOf_14 : decode cX12_doneOf 14 = .ok (.aload_n 0, 1) := by decide +kernel
theorem dX12_doneOf_15 : decode cX12_doneOf 15 = .ok (.getfield 25, 3) := by decide +kernel
theorem dX12_doneOf_18 : decode cX12_doneOf 18 = .ok (.iload_n 1, 1) := by decide +kernel
theorem dX12_doneOf_19 : decode cX12_doneOf 19 = .ok (.iaload, 1) := by decide +kernel
theorem dX12_doneOf_20 : decode cX12_doneOf 20 = .ok (.if_icmp .gt 94, 3) := by decide +kernel
theorem dX12_doneOf_23 : decode cX12_doneOf 23 = .ok (.aload_n 0, 1) := by decide +kernel
theorem dX12_doneOf_24 : decode cX12_doneOf 24 = .ok (.getfield 70, 3) := by decide +kernel
theorem dX12_doneOf_27 : decode cX12_doneOf 27 = .ok (.iload_n 1, 1) := by decide +kernel
theorem dX12_doneOf_28 : decode cX12_doneOf 28 = .ok (.iaload, 1) := by decide +kernel
theorem dX12_doneOf_29 : decode cX12_doneOf 29 = .ok (.istore 4, 2) := by decide +kernel
theorem dX12_doneOf_31 : decode cX12_doneOf 31 = .ok (.iconst 0, 1) := by decide +kernel
theorem dX12_doneOf_32 : decode cX12_doneOf 32 = .ok (.istore 5, 2) := by decide +kernel
theorem dX12_doneOf_34 : decode cX12_doneOf 34 = .ok (.iload 5, 2) := by decide +kernel
theorem dX12_doneOf_36 : decode cX12_doneOf 36 = .ok (.iload_n 1, 1) := by decide +kernel
theorem dX12_doneOf_37 : decode cX12_doneOf 37 = .ok (.if_icmp .ge 59, 3) := by decide +kernel
theorem dX12_doneOf_40 : decode cX12_doneOf 40 = .ok (.aload_n 0, 1) := by decide +kernel
theorem dX12_doneOf_41 : decode cX12_doneOf 41 = .ok (.getfield 25, 3) := by decide +kernel
theorem dX12_doneOf_44 : decode cX12_doneOf 44 = .ok (.iload 5, 2) := by decide +kernel
theorem dX12_doneOf_46 : decode cX12_doneOf 46 = .ok (.iaload, 1) := by decide +kernel
theorem dX12_doneOf_47 : decode cX12_doneOf 47 = .ok (.ifCond .le 43, 3) := by decide +kernel
theorem dX12_doneOf_50 : decode cX12_doneOf 50 = .ok (.iload 4, 2) := by decide +kernel
theorem dX12_doneOf_52 : decode cX12_doneOf 52 = .ok (.iload_n 2, 1) := by decide +kernel
theorem dX12_doneOf_53 : decode cX12_doneOf 53 = .ok (.aload_n 0, 1) := by decide +kernel
theorem dX12_doneOf_54 : decode cX12_doneOf 54 = .ok (.getfield 25, 3) := by decide +kernel
theorem dX12_doneOf_57 : decode cX12_doneOf 57 = .ok (.iload 5, 2) := by decide +kernel
theorem dX12_doneOf_59 : decode cX12_doneOf 59 = .ok (.iaload, 1) := by decide +kernel
theorem dX12_doneOf_60 : decode cX12_doneOf 60 = .ok (.iadd, 1) := by decide +kernel
theorem dX12_doneOf_61 : decode cX12_doneOf 61 = .ok (.iconst 1, 1) := by decide +kernel
theorem dX12_doneOf_62 : decode cX12_doneOf 62 = .ok (.isub, 1) := by decide +kernel
theorem dX12_doneOf_63 : decode cX12_doneOf 63 = .ok (.aload_n 0, 1) := by decide +kernel
theorem dX12_doneOf_64 : decode cX12_doneOf 64 = .ok (.getfield 25, 3) := by decide +kernel
theorem dX12_doneOf_67 : decode cX12_doneOf 67 = .ok (.iload 5, 2) := by decide +kernel
theorem dX12_doneOf_69 : decode cX12_doneOf 69 = .ok (.iaload, 1) := by decide +kernel
theorem dX12_doneOf_70 : decode cX12_doneOf 70 = .ok (.idiv, 1) := by decide +kernel
theorem dX12_doneOf_71 : decode cX12_doneOf 71 = .ok (.aload_n 0, 1) := by decide +kernel
theorem dX12_doneOf_72 : decode cX12_doneOf 72 = .ok (.getfield 70, 3) := by decide +kernel
theorem dX12_doneOf_75 : decode cX12_doneOf 75 = .ok (.iload 5, 2) := by decide +kernel
theorem dX12_doneOf_77 : decode cX12_doneOf 77 = .ok (.iaload, 1) := by decide +kernel
theorem dX12_doneOf_78 : decode cX12_doneOf 78 = .ok (.aload_n 0, 1) := by decide +kernel
theorem dX12_doneOf_79 : decode cX12_doneOf 79 = .ok (.iload 5, 2) := by decide +kernel
theorem dX12_doneOf_81 : decode cX12_doneOf 81 = .ok (.iload_n 1, 1) := by decide +kernel
theorem dX12_doneOf_82 : decode cX12_doneOf 82 = .ok (.invokevirtual 267, 3) := by decide +kernel
theorem dX12_doneOf_85 : decode cX12_doneOf 85 = .ok (.iadd, 1) := by decide +kernel
theorem dX12_doneOf_86 : decode cX12_doneOf 86 = .ok (.imul, 1) := by decide +kernel
theorem dX12_doneOf_87 : decode cX12_doneOf 87 = .ok (.iadd, 1) := by decide +kernel
theorem dX12_doneOf_88 : decode cX12_doneOf 88 = .ok (.istore 4, 2) := by decide +kernel
theorem dX12_doneOf_90 : decode cX12_doneOf 90 = .ok (.iinc 5 1, 3) := by decide +kernel
theorem dX12_doneOf_93 : decode cX12_doneOf 93 = .ok (.goto (-59), 3) := by decide +kernel
theorem dX12_doneOf_96 : decode cX12_doneOf 96 = .ok (.iload 4, 2) := by decide +kernel
theorem dX12_doneOf_98 : decode cX12_doneOf 98 = .ok (.iload_n 2, 1) := by decide +kernel
theorem dX12_doneOf_99 : decode cX12_doneOf 99 = .ok (.if_icmp .eq 7, 3) := by decide +kernel
theorem dX12_doneOf_102 : decode cX12_doneOf 102 = .ok (.iconst 1, 1) := by decide +kernel
theorem dX12_doneOf_103 : decode cX12_doneOf 103 = .ok (.goto 4, 3) := by decide +kernel
theorem dX12_doneOf_106 : decode cX12_doneOf 106 = .ok (.iconst 0, 1) := by decide +kernel
theorem dX12_doneOf_107 : decode cX12_doneOf 107 = .ok (.istore_n 3, 1) := by decide +kernel
theorem dX12_doneOf_108 : decode cX12_doneOf 108 = .ok (.iload 4, 2) := by decide +kernel
theorem dX12_doneOf_110 : decode cX12_doneOf 110 = .ok (.istore_n 2, 1) := by decide +kernel
theorem dX12_doneOf_111 : decode cX12_doneOf 111 = .ok (.goto (-102), 3) := by decide +kernel
theorem dX12_doneOf_114 : decode cX12_doneOf 114 = .ok (.iload_n 2, 1) := by decide +kernel
theorem dX12_doneOf_115 : decode cX12_doneOf 115 = .ok (.aload_n 0, 1) := by decide +kernel
theorem dX12_doneOf_116 : decode cX12_doneOf 116 = .ok (.getfield 25, 3) := by decide +kernel
theorem dX12_doneOf_119 : decode cX12_doneOf 119 = .ok (.iload_n 1, 1) := by decide +kernel
theorem dX12_doneOf_120 : decode cX12_doneOf 120 = .ok (.iaload, 1) := by decide +kernel
theorem dX12_doneOf_121 : decode cX12_doneOf 121 = .ok (.if_icmp .le 8, 3) := by decide +kernel
theorem dX12_doneOf_124 : decode cX12_doneOf 124 = .ok (.bipush (-5), 2) := by decide +kernel
theorem dX12_doneOf_126 : decode cX12_doneOf 126 = .ok (.goto 4, 3) := by decide +kernel
theorem dX12_doneOf_129 : decode cX12_doneOf 129 = .ok (.iload_n 2, 1) := by decide +kernel
theorem dX12_doneOf_130 : decode cX12_doneOf 130 = .ok (.ireturn, 1) := by decide +kernel
theorem dX12_done_0 : decode cX12_done 0 = .ok (.iload_n 1, 1) := by decide +kernel
theorem dX12_done_1 : decode cX12_done 1 = .ok (.invokestatic 103, 3) := by decide +kernel
theorem dX12_done_4 : decode cX12_done 4 = .ok (.ifCond .ne 5, 3) := by decide +kernel
theorem dX12_done_7 : decode cX12_done 7 = .ok (.iconst (-1), 1) := by decide +kernel
theorem dX12_done_8 : decode cX12_done 8 = .ok (.ireturn, 1) := by decide +kernel
theorem dX12_done_9 : decode cX12_done 9 = .ok (.aload_n 0, 1) := by decide +kernel
theorem dX12_done_10 : decode cX12_done 10 = .ok (.getfield 25, 3) := by decide +kernel
theorem dX12_done_13 : decode cX12_done 13 = .ok (.iload_n 1, 1) := by decide +kernel
theorem dX12_done_14 : decode cX12_done 14 = .ok (.iaload, 1) := by decide +kernel
theorem dX12_done_15 : decode cX12_done 15 = .ok (.ifCond .ne 6, 3) := by decide +kernel
theorem dX12_done_18 : decode cX12_done 18 = .ok (.bipush (-3), 2) := by decide +kernel
theorem dX12_done_20 : decode cX12_done 20 = .ok (.ireturn, 1) := by decide +kernel
theorem dX12_done_21 : decode cX12_done 21 = .ok (.aload_n 0, 1) := by decide +kernel
theorem dX12_done_22 : decode cX12_done 22 = .ok (.invokevirtual 270, 3) := by decide +kernel
theorem dX12_done_25 : decode cX12_done 25 = .ok (.aload_n 0, 1) := by decide +kernel
theorem dX12_done_26 : decode cX12_done 26 = .ok (.iload_n 1, 1) := by decide +kernel
theorem dX12_done_27 : decode cX12_done 27 = .ok (.invokevirtual 273, 3) := by decide +kernel
theorem dX12_done_30 : decode cX12_done 30 = .ok (.ireturn, 1) := by decide +kernel
theorem dX12_lateOnes_0 : decode cX12_lateOnes 0 = .ok (.aload_n 0, 1) := by decide +kernel
theorem dX12_lateOnes_1 : decode cX12_lateOnes 1 = .ok (.invokevirtual 270, 3) := by decide +kernel
theorem dX12_lateOnes_4 : decode cX12_lateOnes 4 = .ok (.iconst 0, 1) := by decide +kernel
theorem dX12_lateOnes_5 : decode cX12_lateOnes 5 = .ok (.istore_n 1, 1) := by decide +kernel
theorem dX12_lateOnes_6 : decode cX12_lateOnes 6 = .ok (.iconst 0, 1) := by decide +kernel
theorem dX12_lateOnes_7 : decode cX12_lateOnes 7 = .ok (.istore_n 2, 1) := by decide +kernel
theorem dX12_lateOnes_8 : decode cX12_lateOnes 8 = .ok (.iload_n 2, 1) := by decide +kernel
theorem dX12_lateOnes_9 : decode cX12_lateOnes 9 = .ok (.iconst 4, 1) := by decide +kernel
theorem dX12_lateOnes_10 : decode cX12_lateOnes 10 = .ok (.if_icmp .ge 36, 3) := by decide +kernel
theorem dX12_lateOnes_13 : decode cX12_lateOnes 13 = .ok (.iload_n 1, 1) := by decide +kernel
theorem dX12_lateOnes_14 : decode cX12_lateOnes 14 = .ok (.aload_n 0, 1) := by decide +kernel
theorem dX12_lateOnes_15 : decode cX12_lateOnes 15 = .ok (.getfield 25, 3) := by decide +kernel
theorem dX12_lateOnes_18 : decode cX12_lateOnes 18 = .ok (.iload_n 2, 1) := by decide +kernel
theorem dX12_lateOnes_19 : decode cX12_lateOnes 19 = .ok (.iaload, 1) := by decide +kernel
theorem dX12_lateOnes_20 : decode cX12_lateOnes 20 = .ok (.ifCond .le 17, 3) := by decide +kernel
theorem dX12_lateOnes_23 : decode cX12_lateOnes 23 = .ok (.aload_n 0, 1) := by decide +kernel
theorem dX12_lateOnes_24 : decode cX12_lateOnes 24 = .ok (.iload_n 2, 1) := by decide +kernel
theorem dX12_lateOnes_25 : decode cX12_lateOnes 25 = .ok (.invokevirtual 273, 3) := by decide +kernel
theorem dX12_lateOnes_28 : decode cX12_lateOnes 28 = .ok (.ifCond .ge 9, 3) := by decide +kernel
theorem dX12_lateOnes_31 : decode cX12_lateOnes 31 = .ok (.iconst 1, 1) := by decide +kernel
theorem dX12_lateOnes_32 : decode cX12_lateOnes 32 = .ok (.iload_n 2, 1) := by decide +kernel
theorem dX12_lateOnes_33 : decode cX12_lateOnes 33 = .ok (.ishl, 1) := by decide +kernel
theorem dX12_lateOnes_34 : decode cX12_lateOnes 34 = .ok (.goto 4, 3) := by decide +kernel
theorem dX12_lateOnes_37 : decode cX12_lateOnes 37 = .ok (.iconst 0, 1) := by decide +kernel
theorem dX12_lateOnes_38 : decode cX12_lateOnes 38 = .ok (.ior, 1) := by decide +kernel
theorem dX12_lateOnes_39 : decode cX12_lateOnes 39 = .ok (.istore_n 1, 1) := by decide +kernel
theorem dX12_lateOnes_40 : decode cX12_lateOnes 40 = .ok (.iinc 2 1, 3) := by decide +kernel
theorem dX12_lateOnes_43 : decode cX12_lateOnes 43 = .ok (.goto (-35), 3) := by decide +kernel
theorem dX12_lateOnes_46 : decode cX12_lateOnes 46 = .ok (.iload_n 1, 1) := by decide +kernel
theorem dX12_lateOnes_47 : decode cX12_lateOnes 47 = .ok (.ireturn, 1) := by decide +kernel
theorem dX12_late_0 : decode cX12_late 0 = .ok (.iload_n 1, 1) := by decide +kernel
theorem dX12_late_1 : decode cX12_late 1 = .ok (.iconst 0, 1) := by decide +kernel
theorem dX12_late_2 : decode cX12_late 2 = .ok (.iconst 1, 1) := by decide +kernel
theorem dX12_late_3 : decode cX12_late 3 = .ok (.invokestatic 80, 3) := by decide +kernel
theorem dX12_late_6 : decode cX12_late 6 = .ok (.ifCond .ne 6, 3) := by decide +kernel
theorem dX12_late_9 : decode cX12_late 9 = .ok (.bipush (-2), 2) := by decide +kernel
theorem dX12_late_11 : decode cX12_late 11 = .ok (.ireturn, 1) := by decide +kernel
theorem dX12_late_12 : decode cX12_late 12 = .ok (.iload_n 1, 1) := by decide +kernel
theorem dX12_late_13 : decode cX12_late 13 = .ok (.ifCond .ne 8, 3) := by decide +kernel
theorem dX12_late_16 : decode cX12_late 16 = .ok (.aload_n 0, 1) := by decide +kernel
theorem dX12_late_17 : decode cX12_late 17 = .ok (.invokevirtual 276, 3) := by decide +kernel
theorem dX12_late_20 : decode cX12_late 20 = .ok (.ireturn, 1) := by decide +kernel
theorem dX12_late_21 : decode cX12_late 21 = .ok (.aload_n 0, 1) := by decide +kernel
theorem dX12_late_22 : decode cX12_late 22 = .ok (.getfield 7, 3) := by decide +kernel
theorem dX12_late_25 : decode cX12_late 25 = .ok (.iconst 2, 1) := by decide +kernel
theorem dX12_late_26 : decode cX12_late 26 = .ok (.iaload, 1) := by decide +kernel
theorem dX12_late_27 : decode cX12_late 27 = .ok (.istore_n 2, 1) := by decide +kernel
theorem dX12_late_28 : decode cX12_late 28 = .ok (.bipush (-6), 2) := by decide +kernel
theorem dX12_late_30 : decode cX12_late 30 = .ok (.istore_n 3, 1) := by decide +kernel
theorem dX12_late_31 : decode cX12_late 31 = .ok (.bipush 20, 2) := by decide +kernel
theorem dX12_late_33 : decode cX12_late 33 = .ok (.istore 4, 2) := by decide +kernel
theorem dX12_late_35 : decode cX12_late 35 = .ok (.iload 4, 2) := by decide +kernel
theorem dX12_late_37 : decode cX12_late 37 = .ok (.iconst 1, 1) := by decide +kernel
theorem dX12_late_38 : decode cX12_late 38 = .ok (.if_icmp .le 36, 3) := by decide +kernel
theorem dX12_late_41 : decode cX12_late 41 = .ok (.iload_n 3, 1) := by decide +kernel
theorem dX12_late_42 : decode cX12_late 42 = .ok (.ifCond .ge 32, 3) := by decide +kernel
theorem dX12_late_45 : decode cX12_late 45 = .ok (.aload_n 0, 1) := by decide +kernel
theorem dX12_late_46 : decode cX12_late 46 = .ok (.getfield 7, 3) := by decide +kernel
theorem dX12_late_49 : decode cX12_late 49 = .ok (.iconst 2, 1) := by decide +kernel
theorem dX12_late_50 : decode cX12_late 50 = .ok (.iload 4, 2) := by decide +kernel
theorem dX12_late_52 : decode cX12_late 52 = .ok (.iastore, 1) := by decide +kernel
theorem dX12_late_53 : decode cX12_late 53 = .ok (.aload_n 0, 1) := by decide +kernel
theorem dX12_late_54 : decode cX12_late 54 = .ok (.invokevirtual 276, 3) := by decide +kernel
theorem dX12_late_57 : decode cX12_late 57 = .ok (.ifCond .ne 8, 3) := by decide +kernel
theorem dX12_late_60 : decode cX12_late 60 = .ok (.iload 4, 2) := by decide +kernel
theorem dX12_late_62 : decode cX12_late 62 = .ok (.goto 5, 3) := by decide +kernel
theorem dX12_late_65 : decode cX12_late 65 = .ok (.bipush (-6), 2) := by decide +kernel
theorem dX12_late_67 : decode cX12_late 67 = .ok (.istore_n 3, 1) := by decide +kernel
theorem dX12_late_68 : decode cX12_late 68 = .ok (.iinc 4 (-1), 3) := by decide +kernel
theorem dX12_late_71 : decode cX12_late 71 = .ok (.goto (-36), 3) := by decide +kernel
theorem dX12_late_74 : decode cX12_late 74 = .ok (.aload_n 0, 1) := by decide +kernel
theorem dX12_late_75 : decode cX12_late 75 = .ok (.getfield 7, 3) := by decide +kernel
theorem dX12_late_78 : decode cX12_late 78 = .ok (.iconst 2, 1) := by decide +kernel
theorem dX12_late_79 : decode cX12_late 79 = .ok (.iload_n 2, 1) := by decide +kernel
theorem dX12_late_80 : decode cX12_late 80 = .ok (.iastore, 1) := by decide +kernel
theorem dX12_late_81 : decode cX12_late 81 = .ok (.iload_n 3, 1) := by decide +kernel
theorem dX12_late_82 : decode cX12_late 82 = .ok (.ireturn, 1) := by decide +kernel
theorem dX12_image_0 : decode cX12_image 0 = .ok (.iload_n 1, 1) := by decide +kernel
theorem dX12_image_1 : decode cX12_image 1 = .ok (.iconst 0, 1) := by decide +kernel
theorem dX12_image_2 : decode cX12_image 2 = .ok (.iconst 1, 1) := by decide +kernel
theorem dX12_image_3 : decode cX12_image 3 = .ok (.invokestatic 80, 3) := by decide +kernel
theorem dX12_image_6 : decode cX12_image 6 = .ok (.ifCond .ne 6, 3) := by decide +kernel
theorem dX12_image_9 : decode cX12_image 9 = .ok (.bipush (-2), 2) := by decide +kernel
theorem dX12_image_11 : decode cX12_image 11 = .ok (.ireturn, 1) := by decide +kernel
theorem dX12_image_12 : decode cX12_image 12 = .ok (.sipush 160, 3) := by decide +kernel
theorem dX12_image_15 : decode cX12_image 15 = .ok (.iload_n 1, 1) := by decide +kernel
theorem dX12_image_16 : decode cX12_image 16 = .ok (.imul, 1) := by decide +kernel
theorem dX12_image_17 : decode cX12_image 17 = .ok (.istore_n 2, 1) := by decide +kernel
theorem dX12_image_18 : decode cX12_image 18 = .ok (.iconst 0, 1) := by decide +kernel
theorem dX12_image_19 : decode cX12_image 19 = .ok (.istore_n 3, 1) := by decide +kernel
theorem dX12_image_20 : decode cX12_image 20 = .ok (.iload_n 3, 1) := by decide +kernel
theorem dX12_image_21 : decode cX12_image 21 = .ok (.iconst 4, 1) := by decide +kernel
theorem dX12_image_22 : decode cX12_image 22 = .ok (.if_icmp .ge 56, 3) := by decide +kernel
theorem dX12_image_25 : decode cX12_image 25 = .ok (.aload_n 0, 1) := by decide +kernel
theorem dX12_image_26 : decode cX12_image 26 = .ok (.getfield 73, 3) := by decide +kernel
theorem dX12_image_29 : decode cX12_image 29 = .ok (.iload_n 2, 1) := by decide +kernel
theorem dX12_image_30 : decode cX12_image 30 = .ok (.iload_n 3, 1) := by decide +kernel
theorem dX12_image_31 : decode cX12_image 31 = .ok (.iadd, 1) := by decide +kernel
theorem dX12_image_32 : decode cX12_image 32 = .ok (.aload_n 0, 1) := by decide +kernel
theorem dX12_image_33 : decode cX12_image 33 = .ok (.getfield 7, 3) := by decide +kernel
theorem dX12_image_36 : decode cX12_image 36 = .ok (.iload_n 3, 1) := by decide +kernel
theorem dX12_image_37 : decode cX12_image 37 = .ok (.iaload, 1) := by decide +kernel
theorem dX12_image_38 : decode cX12_image 38 = .ok (.iastore, 1) := by decide +kernel
theorem dX12_image_39 : decode cX12_image 39 = .ok (.aload_n 0, 1) := by decide +kernel
theorem dX12_image_40 : decode cX12_image 40 = .ok (.getfield 73, 3) := by decide +kernel
theorem dX12_image_43 : decode cX12_image 43 = .ok (.iload_n 2, 1) := by decide +kernel
theorem dX12_image_44 : decode cX12_image 44 = .ok (.iconst 4, 1) := by decide +kernel
theorem dX12_image_45 : decode cX12_image 45 = .ok (.iadd, 1) := by decide +kernel
theorem dX12_image_46 : decode cX12_image 46 = .ok (.iload_n 3, 1) := by decide +kernel
theorem dX12_image_47 : decode cX12_image 47 = .ok (.iadd, 1) := by decide +kernel
theorem dX12_image_48 : decode cX12_image 48 = .ok (.aload_n 0, 1) := by decide +kernel
theorem dX12_image_49 : decode cX12_image 49 = .ok (.getfield 16, 3) := by decide +kernel
theorem dX12_image_52 : decode cX12_image 52 = .ok (.iload_n 3, 1) := by decide +kernel
theorem dX12_image_53 : decode cX12_image 53 = .ok (.iaload, 1) := by decide +kernel
theorem dX12_image_54 : decode cX12_image 54 = .ok (.iastore, 1) := by decide +kernel
theorem dX12_image_55 : decode cX12_image 55 = .ok (.aload_n 0, 1) := by decide +kernel
theorem dX12_image_56 : decode cX12_image 56 = .ok (.getfield 73, 3) := by decide +kernel
theorem dX12_image_59 : decode cX12_image 59 = .ok (.iload_n 2, 1) := by decide +kernel
theorem dX12_image_60 : decode cX12_image 60 = .ok (.bipush 8, 2) := by decide +kernel
theorem dX12_image_62 : decode cX12_image 62 = .ok (.iadd, 1) := by decide +kernel
theorem dX12_image_63 : decode cX12_image 63 = .ok (.iload_n 3, 1) := by decide +kernel
theorem dX12_image_64 : decode cX12_image 64 = .ok (.iadd, 1) := by decide +kernel
theorem dX12_image_65 : decode cX12_image 65 = .ok (.aload_n 0, 1) := by decide +kernel
theorem dX12_image_66 : decode cX12_image 66 = .ok (.getfield 25, 3) := by decide +kernel
theorem dX12_image_69 : decode cX12_image 69 = .ok (.iload_n 3, 1) := by decide +kernel
theorem dX12_image_70 : decode cX12_image 70 = .ok (.iaload, 1) := by decide +kernel
theorem dX12_image_71 : decode cX12_image 71 = .ok (.iastore, 1) := by decide +kernel
theorem dX12_image_72 : decode cX12_image 72 = .ok (.iinc 3 1, 3) := by decide +kernel
theorem dX12_image_75 : decode cX12_image 75 = .ok (.goto (-55), 3) := by decide +kernel
theorem dX12_image_78 : decode cX12_image 78 = .ok (.aload_n 0, 1) := by decide +kernel
theorem dX12_image_79 : decode cX12_image 79 = .ok (.getfield 73, 3) := by decide +kernel
theorem dX12_image_82 : decode cX12_image 82 = .ok (.iload_n 2, 1) := by decide +kernel
theorem dX12_image_83 : decode cX12_image 83 = .ok (.bipush 12, 2) := by decide +kernel
theorem dX12_image_85 : decode cX12_image 85 = .ok (.iadd, 1) := by decide +kernel
theorem dX12_image_86 : decode cX12_image 86 = .ok (.aload_n 0, 1) := by decide +kernel
theorem dX12_image_87 : decode cX12_image 87 = .ok (.getfield 210, 3) := by decide +kernel
theorem dX12_image_90 : decode cX12_image 90 = .ok (.iastore, 1) := by decide +kernel
theorem dX12_image_91 : decode cX12_image 91 = .ok (.iconst 0, 1) := by decide +kernel
theorem dX12_image_92 : decode cX12_image 92 = .ok (.istore_n 3, 1) := by decide +kernel
theorem dX12_image_93 : decode cX12_image 93 = .ok (.iload_n 3, 1) := by decide +kernel
theorem dX12_image_94 : decode cX12_image 94 = .ok (.bipush 20, 2) := by decide +kernel
theorem dX12_image_96 : decode cX12_image 96 = .ok (.if_icmp .ge 26, 3) := by decide +kernel
theorem dX12_image_99 : decode cX12_image 99 = .ok (.aload_n 0, 1) := by decide +kernel
theorem dX12_image_100 : decode cX12_image 100 = .ok (.getfield 73, 3) := by decide +kernel
theorem dX12_image_103 : decode cX12_image 103 = .ok (.iload_n 2, 1) := by decide +kernel
theorem dX12_image_104 : decode cX12_image 104 = .ok (.bipush 13, 2) := by decide +kernel
theorem dX12_image_106 : decode cX12_image 106 = .ok (.iadd, 1) := by decide +kernel
theorem dX12_image_107 : decode cX12_image 107 = .ok (.iload_n 3, 1) := by decide +kernel
theorem dX12_image_108 : decode cX12_image 108 = .ok (.iadd, 1) := by decide +kernel
theorem dX12_image_109 : decode cX12_image 109 = .ok (.aload_n 0, 1) := by decide +kernel
theorem dX12_image_110 : decode cX12_image 110 = .ok (.getfield 28, 3) := by decide +kernel
theorem dX12_image_113 : decode cX12_image 113 = .ok (.iload_n 3, 1) := by decide +kernel
theorem dX12_image_114 : decode cX12_image 114 = .ok (.iaload, 1) := by decide +kernel
theorem dX12_image_115 : decode cX12_image 115 = .ok (.iastore, 1) := by decide +kernel
theorem dX12_image_116 : decode cX12_image 116 = .ok (.iinc 3 1, 3) := by decide +kernel
theorem dX12_image_119 : decode cX12_image 119 = .ok (.goto (-26), 3) := by decide +kernel
theorem dX12_image_122 : decode cX12_image 122 = .ok (.iconst 0, 1) := by decide +kernel
theorem dX12_image_123 : decode cX12_image 123 = .ok (.istore_n 3, 1) := by decide +kernel
theorem dX12_image_124 : decode cX12_image 124 = .ok (.iload_n 3, 1) := by decide +kernel
theorem dX12_image_125 : decode cX12_image 125 = .ok (.bipush 120, 2) := by decide +kernel
theorem dX12_image_127 : decode cX12_image 127 = .ok (.if_icmp .ge 26, 3) := by decide +kernel
theorem dX12_image_130 : decode cX12_image 130 = .ok (.aload_n 0, 1) := by decide +kernel
theorem dX12_image_131 : decode cX12_image 131 = .ok (.getfield 73, 3) := by decide +kernel
theorem dX12_image_134 : decode cX12_image 134 = .ok (.iload_n 2, 1) := by decide +kernel
theorem dX12_image_135 : decode cX12_image 135 = .ok (.bipush 33, 2) := by decide +kernel
theorem dX12_image_137 : decode cX12_image 137 = .ok (.iadd, 1) := by decide +kernel
theorem dX12_image_138 : decode cX12_image 138 = .ok (.iload_n 3, 1) := by decide +kernel
theorem dX12_image_139 : decode cX12_image 139 = .ok (.iadd, 1) := by decide +kernel
theorem dX12_image_140 : decode cX12_image 140 = .ok (.aload_n 0, 1) := by decide +kernel
theorem dX12_image_141 : decode cX12_image 141 = .ok (.getfield 19, 3) := by decide +kernel
theorem dX12_image_144 : decode cX12_image 144 = .ok (.iload_n 3, 1) := by decide +kernel
theorem dX12_image_145 : decode cX12_image 145 = .ok (.iaload, 1) := by decide +kernel
theorem dX12_image_146 : decode cX12_image 146 = .ok (.iastore, 1) := by decide +kernel
theorem dX12_image_147 : decode cX12_image 147 = .ok (.iinc 3 1, 3) := by decide +kernel
theorem dX12_image_150 : decode cX12_image 150 = .ok (.goto (-26), 3) := by decide +kernel
theorem dX12_image_153 : decode cX12_image 153 = .ok (.aload_n 0, 1) := by decide +kernel
theorem dX12_image_154 : decode cX12_image 154 = .ok (.getfield 76, 3) := by decide +kernel
theorem dX12_image_157 : decode cX12_image 157 = .ok (.iload_n 1, 1) := by decide +kernel
theorem dX12_image_158 : decode cX12_image 158 = .ok (.iconst 1, 1) := by decide +kernel
theorem dX12_image_159 : decode cX12_image 159 = .ok (.bastore, 1) := by decide +kernel
theorem dX12_image_160 : decode cX12_image 160 = .ok (.iconst 1, 1) := by decide +kernel
theorem dX12_image_161 : decode cX12_image 161 = .ok (.ireturn, 1) := by decide +kernel
theorem dX12_restore_0 : decode cX12_restore 0 = .ok (.iload_n 1, 1) := by decide +kernel
theorem dX12_restore_1 : decode cX12_restore 1 = .ok (.iconst 0, 1) := by decide +kernel
theorem dX12_restore_2 : decode cX12_restore 2 = .ok (.iconst 1, 1) := by decide +kernel
theorem dX12_restore_3 : decode cX12_restore 3 = .ok (.invokestatic 80, 3) := by decide +kernel
theorem dX12_restore_6 : decode cX12_restore 6 = .ok (.ifCond .ne 6, 3) := by decide +kernel
theorem dX12_restore_9 : decode cX12_restore 9 = .ok (.bipush (-2), 2) := by decide +kernel
theorem dX12_restore_11 : decode cX12_restore 11 = .ok (.ireturn, 1) := by decide +kernel
theorem dX12_restore_12 : decode cX12_restore 12 = .ok (.aload_n 0, 1) := by decide +kernel
theorem dX12_restore_13 : decode cX12_restore 13 = .ok (.getfield 76, 3) := by decide +kernel
theorem dX12_restore_16 : decode cX12_restore 16 = .ok (.iload_n 1, 1) := by decide +kernel
theorem dX12_restore_17 : decode cX12_restore 17 = .ok (.baload, 1) := by decide +kernel
theorem dX12_restore_18 : decode cX12_restore 18 = .ok (.ifCond .ne 6, 3) := by decide +kernel
theorem dX12_restore_21 : decode cX12_restore 21 = .ok (.bipush (-3), 2) := by decide +kernel
theorem dX12_restore_23 : decode cX12_restore 23 = .ok (.ireturn, 1) := by decide +kernel
theorem dX12_restore_24 : decode cX12_restore 24 = .ok (.sipush 160, 3) := by decide +kernel
theorem dX12_restore_27 : decode cX12_restore 27 = .ok (.iload_n 1, 1) := by decide +kernel
theorem dX12_restore_28 : decode cX12_restore 28 = .ok (.imul, 1) := by decide +kernel
theorem dX12_restore_29 : decode cX12_restore 29 = .ok (.istore_n 2, 1) := by decide +kernel
theorem dX12_restore_30 : decode cX12_restore 30 = .ok (.iconst 0, 1) := by decide +kernel
theorem dX12_restore_31 : decode cX12_restore 31 = .ok (.istore_n 3, 1) := by decide +kernel
theorem dX12_restore_32 : decode cX12_restore 32 = .ok (.iload_n 3, 1) := by decide +kernel
theorem dX12_restore_33 : decode cX12_restore 33 = .ok (.iconst 4, 1) := by decide +kernel
theorem dX12_restore_34 : decode cX12_restore 34 = .ok (.if_icmp .ge 56, 3) := by decide +kernel
theorem dX12_restore_37 : decode cX12_restore 37 = .ok (.aload_n 0, 1) := by decide +kernel
theorem dX12_restore_38 : decode cX12_restore 38 = .ok (.getfield 7, 3) := by decide +kernel
theorem dX12_restore_41 : decode cX12_restore 41 = .ok (.iload_n 3, 1) := by decide +kernel
theorem dX12_restore_42 : decode cX12_restore 42 = .ok (.aload_n 0, 1) := by decide +kernel
theorem dX12_restore_43 : decode cX12_restore 43 = .ok (.getfield 73, 3) := by decide +kernel
theorem dX12_restore_46 : decode cX12_restore 46 = .ok (.iload_n 2, 1) := by decide +kernel
theorem dX12_restore_47 : decode cX12_restore 47 = .ok (.iload_n 3, 1) := by decide +kernel
theorem dX12_restore_48 : decode cX12_restore 48 = .ok (.iadd, 1) := by decide +kernel
theorem dX12_restore_49 : decode cX12_restore 49 = .ok (.iaload, 1) := by decide +kernel
theorem dX12_restore_50 : decode cX12_restore 50 = .ok (.iastore, 1) := by decide +kernel
theorem dX12_restore_51 : decode cX12_restore 51 = .ok (.aload_n 0, 1) := by decide +kernel
theorem dX12_restore_52 : decode cX12_restore 52 = .ok (.getfield 16, 3) := by decide +kernel
theorem dX12_restore_55 : decode cX12_restore 55 = .ok (.iload_n 3, 1) := by decide +kernel
theorem dX12_restore_56 : decode cX12_restore 56 = .ok (.aload_n 0, 1) := by decide +kernel
theorem dX12_restore_57 : decode cX12_restore 57 = .ok (.getfield 73, 3) := by decide +kernel
theorem dX12_restore_60 : decode cX12_restore 60 = .ok (.iload_n 2, 1) := by decide +kernel
theorem dX12_restore_61 : decode cX12_restore 61 = .ok (.iconst 4, 1) := by decide +kernel
theorem dX12_restore_62 : decode cX12_restore 62 = .ok (.iadd, 1) := by decide +kernel
theorem dX12_restore_63 : decode cX12_restore 63 = .ok (.iload_n 3, 1) := by decide +kernel
theorem dX12_restore_64 : decode cX12_restore 64 = .ok (.iadd, 1) := by decide +kernel
theorem dX12_restore_65 : decode cX12_restore 65 = .ok (.iaload, 1) := by decide +kernel
theorem dX12_restore_66 : decode cX12_restore 66 = .ok (.iastore, 1) := by decide +kernel
theorem dX12_restore_67 : decode cX12_restore 67 = .ok (.aload_n 0, 1) := by decide +kernel
theorem dX12_restore_68 : decode cX12_restore 68 = .ok (.getfield 25, 3) := by decide +kernel
theorem dX12_restore_71 : decode cX12_restore 71 = .ok (.iload_n 3, 1) := by decide +kernel
theorem dX12_restore_72 : decode cX12_restore 72 = .ok (.aload_n 0, 1) := by decide +kernel
theorem dX12_restore_73 : decode cX12_restore 73 = .ok (.getfield 73, 3) := by decide +kernel
theorem dX12_restore_76 : decode cX12_restore 76 = .ok (.iload_n 2, 1) := by decide +kernel
theorem dX12_restore_77 : decode cX12_restore 77 = .ok (.bipush 8, 2) := by decide +kernel
theorem dX12_restore_79 : decode cX12_restore 79 = .ok (.iadd, 1) := by decide +kernel
theorem dX12_restore_80 : decode cX12_restore 80 = .ok (.iload_n 3, 1) := by decide +kernel
theorem dX12_restore_81 : decode cX12_restore 81 = .ok (.iadd, 1) := by decide +kernel
theorem dX12_restore_82 : decode cX12_restore 82 = .ok (.iaload, 1) := by decide +kernel
theorem dX12_restore_83 : decode cX12_restore 83 = .ok (.iastore, 1) := by decide +kernel
theorem dX12_restore_84 : decode cX12_restore 84 = .ok (.iinc 3 1, 3) := by decide +kernel
theorem dX12_restore_87 : decode cX12_restore 87 = .ok (.goto (-55), 3) := by decide +kernel
theorem dX12_restore_90 : decode cX12_restore 90 = .ok (.aload_n 0, 1) := by decide +kernel
theorem dX12_restore_91 : decode cX12_restore 91 = .ok (.aload_n 0, 1) := by decide +kernel
theorem dX12_restore_92 : decode cX12_restore 92 = .ok (.getfield 73, 3) := by decide +kernel
theorem dX12_restore_95 : decode cX12_restore 95 = .ok (.iload_n 2, 1) := by decide +kernel
theorem dX12_restore_96 : decode cX12_restore 96 = .ok (.bipush 12, 2) := by decide +kernel
theorem dX12_restore_98 : decode cX12_restore 98 = .ok (.iadd, 1) := by decide +kernel
theorem dX12_restore_99 : decode cX12_restore 99 = .ok (.iaload, 1) := by decide +kernel
theorem dX12_restore_100 : decode cX12_restore 100 = .ok (.putfield 210, 3) := by decide +kernel
theorem dX12_restore_103 : decode cX12_restore 103 = .ok (.iconst 0, 1) := by decide +kernel
theorem dX12_restore_104 : decode cX12_restore 104 = .ok (.istore_n 3, 1) := by decide +kernel
theorem dX12_restore_105 : decode cX12_restore 105 = .ok (.iload_n 3, 1) := by decide +kernel
theorem dX12_restore_106 : decode cX12_restore 106 = .ok (.bipush 20, 2) := by decide +kernel
theorem dX12_restore_108 : decode cX12_restore 108 = .ok (.if_icmp .ge 26, 3) := by decide +kernel
theorem dX12_restore_111 : decode cX12_restore 111 = .ok (.aload_n 0, 1) := by decide +kernel
theorem dX12_restore_112 : decode cX12_restore 112 = .ok (.getfield 28, 3) := by decide +kernel
theorem dX12_restore_115 : decode cX12_restore 115 = .ok (.iload_n 3, 1) := by decide +kernel
theorem dX12_restore_116 : decode cX12_restore 116 = .ok (.aload_n 0, 1) := by decide +kernel
theorem dX12_restore_117 : decode cX12_restore 117 = .ok (.getfield 73, 3) := by decide +kernel
theorem dX12_restore_120 : decode cX12_restore 120 = .ok (.iload_n 2, 1) := by decide +kernel
theorem dX12_restore_121 : decode cX12_restore 121 = .ok (.bipush 13, 2) := by decide +kernel
theorem dX12_restore_123 : decode cX12_restore 123 = .ok (.iadd, 1) := by decide +kernel
theorem dX12_restore_124 : decode cX12_restore 124 = .ok (.iload_n 3, 1) := by decide +kernel
theorem dX12_restore_125 : decode cX12_restore 125 = .ok (.iadd, 1) := by decide +kernel
theorem dX12_restore_126 : decode cX12_restore 126 = .ok (.iaload, 1) := by decide +kernel
theorem dX12_restore_127 : decode cX12_restore 127 = .ok (.iastore, 1) := by decide +kernel
theorem dX12_restore_128 : decode cX12_restore 128 = .ok (.iinc 3 1, 3) := by decide +kernel
theorem dX12_restore_131 : decode cX12_restore 131 = .ok (.goto (-26), 3) := by decide +kernel
theorem dX12_restore_134 : decode cX12_restore 134 = .ok (.iconst 0, 1) := by decide +kernel
theorem dX12_restore_135 : decode cX12_restore 135 = .ok (.istore_n 3, 1) := by decide +kernel
theorem dX12_restore_136 : decode cX12_restore 136 = .ok (.iload_n 3, 1) := by decide +kernel
theorem dX12_restore_137 : decode cX12_restore 137 = .ok (.bipush 120, 2) := by decide +kernel
theorem dX12_restore_139 : decode cX12_restore 139 = .ok (.if_icmp .ge 26, 3) := by decide +kernel
theorem dX12_restore_142 : decode cX12_restore 142 = .ok (.aload_n 0, 1) := by decide +kernel
theorem dX12_restore_143 : decode cX12_restore 143 = .ok (.getfield 19, 3) := by decide +kernel
theorem dX12_restore_146 : decode cX12_restore 146 = .ok (.iload_n 3, 1) := by decide +kernel
theorem dX12_restore_147 : decode cX12_restore 147 = .ok (.aload_n 0, 1) := by decide +kernel
theorem dX12_restore_148 : decode cX12_restore 148 = .ok (.getfield 73, 3) := by decide +kernel
theorem dX12_restore_151 : decode cX12_restore 151 = .ok (.iload_n 2, 1) := by decide +kernel
theorem dX12_restore_152 : decode cX12_restore 152 = .ok (.bipush 33, 2) := by decide +kernel
theorem dX12_restore_154 : decode cX12_restore 154 = .ok (.iadd, 1) := by decide +kernel
theorem dX12_restore_155 : decode cX12_restore 155 = .ok (.iload_n 3, 1) := by decide +kernel
theorem dX12_restore_156 : decode cX12_restore 156 = .ok (.iadd, 1) := by decide +kernel
theorem dX12_restore_157 : decode cX12_restore 157 = .ok (.iaload, 1) := by decide +kernel
theorem dX12_restore_158 : decode cX12_restore 158 = .ok (.iastore, 1) := by decide +kernel
theorem dX12_restore_159 : decode cX12_restore 159 = .ok (.iinc 3 1, 3) := by decide +kernel
theorem dX12_restore_162 : decode cX12_restore 162 = .ok (.goto (-26), 3) := by decide +kernel
theorem dX12_restore_165 : decode cX12_restore 165 = .ok (.iconst 0, 1) := by decide +kernel
theorem dX12_restore_166 : decode cX12_restore 166 = .ok (.istore_n 3, 1) := by decide +kernel
theorem dX12_restore_167 : decode cX12_restore 167 = .ok (.iload_n 3, 1) := by decide +kernel
theorem dX12_restore_168 : decode cX12_restore 168 = .ok (.iconst 4, 1) := by decide +kernel
theorem dX12_restore_169 : decode cX12_restore 169 = .ok (.if_icmp .ge 14, 3) := by decide +kernel
theorem dX12_restore_172 : decode cX12_restore 172 = .ok (.aload_n 0, 1) := by decide +kernel
theorem dX12_restore_173 : decode cX12_restore 173 = .ok (.iload_n 3, 1) := by decide +kernel
theorem dX12_restore_174 : decode cX12_restore 174 = .ok (.invokevirtual 106, 3) := by decide +kernel
theorem dX12_restore_177 : decode cX12_restore 177 = .ok (.iinc 3 1, 3) := by decide +kernel
theorem dX12_restore_180 : decode cX12_restore 180 = .ok (.goto (-13), 3) := by decide +kernel
theorem dX12_restore_183 : decode cX12_restore 183 = .ok (.iconst 1, 1) := by decide +kernel
theorem dX12_restore_184 : decode cX12_restore 184 = .ok (.ireturn, 1) := by decide +kernel
theorem dX12_told_0 : decode cX12_told 0 = .ok (.iload_n 1, 1) := by decide +kernel
theorem dX12_told_1 : decode cX12_told 1 = .ok (.bipush 10, 2) := by decide +kernel
theorem dX12_told_3 : decode cX12_told 3 = .ok (.bipush 13, 2) := by decide +kernel
theorem dX12_told_5 : decode cX12_told 5 = .ok (.invokestatic 80, 3) := by decide +kernel
theorem dX12_told_8 : decode cX12_told 8 = .ok (.ifCond .eq 13, 3) := by decide +kernel
theorem dX12_told_11 : decode cX12_told 11 = .ok (.aload_n 0, 1) := by decide +kernel
theorem dX12_told_12 : decode cX12_told 12 = .ok (.getfield 25, 3) := by decide +kernel
theorem dX12_told_15 : decode cX12_told 15 = .ok (.iload_n 1, 1) := by decide +kernel
theorem dX12_told_16 : decode cX12_told 16 = .ok (.bipush 10, 2) := by decide +kernel
theorem dX12_told_18 : decode cX12_told 18 = .ok (.isub, 1) := by decide +kernel
theorem dX12_told_19 : decode cX12_told 19 = .ok (.iaload, 1) := by decide +kernel
theorem dX12_told_20 : decode cX12_told 20 = .ok (.ireturn, 1) := by decide +kernel
theorem dX12_told_21 : decode cX12_told 21 = .ok (.iload_n 1, 1) := by decide +kernel
theorem dX12_told_22 : decode cX12_told 22 = .ok (.bipush 20, 2) := by decide +kernel
theorem dX12_told_24 : decode cX12_told 24 = .ok (.bipush 23, 2) := by decide +kernel
theorem dX12_told_26 : decode cX12_told 26 = .ok (.invokestatic 80, 3) := by decide +kernel
theorem dX12_told_29 : decode cX12_told 29 = .ok (.ifCond .eq 13, 3) := by decide +kernel
theorem dX12_told_32 : decode cX12_told 32 = .ok (.aload_n 0, 1) := by decide +kernel
theorem dX12_told_33 : decode cX12_told 33 = .ok (.getfield 16, 3) := by decide +kernel
theorem dX12_told_36 : decode cX12_told 36 = .ok (.iload_n 1, 1) := by decide +kernel
theorem dX12_told_37 : decode cX12_told 37 = .ok (.bipush 20, 2) := by decide +kernel
theorem dX12_told_39 : decode cX12_told 39 = .ok (.isub, 1) := by decide +kernel
theorem dX12_told_40 : decode cX12_told 40 = .ok (.iaload, 1) := by decide +kernel
theorem dX12_told_41 : decode cX12_told 41 = .ok (.ireturn, 1) := by decide +kernel
theorem dX12_told_42 : decode cX12_told 42 = .ok (.iload_n 1, 1) := by decide +kernel
theorem dX12_told_43 : decode cX12_told 43 = .ok (.ifCond .ne 10, 3) := by decide +kernel
theorem dX12_told_46 : decode cX12_told 46 = .ok (.aload_n 0, 1) := by decide +kernel
theorem dX12_told_47 : decode cX12_told 47 = .ok (.getfield 87, 3) := by decide +kernel
theorem dX12_told_50 : decode cX12_told 50 = .ok (.goto 37, 3) := by decide +kernel
theorem dX12_told_53 : decode cX12_told 53 = .ok (.iload_n 1, 1) := by decide +kernel
theorem dX12_told_54 : decode cX12_told 54 = .ok (.iconst 1, 1) := by decide +kernel
theorem dX12_told_55 : decode cX12_told 55 = .ok (.if_icmp .ne 10, 3) := by decide +kernel
theorem dX12_told_58 : decode cX12_told 58 = .ok (.aload_n 0, 1) := by decide +kernel
theorem dX12_told_59 : decode cX12_told 59 = .ok (.getfield 210, 3) := by decide +kernel
theorem dX12_told_62 : decode cX12_told 62 = .ok (.goto 25, 3) := by decide +kernel
theorem dX12_told_65 : decode cX12_told 65 = .ok (.iload_n 1, 1) := by decide +kernel
theorem dX12_told_66 : decode cX12_told 66 = .ok (.iconst 2, 1) := by decide +kernel
theorem dX12_told_67 : decode cX12_told 67 = .ok (.iconst 5, 1) := by decide +kernel
theorem dX12_told_68 : decode cX12_told 68 = .ok (.invokestatic 80, 3) := by decide +kernel
theorem dX12_told_71 : decode cX12_told 71 = .ok (.ifCond .eq 14, 3) := by decide +kernel
theorem dX12_told_74 : decode cX12_told 74 = .ok (.aload_n 0, 1) := by decide +kernel
theorem dX12_told_75 : decode cX12_told 75 = .ok (.getfield 7, 3) := by decide +kernel
theorem dX12_told_78 : decode cX12_told 78 = .ok (.iload_n 1, 1) := by decide +kernel
theorem dX12_told_79 : decode cX12_told 79 = .ok (.iconst 2, 1) := by decide +kernel
theorem dX12_told_80 : decode cX12_told 80 = .ok (.isub, 1) := by decide +kernel
theorem dX12_told_81 : decode cX12_told 81 = .ok (.iaload, 1) := by decide +kernel
theorem dX12_told_82 : decode cX12_told 82 = .ok (.goto 5, 3) := by decide +kernel
theorem dX12_told_85 : decode cX12_told 85 = .ok (.bipush (-2), 2) := by decide +kernel
theorem dX12_told_87 : decode cX12_told 87 = .ok (.ireturn, 1) := by decide +kernel
theorem dJ6_bitCount_0f7a4_0 : decode cJ6_bitCount_0f7a4 0 = .ok (.iload_n 0, 1) := by decide +kernel
theorem dJ6_bitCount_0f7a4_1 : decode cJ6_bitCount_0f7a4 1 = .ok (.iload_n 0, 1) := by decide +kernel
theorem dJ6_bitCount_0f7a4_2 : decode cJ6_bitCount_0f7a4 2 = .ok (.iconst 1, 1) := by decide +kernel
theorem dJ6_bitCount_0f7a4_3 : decode cJ6_bitCount_0f7a4 3 = .ok (.iushr, 1) := by decide +kernel
theorem dJ6_bitCount_0f7a4_4 : decode cJ6_bitCount_0f7a4 4 = .ok (.ldc_w 265, 3) := by decide +kernel
theorem dJ6_bitCount_0f7a4_7 : decode cJ6_bitCount_0f7a4 7 = .ok (.iand, 1) := by decide +kernel
theorem dJ6_bitCount_0f7a4_8 : decode cJ6_bitCount_0f7a4 8 = .ok (.isub, 1) := by decide +kernel
theorem dJ6_bitCount_0f7a4_9 : decode cJ6_bitCount_0f7a4 9 = .ok (.istore_n 0, 1) := by decide +kernel
theorem dJ6_bitCount_0f7a4_10 : decode cJ6_bitCount_0f7a4 10 = .ok (.iload_n 0, 1) := by decide +kernel
theorem dJ6_bitCount_0f7a4_11 : decode cJ6_bitCount_0f7a4 11 = .ok (.ldc_w 266, 3) := by decide +kernel
theorem dJ6_bitCount_0f7a4_14 : decode cJ6_bitCount_0f7a4 14 = .ok (.iand, 1) := by decide +kernel
theorem dJ6_bitCount_0f7a4_15 : decode cJ6_bitCount_0f7a4 15 = .ok (.iload_n 0, 1) := by decide +kernel
theorem dJ6_bitCount_0f7a4_16 : decode cJ6_bitCount_0f7a4 16 = .ok (.iconst 2, 1) := by decide +kernel
theorem dJ6_bitCount_0f7a4_17 : decode cJ6_bitCount_0f7a4 17 = .ok (.iushr, 1) := by decide +kernel
theorem dJ6_bitCount_0f7a4_18 : decode cJ6_bitCount_0f7a4 18 = .ok (.ldc_w 266, 3) := by decide +kernel
theorem dJ6_bitCount_0f7a4_21 : decode cJ6_bitCount_0f7a4 21 = .ok (.iand, 1) := by decide +kernel
theorem dJ6_bitCount_0f7a4_22 : decode cJ6_bitCount_0f7a4 22 = .ok (.iadd, 1) := by decide +kernel
theorem dJ6_bitCount_0f7a4_23 : decode cJ6_bitCount_0f7a4 23 = .ok (.istore_n 0, 1) := by decide +kernel
theorem dJ6_bitCount_0f7a4_24 : decode cJ6_bitCount_0f7a4 24 = .ok (.iload_n 0, 1) := by decide +kernel
theorem dJ6_bitCount_0f7a4_25 : decode cJ6_bitCount_0f7a4 25 = .ok (.iload_n 0, 1) := by decide +kernel
theorem dJ6_bitCount_0f7a4_26 : decode cJ6_bitCount_0f7a4 26 = .ok (.iconst 4, 1) := by decide +kernel
theorem dJ6_bitCount_0f7a4_27 : decode cJ6_bitCount_0f7a4 27 = .ok (.iushr, 1) := by decide +kernel
theorem dJ6_bitCount_0f7a4_28 : decode cJ6_bitCount_0f7a4 28 = .ok (.iadd, 1) := by decide +kernel
theorem dJ6_bitCount_0f7a4_29 : decode cJ6_bitCount_0f7a4 29 = .ok (.ldc_w 267, 3) := by decide +kernel
theorem dJ6_bitCount_0f7a4_32 : decode cJ6_bitCount_0f7a4 32 = .ok (.iand, 1) := by decide +kernel
theorem dJ6_bitCount_0f7a4_33 : decode cJ6_bitCount_0f7a4 33 = .ok (.istore_n 0, 1) := by decide +kernel
theorem dJ6_bitCount_0f7a4_34 : decode cJ6_bitCount_0f7a4 34 = .ok (.iload_n 0, 1) := by decide +kernel
theorem dJ6_bitCount_0f7a4_35 : decode cJ6_bitCount_0f7a4 35 = .ok (.iload_n 0, 1) := by decide +kernel
theorem dJ6_bitCount_0f7a4_36 : decode cJ6_bitCount_0f7a4 36 = .ok (.bipush 8, 2) := by decide +kernel
theorem dJ6_bitCount_0f7a4_38 : decode cJ6_bitCount_0f7a4 38 = .ok (.iushr, 1) := by decide +kernel
theorem dJ6_bitCount_0f7a4_39 : decode cJ6_bitCount_0f7a4 39 = .ok (.iadd, 1) := by decide +kernel
theorem dJ6_bitCount_0f7a4_40 : decode cJ6_bitCount_0f7a4 40 = .ok (.istore_n 0, 1) := by decide +kernel
theorem dJ6_bitCount_0f7a4_41 : decode cJ6_bitCount_0f7a4 41 = .ok (.iload_n 0, 1) := by decide +kernel
theorem dJ6_bitCount_0f7a4_42 : decode cJ6_bitCount_0f7a4 42 = .ok (.iload_n 0, 1) := by decide +kernel
theorem dJ6_bitCount_0f7a4_43 : decode cJ6_bitCount_0f7a4 43 = .ok (.bipush 16, 2) := by decide +kernel
theorem dJ6_bitCount_0f7a4_45 : decode cJ6_bitCount_0f7a4 45 = .ok (.iushr, 1) := by decide +kernel
theorem dJ6_bitCount_0f7a4_46 : decode cJ6_bitCount_0f7a4 46 = .ok (.iadd, 1) := by decide +kernel
theorem dJ6_bitCount_0f7a4_47 : decode cJ6_bitCount_0f7a4 47 = .ok (.istore_n 0, 1) := by decide +kernel
theorem dJ6_bitCount_0f7a4_48 : decode cJ6_bitCount_0f7a4 48 = .ok (.iload_n 0, 1) := by decide +kernel
theorem dJ6_bitCount_0f7a4_49 : decode cJ6_bitCount_0f7a4 49 = .ok (.bipush 63, 2) := by decide +kernel
theorem dJ6_bitCount_0f7a4_51 : decode cJ6_bitCount_0f7a4 51 = .ok (.iand, 1) := by decide +kernel
theorem dJ6_bitCount_0f7a4_52 : decode cJ6_bitCount_0f7a4 52 = .ok (.ireturn, 1) := by decide +kernel
theorem dJ9_max_7cf53_0 : decode cJ9_max_7cf53 0 = .ok (.iload_n 0, 1) := by decide +kernel
theorem dJ9_max_7cf53_1 : decode cJ9_max_7cf53 1 = .ok (.iload_n 1, 1) := by decide +kernel
theorem dJ9_max_7cf53_2 : decode cJ9_max_7cf53 2 = .ok (.if_icmp .lt 7, 3) := by decide +kernel
theorem dJ9_max_7cf53_5 : decode cJ9_max_7cf53 5 = .ok (.iload_n 0, 1) := by decide +kernel
theorem dJ9_max_7cf53_6 : decode cJ9_max_7cf53 6 = .ok (.goto 4, 3) := by decide +kernel
theorem dJ9_max_7cf53_9 : decode cJ9_max_7cf53 9 = .ok (.iload_n 1, 1) := by decide +kernel
theorem dJ9_max_7cf53_10 : decode cJ9_max_7cf53 10 = .ok (.ireturn, 1) := by decide +kernel
theorem dJ9_min_7cf53_0 : decode cJ9_min_7cf53 0 = .ok (.iload_n 0, 1) := by decide +kernel
theorem dJ9_min_7cf53_1 : decode cJ9_min_7cf53 1 = .ok (.iload_n 1, 1) := by decide +kernel
theorem dJ9_min_7cf53_2 : decode cJ9_min_7cf53 2 = .ok (.if_icmp .gt 7, 3) := by decide +kernel
theorem dJ9_min_7cf53_5 : decode cJ9_min_7cf53 5 = .ok (.iload_n 0, 1) := by decide +kernel
theorem dJ9_min_7cf53_6 : decode cJ9_min_7cf53 6 = .ok (.goto 4, 3) := by decide +kernel
theorem dJ9_min_7cf53_9 : decode cJ9_min_7cf53 9 = .ok (.iload_n 1, 1) := by decide +kernel
theorem dJ9_min_7cf53_10 : decode cJ9_min_7cf53 10 = .ok (.ireturn, 1) := by decide +kernel
theorem dL_law_0 : decode cL_law 0 = .ok (.new 7, 3) := by decide +kernel
theorem dL_law_3 : decode cL_law 3 = .ok (.dup, 1) := by decide +kernel
theorem dL_law_4 : decode cL_law 4 = .ok (.invokespecial 9, 3) := by decide +kernel
theorem dL_law_7 : decode cL_law 7 = .ok (.astore_n 1, 1) := by decide +kernel
theorem dL_law_8 : decode cL_law 8 = .ok (.new 10, 3) := by decide +kernel
theorem dL_law_11 : decode cL_law 11 = .ok (.dup, 1) := by decide +kernel
theorem dL_law_12 : decode cL_law 12 = .ok (.invokespecial 12, 3) := by decide +kernel
theorem dL_law_15 : decode cL_law 15 = .ok (.astore_n 2, 1) := by decide +kernel
theorem dL_law_16 : decode cL_law 16 = .ok (.iconst 0, 1) := by decide +kernel
theorem dL_law_17 : decode cL_law 17 = .ok (.istore_n 3, 1) := by decide +kernel
theorem dL_law_18 : decode cL_law 18 = .ok (.iload_n 3, 1) := by decide +kernel
theorem dL_law_19 : decode cL_law 19 = .ok (.aload_n 0, 1) := by decide +kernel
theorem dL_law_20 : decode cL_law 20 = .ok (.arraylength, 1) := by decide +kernel
theorem dL_law_21 : decode cL_law 21 = .ok (.iconst 5, 1) := by decide +kernel
theorem dL_law_22 : decode cL_law 22 = .ok (.isub, 1) := by decide +kernel
theorem dL_law_23 : decode cL_law 23 = .ok (.if_icmp .gt 762, 3) := by decide +kernel
theorem dL_law_26 : decode cL_law 26 = .ok (.aload_n 0, 1) := by decide +kernel
theorem dL_law_27 : decode cL_law 27 = .ok (.iload_n 3, 1) := by decide +kernel
theorem dL_law_28 : decode cL_law 28 = .ok (.iaload, 1) := by decide +kernel
theorem dL_law_29 : decode cL_law 29 = .ok (.bipush 31, 2) := by decide +kernel
theorem dL_law_31 : decode cL_law 31 = .ok (.iand, 1) := by decide +kernel
theorem dL_law_32 : decode cL_law 32 = .ok (.tableswitch 747 0 22 #[108, 141, 164, 177, 190, 213, 256, 279, 292, 325, 358, 391, 444, 477, 510, 543, 566, 599, 632, 655, 678, 701, 724], 108) := by decide +kernel
theorem dL_law_140 : decode cL_law 140 = .ok (.aload_n 1, 1) := by decide +kernel
theorem dL_law_141 : decode cL_law 141 = .ok (.aload_n 0, 1) := by decide +kernel
theorem dL_law_142 : decode cL_law 142 = .ok (.iload_n 3, 1) := by decide +kernel
theorem dL_law_143 : decode cL_law 143 = .ok (.iconst 1, 1) := by decide +kernel
theorem dL_law_144 : decode cL_law 144 = .ok (.iadd, 1) := by decide +kernel
theorem dL_law_145 : decode cL_law 145 = .ok (.iaload, 1) := by decide +kernel
theorem dL_law_146 : decode cL_law 146 = .ok (.aload_n 0, 1) := by decide +kernel
theorem dL_law_147 : decode cL_law 147 = .ok (.iload_n 3, 1) := by decide +kernel
theorem dL_law_148 : decode cL_law 148 = .ok (.iconst 2, 1) := by decide +kernel
theorem dL_law_149 : decode cL_law 149 = .ok (.iadd, 1) := by decide +kernel
theorem dL_law_150 : decode cL_law 150 = .ok (.iaload, 1) := by decide +kernel
theorem dL_law_151 : decode cL_law 151 = .ok (.invokevirtual 13, 3) := by decide +kernel
theorem dL_law_154 : decode cL_law 154 = .ok (.aload_n 2, 1) := by decide +kernel
theorem dL_law_155 : decode cL_law 155 = .ok (.aload_n 0, 1) := by decide +kernel
theorem dL_law_156 : decode cL_law 156 = .ok (.iload_n 3, 1) := by decide +kernel
theorem dL_law_157 : decode cL_law 157 = .ok (.iconst 1, 1) := by decide +kernel
theorem dL_law_158 : decode cL_law 158 = .ok (.iadd, 1) := by decide +kernel
theorem dL_law_159 : decode cL_law 159 = .ok (.iaload, 1) := by decide +kernel
theorem dL_law_160 : decode cL_law 160 = .ok (.aload_n 0, 1) := by decide +kernel
theorem dL_law_161 : decode cL_law 161 = .ok (.iload_n 3, 1) := by decide +kernel
theorem dL_law_162 : decode cL_law 162 = .ok (.iconst 2, 1) := by decide +kernel
theorem dL_law_163 : decode cL_law 163 = .ok (.iadd, 1) := by decide +kernel
theorem dL_law_164 : decode cL_law 164 = .ok (.iaload, 1) := by decide +kernel
theorem dL_law_165 : decode cL_law 165 = .ok (.invokevirtual 17, 3) := by decide +kernel
theorem dL_law_168 : decode cL_law 168 = .ok (.if_icmp .eq 611, 3) := by decide +kernel
theorem dL_law_171 : decode cL_law 171 = .ok (.iconst 0, 1) := by decide +kernel
theorem dL_law_172 : decode cL_law 172 = .ok (.ireturn, 1) := by decide +kernel
theorem dL_law_173 : decode cL_law 173 = .ok (.aload_n 1, 1) := by decide +kernel
theorem dL_law_174 : decode cL_law 174 = .ok (.aload_n 0, 1) := by decide +kernel
theorem dL_law_175 : decode cL_law 175 = .ok (.iload_n 3, 1) := by decide +kernel
theorem dL_law_176 : decode cL_law 176 = .ok (.iconst 1, 1) := by decide +kernel
theorem dL_law_177 : decode cL_law 177 = .ok (.iadd, 1) := by decide +kernel
theorem dL_law_178 : decode cL_law 178 = .ok (.iaload, 1) := by decide +kernel
theorem dL_law_179 : decode cL_law 179 = .ok (.invokevirtual 18, 3) := by decide +kernel
theorem dL_law_182 : decode cL_law 182 = .ok (.aload_n 2, 1) := by decide +kernel
theorem dL_law_183 : decode cL_law 183 = .ok (.aload_n 0, 1) := by decide +kernel
theorem dL_law_184 : decode cL_law 184 = .ok (.iload_n 3, 1) := by decide +kernel
theorem dL_law_185 : decode cL_law 185 = .ok (.iconst 1, 1) := by decide +kernel
theorem dL_law_186 : decode cL_law 186 = .ok (.iadd, 1) := by decide +kernel
theorem dL_law_187 : decode cL_law 187 = .ok (.iaload, 1) := by decide +kernel
theorem dL_law_188 : decode cL_law 188 = .ok (.invokevirtual 22, 3) := by decide +kernel
theorem dL_law_191 : decode cL_law 191 = .ok (.if_icmp .eq 588, 3) := by decide +kernel
theorem dL_law_194 : decode cL_law 194 = .ok (.iconst 0, 1) := by decide +kernel
theorem dL_law_195 : decode cL_law 195 = .ok (.ireturn, 1) := by decide +kernel
theorem dL_law_196 : decode cL_law 196 = .ok (.aload_n 1, 1) := by decide +kernel
theorem dL_law_197 : decode cL_law 197 = .ok (.invokevirtual 23, 3) := by decide +kernel
theorem dL_law_200 : decode cL_law 200 = .ok (.aload_n 2, 1) := by decide +kernel
theorem dL_law_201 : decode cL_law 201 = .ok (.invokevirtual 27, 3) := by decide +kernel
theorem dL_law_204 : decode cL_law 204 = .ok (.if_icmp .eq 575, 3) := by decide +kernel
theorem dL_law_207 : decode cL_law 207 = .ok (.iconst 0, 1) := by decide +kernel
theorem dL_law_208 : decode cL_law 208 = .ok (.ireturn, 1) := by decide +kernel
theorem dL_law_209 : decode cL_law 209 = .ok (.aload_n 1, 1) := by decide +kernel
theorem dL_law_210 : decode cL_law 210 = .ok (.invokevirtual 28, 3) := by decide +kernel
theorem dL_law_213 : decode cL_law 213 = .ok (.aload_n 2, 1) := by decide +kernel
theorem dL_law_214 : decode cL_law 214 = .ok (.invokevirtual 31, 3) := by decide +kernel
theorem dL_law_217 : decode cL_law 217 = .ok (.if_icmp .eq 562, 3) := by decide +kernel
theorem dL_law_220 : decode cL_law 220 = .ok (.iconst 0, 1) := by decide +kernel
theorem dL_law_221 : decode cL_law 221 = .ok (.ireturn, 1) := by decide +kernel
theorem dL_law_222 : decode cL_law 222 = .ok (.aload_n 1, 1) := by decide +kernel
theorem dL_law_223 : decode cL_law 223 = .ok (.aload_n 0, 1) := by decide +kernel
theorem dL_law_224 : decode cL_law 224 = .ok (.iload_n 3, 1) := by decide +kernel
theorem dL_law_225 : decode cL_law 225 = .ok (.iconst 1, 1) := by decide +kernel
theorem dL_law_226 : decode cL_law 226 = .ok (.iadd, 1) := by decide +kernel
theorem dL_law_227 : decode cL_law 227 = .ok (.iaload, 1) := by decide +kernel
theorem dL_law_228 : decode cL_law 228 = .ok (.invokevirtual 32, 3) := by decide +kernel
theorem dL_law_231 : decode cL_law 231 = .ok (.aload_n 2, 1) := by decide +kernel
theorem dL_law_232 : decode cL_law 232 = .ok (.aload_n 0, 1) := by decide +kernel
theorem dL_law_233 : decode cL_law 233 = .ok (.iload_n 3, 1) := by decide +kernel
theorem dL_law_234 : decode cL_law 234 = .ok (.iconst 1, 1) := by decide +kernel
theorem dL_law_235 : decode cL_law 235 = .ok (.iadd, 1) := by decide +kernel
theorem dL_law_236 : decode cL_law 236 = .ok (.iaload, 1) := by decide +kernel
theorem dL_law_237 : decode cL_law 237 = .ok (.invokevirtual 35, 3) := by decide +kernel
theorem dL_law_240 : decode cL_law 240 = .ok (.if_icmp .eq 539, 3) := by decide +kernel
theorem dL_law_243 : decode cL_law 243 = .ok (.iconst 0, 1) := by decide +kernel
theorem dL_law_244 : decode cL_law 244 = .ok (.ireturn, 1) := by decide +kernel
theorem dL_law_245 : decode cL_law 245 = .ok (.aload_n 1, 1) := by decide +kernel
theorem dL_law_246 : decode cL_law 246 = .ok (.aload_n 0, 1) := by decide +kernel
theorem dL_law_247 : decode cL_law 247 = .ok (.iload_n 3, 1) := by decide +kernel
theorem dL_law_248 : decode cL_law 248 = .ok (.iconst 1, 1) := by decide +kernel
theorem dL_law_249 : decode cL_law 249 = .ok (.iadd, 1) := by decide +kernel
theorem dL_law_250 : decode cL_law 250 = .ok (.iaload, 1) := by decide +kernel
theorem dL_law_251 : decode cL_law 251 = .ok (.aload_n 0, 1) := by decide +kernel
theorem dL_law_252 : decode cL_law 252 = .ok (.iload_n 3, 1) := by decide +kernel
theorem dL_law_253 : decode cL_law 253 = .ok (.iconst 2, 1) := by decide +kernel
theorem dL_law_254 : decode cL_law 254 = .ok (.iadd, 1) := by decide +kernel
theorem dL_law_255 : decode cL_law 255 = .ok (.iaload, 1) := by decide +kernel
theorem dL_law_256 : decode cL_law 256 = .ok (.aload_n 0, 1) := by decide +kernel
theorem dL_law_257 : decode cL_law 257 = .ok (.iload_n 3, 1) := by decide +kernel
theorem dL_law_258 : decode cL_law 258 = .ok (.iconst 3, 1) := by decide +kernel
theorem dL_law_259 : decode cL_law 259 = .ok (.iadd, 1) := by decide +kernel
theorem dL_law_260 : decode cL_law 260 = .ok (.iaload, 1) := by decide +kernel
theorem dL_law_261 : decode cL_law 261 = .ok (.invokevirtual 36, 3) := by decide +kernel
theorem dL_law_264 : decode cL_law 264 = .ok (.aload_n 2, 1) := by decide +kernel
theorem dL_law_265 : decode cL_law 265 = .ok (.aload_n 0, 1) := by decide +kernel
theorem dL_law_266 : decode cL_law 266 = .ok (.iload_n 3, 1) := by decide +kernel
theorem dL_law_267 : decode cL_law 267 = .ok (.iconst 1, 1) := by decide +kernel
theorem dL_law_268 : decode cL_law 268 = .ok (.iadd, 1) := by decide +kernel
theorem dL_law_269 : decode cL_law 269 = .ok (.iaload, 1) := by decide +kernel
theorem dL_law_270 : decode cL_law 270 = .ok (.aload_n 0, 1) := by decide +kernel
theorem dL_law_271 : decode cL_law 271 = .ok (.iload_n 3, 1) := by decide +kernel
theorem dL_law_272 : decode cL_law 272 = .ok (.iconst 2, 1) := by decide +kernel
theorem dL_law_273 : decode cL_law 273 = .ok (.iadd, 1) := by decide +kernel
theorem dL_law_274 : decode cL_law 274 = .ok (.iaload, 1) := by decide +kernel
theorem dL_law_275 : decode cL_law 275 = .ok (.aload_n 0, 1) := by decide +kernel
theorem dL_law_276 : decode cL_law 276 = .ok (.iload_n 3, 1) := by decide +kernel
theorem dL_law_277 : decode cL_law 277 = .ok (.iconst 3, 1) := by decide +kernel
theorem dL_law_278 : decode cL_law 278 = .ok (.iadd, 1) := by decide +kernel
theorem dL_law_279 : decode cL_law 279 = .ok (.iaload, 1) := by decide +kernel
theorem dL_law_280 : decode cL_law 280 = .ok (.invokevirtual 40, 3) := by decide +kernel
theorem dL_law_283 : decode cL_law 283 = .ok (.if_icmp .eq 496, 3) := by decide +kernel
theorem dL_law_286 : decode cL_law 286 = .ok (.iconst 0, 1) := by decide +kernel
theorem dL_law_287 : decode cL_law 287 = .ok (.ireturn, 1) := by decide +kernel
theorem dL_law_288 : decode cL_law 288 = .ok (.aload_n 1, 1) := by decide +kernel
theorem dL_law_289 : decode cL_law 289 = .ok (.aload_n 0, 1) := by decide +kernel
theorem dL_law_290 : decode cL_law 290 = .ok (.iload_n 3, 1) := by decide +kernel
theorem dL_law_291 : decode cL_law 291 = .ok (.iconst 1, 1) := by decide +kernel
theorem dL_law_292 : decode cL_law 292 = .ok (.iadd, 1) := by decide +kernel
theorem dL_law_293 : decode cL_law 293 = .ok (.iaload, 1) := by decide +kernel
theorem dL_law_294 : decode cL_law 294 = .ok (.invokevirtual 41, 3) := by decide +kernel
theorem dL_law_297 : decode cL_law 297 = .ok (.aload_n 2, 1) := by decide +kernel
theorem dL_law_298 : decode cL_law 298 = .ok (.aload_n 0, 1) := by decide +kernel
theorem dL_law_299 : decode cL_law 299 = .ok (.iload_n 3, 1) := by decide +kernel
theorem dL_law_300 : decode cL_law 300 = .ok (.iconst 1, 1) := by decide +kernel
theorem dL_law_301 : decode cL_law 301 = .ok (.iadd, 1) := by decide +kernel
theorem dL_law_302 : decode cL_law 302 = .ok (.iaload, 1) := by decide +kernel
theorem dL_law_303 : decode cL_law 303 = .ok (.invokevirtual 44, 3) := by decide +kernel
theorem dL_law_306 : decode cL_law 306 = .ok (.if_icmp .eq 473, 3) := by decide +kernel
theorem dL_law_309 : decode cL_law 309 = .ok (.iconst 0, 1) := by decide +kernel
theorem dL_law_310 : decode cL_law 310 = .ok (.ireturn, 1) := by decide +kernel
theorem dL_law_311 : decode cL_law 311 = .ok (.aload_n 1, 1) := by decide +kernel
theorem dL_law_312 : decode cL_law 312 = .ok (.invokevirtual 45, 3) := by decide +kernel
theorem dL_law_315 : decode cL_law 315 = .ok (.aload_n 2, 1) := by decide +kernel
theorem dL_law_316 : decode cL_law 316 = .ok (.invokevirtual 48, 3) := by decide +kernel
theorem dL_law_319 : decode cL_law 319 = .ok (.if_icmp .eq 460, 3) := by decide +kernel
theorem dL_law_322 : decode cL_law 322 = .ok (.iconst 0, 1) := by decide +kernel
theorem dL_law_323 : decode cL_law 323 = .ok (.ireturn, 1) := by decide +kernel
theorem dL_law_324 : decode cL_law 324 = .ok (.aload_n 1, 1) := by decide +kernel
theorem dL_law_325 : decode cL_law 325 = .ok (.aload_n 0, 1) := by decide +kernel
theorem dL_law_326 : decode cL_law 326 = .ok (.iload_n 3, 1) := by decide +kernel
theorem dL_law_327 : decode cL_law 327 = .ok (.iconst 1, 1) := by decide +kernel
theorem dL_law_328 : decode cL_law 328 = .ok (.iadd, 1) := by decide +kernel
theorem dL_law_329 : decode cL_law 329 = .ok (.iaload, 1) := by decide +kernel
theorem dL_law_330 : decode cL_law 330 = .ok (.aload_n 0, 1) := by decide +kernel
theorem dL_law_331 : decode cL_law 331 = .ok (.iload_n 3, 1) := by decide +kernel
theorem dL_law_332 : decode cL_law 332 = .ok (.iconst 2, 1) := by decide +kernel
theorem dL_law_333 : decode cL_law 333 = .ok (.iadd, 1) := by decide +kernel
theorem dL_law_334 : decode cL_law 334 = .ok (.iaload, 1) := by decide +kernel
theorem dL_law_335 : decode cL_law 335 = .ok (.invokevirtual 49, 3) := by decide +kernel
theorem dL_law_338 : decode cL_law 338 = .ok (.aload_n 2, 1) := by decide +kernel
theorem dL_law_339 : decode cL_law 339 = .ok (.aload_n 0, 1) := by decide +kernel
theorem dL_law_340 : decode cL_law 340 = .ok (.iload_n 3, 1) := by decide +kernel
theorem dL_law_341 : decode cL_law 341 = .ok (.iconst 1, 1) := by decide +kernel
theorem dL_law_342 : decode cL_law 342 = .ok (.iadd, 1) := by decide +kernel
theorem dL_law_343 : decode cL_law 343 = .ok (.iaload, 1) := by decide +kernel
theorem dL_law_344 : decode cL_law 344 = .ok (.aload_n 0, 1) := by decide +kernel
theorem dL_law_345 : decode cL_law 345 = .ok (.iload_n 3, 1) := by decide +kernel
theorem dL_law_346 : decode cL_law 346 = .ok (.iconst 2, 1) := by decide +kernel
theorem dL_law_347 : decode cL_law 347 = .ok (.iadd, 1) := by decide +kernel
theorem dL_law_348 : decode cL_law 348 = .ok (.iaload, 1) := by decide +kernel
theorem dL_law_349 : decode cL_law 349 = .ok (.invokevirtual 52, 3) := by decide +kernel
theorem dL_law_352 : decode cL_law 352 = .ok (.if_icmp .eq 427, 3) := by decide +kernel
theorem dL_law_355 : decode cL_law 355 = .ok (.iconst 0, 1) := by decide +kernel
theorem dL_law_356 : decode cL_law 356 = .ok (.ireturn, 1) := by decide +kernel
theorem dL_law_357 : decode cL_law 357 = .ok (.aload_n 1, 1) := by decide +kernel
theorem dL_law_358 : decode cL_law 358 = .ok (.aload_n 0, 1) := by decide +kernel
theorem dL_law_359 : decode cL_law 359 = .ok (.iload_n 3, 1) := by decide +kernel
theorem dL_law_360 : decode cL_law 360 = .ok (.iconst 1, 1) := by decide +kernel
theorem dL_law_361 : decode cL_law 361 = .ok (.iadd, 1) := by decide +kernel
theorem dL_law_362 : decode cL_law 362 = .ok (.iaload, 1) := by decide +kernel
theorem dL_law_363 : decode cL_law 363 = .ok (.aload_n 0, 1) := by decide +kernel
theorem dL_law_364 : decode cL_law 364 = .ok (.iload_n 3, 1) := by decide +kernel
theorem dL_law_365 : decode cL_law 365 = .ok (.iconst 2, 1) := by decide +kernel
theorem dL_law_366 : decode cL_law 366 = .ok (.iadd, 1) := by decide +kernel
theorem dL_law_367 : decode cL_law 367 = .ok (.iaload, 1) := by decide +kernel
theorem dL_law_368 : decode cL_law 368 = .ok (.invokevirtual 53, 3) := by decide +kernel
theorem dL_law_371 : decode cL_law 371 = .ok (.aload_n 2, 1) := by decide +kernel
theorem dL_law_372 : decode cL_law 372 = .ok (.aload_n 0, 1) := by decide +kernel
theorem dL_law_373 : decode cL_law 373 = .ok (.iload_n 3, 1) := by decide +kernel
theorem dL_law_374 : decode cL_law 374 = .ok (.iconst 1, 1) := by decide +kernel
theorem dL_law_375 : decode cL_law 375 = .ok (.iadd, 1) := by decide +kernel
theorem dL_law_376 : decode cL_law 376 = .ok (.iaload, 1) := by decide +kernel
theorem dL_law_377 : decode cL_law 377 = .ok (.aload_n 0, 1) := by decide +kernel
theorem dL_law_378 : decode cL_law 378 = .ok (.iload_n 3, 1) := by decide +kernel
theorem dL_law_379 : decode cL_law 379 = .ok (.iconst 2, 1) := by decide +kernel
theorem dL_law_380 : decode cL_law 380 = .ok (.iadd, 1) := by decide +kernel
theorem dL_law_381 : decode cL_law 381 = .ok (.iaload, 1) := by decide +kernel
theorem dL_law_382 : decode cL_law 382 = .ok (.invokevirtual 56, 3) := by decide +kernel
theorem dL_law_385 : decode cL_law 385 = .ok (.if_icmp .eq 394, 3) := by decide +kernel
theorem dL_law_388 : decode cL_law 388 = .ok (.iconst 0, 1) := by decide +kernel
theorem dL_law_389 : decode cL_law 389 = .ok (.ireturn, 1) := by decide +kernel
theorem dL_law_390 : decode cL_law 390 = .ok (.aload_n 1, 1) := by decide +kernel
theorem dL_law_391 : decode cL_law 391 = .ok (.aload_n 0, 1) := by decide +kernel
theorem dL_law_392 : decode cL_law 392 = .ok (.iload_n 3, 1) := by decide +kernel
theorem dL_law_393 : decode cL_law 393 = .ok (.iconst 1, 1) := by decide +kernel
theorem dL_law_394 : decode cL_law 394 = .ok (.iadd, 1) := by decide +kernel
theorem dL_law_395 : decode cL_law 395 = .ok (.iaload, 1) := by decide +kernel
theorem dL_law_396 : decode cL_law 396 = .ok (.aload_n 0, 1) := by decide +kernel
theorem dL_law_397 : decode cL_law 397 = .ok (.iload_n 3, 1) := by decide +kernel
theorem dL_law_398 : decode cL_law 398 = .ok (.iconst 2, 1) := by decide +kernel
theorem dL_law_399 : decode cL_law 399 = .ok (.iadd, 1) := by decide +kernel
theorem dL_law_400 : decode cL_law 400 = .ok (.iaload, 1) := by decide +kernel
theorem dL_law_401 : decode cL_law 401 = .ok (.invokevirtual 57, 3) := by decide +kernel
theorem dL_law_404 : decode cL_law 404 = .ok (.aload_n 2, 1) := by decide +kernel
theorem dL_law_405 : decode cL_law 405 = .ok (.aload_n 0, 1) := by decide +kernel
theorem dL_law_406 : decode cL_law 406 = .ok (.iload_n 3, 1) := by decide +kernel
theorem dL_law_407 : decode cL_law 407 = .ok (.iconst 1, 1) := by decide +kernel
theorem dL_law_408 : decode cL_law 408 = .ok (.iadd, 1) := by decide +kernel
theorem dL_law_409 : decode cL_law 409 = .ok (.iaload, 1) := by decide +kernel
theorem dL_law_410 : decode cL_law 410 = .ok (.aload_n 0, 1) := by decide +kernel
theorem dL_law_411 : decode cL_law 411 = .ok (.iload_n 3, 1) := by decide +kernel
theorem dL_law_412 : decode cL_law 412 = .ok (.iconst 2, 1) := by decide +kernel
theorem dL_law_413 : decode cL_law 413 = .ok (.iadd, 1) := by decide +kernel
theorem dL_law_414 : decode cL_law 414 = .ok (.iaload, 1) := by decide +kernel
theorem dL_law_415 : decode cL_law 415 = .ok (.invokevirtual 60, 3) := by decide +kernel
theorem dL_law_418 : decode cL_law 418 = .ok (.if_icmp .eq 361, 3) := by decide +kernel
theorem dL_law_421 : decode cL_law 421 = .ok (.iconst 0, 1) := by decide +kernel
theorem dL_law_422 : decode cL_law 422 = .ok (.ireturn, 1) := by decide +kernel
theorem dL_law_423 : decode cL_law 423 = .ok (.aload_n 1, 1) := by decide +kernel
theorem dL_law_424 : decode cL_law 424 = .ok (.aload_n 0, 1) := by decide +kernel
theorem dL_law_425 : decode cL_law 425 = .ok (.iload_n 3, 1) := by decide +kernel
theorem dL_law_426 : decode cL_law 426 = .ok (.iconst 1, 1) := by decide +kernel
theorem dL_law_427 : decode cL_law 427 = .ok (.iadd, 1) := by decide +kernel
theorem dL_law_428 : decode cL_law 428 = .ok (.iaload, 1) := by decide +kernel
theorem dL_law_429 : decode cL_law 429 = .ok (.aload_n 0, 1) := by decide +kernel
theorem dL_law_430 : decode cL_law 430 = .ok (.iload_n 3, 1) := by decide +kernel
theorem dL_law_431 : decode cL_law 431 = .ok (.iconst 2, 1) := by decide +kernel
theorem dL_law_432 : decode cL_law 432 = .ok (.iadd, 1) := by decide +kernel
theorem dL_law_433 : decode cL_law 433 = .ok (.iaload, 1) := by decide +kernel
theorem dL_law_434 : decode cL_law 434 = .ok (.aload_n 0, 1) := by decide +kernel
theorem dL_law_435 : decode cL_law 435 = .ok (.iload_n 3, 1) := by decide +kernel
theorem dL_law_436 : decode cL_law 436 = .ok (.iconst 3, 1) := by decide +kernel
theorem dL_law_437 : decode cL_law 437 = .ok (.iadd, 1) := by decide +kernel
theorem dL_law_438 : decode cL_law 438 = .ok (.iaload, 1) := by decide +kernel
theorem dL_law_439 : decode cL_law 439 = .ok (.aload_n 0, 1) := by decide +kernel
theorem dL_law_440 : decode cL_law 440 = .ok (.iload_n 3, 1) := by decide +kernel
theorem dL_law_441 : decode cL_law 441 = .ok (.iconst 4, 1) := by decide +kernel
theorem dL_law_442 : decode cL_law 442 = .ok (.iadd, 1) := by decide +kernel
theorem dL_law_443 : decode cL_law 443 = .ok (.iaload, 1) := by decide +kernel
theorem dL_law_444 : decode cL_law 444 = .ok (.invokevirtual 61, 3) := by decide +kernel
theorem dL_law_447 : decode cL_law 447 = .ok (.aload_n 2, 1) := by decide +kernel
theorem dL_law_448 : decode cL_law 448 = .ok (.aload_n 0, 1) := by decide +kernel
theorem dL_law_449 : decode cL_law 449 = .ok (.iload_n 3, 1) := by decide +kernel
theorem dL_law_450 : decode cL_law 450 = .ok (.iconst 1, 1) := by decide +kernel
theorem dL_law_451 : decode cL_law 451 = .ok (.iadd, 1) := by decide +kernel
theorem dL_law_452 : decode cL_law 452 = .ok (.iaload, 1) := by decide +kernel
theorem dL_law_453 : decode cL_law 453 = .ok (.aload_n 0, 1) := by decide +kernel
theorem dL_law_454 : decode cL_law 454 = .ok (.iload_n 3, 1) := by decide +kernel
theorem dL_law_455 : decode cL_law 455 = .ok (.iconst 2, 1) := by decide +kernel
theorem dL_law_456 : decode cL_law 456 = .ok (.iadd, 1) := by decide +kernel
theorem dL_law_457 : decode cL_law 457 = .ok (.iaload, 1) := by decide +kernel
theorem dL_law_458 : decode cL_law 458 = .ok (.aload_n 0, 1) := by decide +kernel
theorem dL_law_459 : decode cL_law 459 = .ok (.iload_n 3, 1) := by decide +kernel
theorem dL_law_460 : decode cL_law 460 = .ok (.iconst 3, 1) := by decide +kernel
theorem dL_law_461 : decode cL_law 461 = .ok (.iadd, 1) := by decide +kernel
theorem dL_law_462 : decode cL_law 462 = .ok (.iaload, 1) := by decide +kernel
theorem dL_law_463 : decode cL_law 463 = .ok (.aload_n 0, 1) := by decide +kernel
theorem dL_law_464 : decode cL_law 464 = .ok (.iload_n 3, 1) := by decide +kernel
theorem dL_law_465 : decode cL_law 465 = .ok (.iconst 4, 1) := by decide +kernel
theorem dL_law_466 : decode cL_law 466 = .ok (.iadd, 1) := by decide +kernel
theorem dL_law_467 : decode cL_law 467 = .ok (.iaload, 1) := by decide +kernel
theorem dL_law_468 : decode cL_law 468 = .ok (.invokevirtual 65, 3) := by decide +kernel
theorem dL_law_471 : decode cL_law 471 = .ok (.if_icmp .eq 308, 3) := by decide +kernel
theorem dL_law_474 : decode cL_law 474 = .ok (.iconst 0, 1) := by decide +kernel
theorem dL_law_475 : decode cL_law 475 = .ok (.ireturn, 1) := by decide +kernel
theorem dL_law_476 : decode cL_law 476 = .ok (.aload_n 1, 1) := by decide +kernel
theorem dL_law_477 : decode cL_law 477 = .ok (.aload_n 0, 1) := by decide +kernel
theorem dL_law_478 : decode cL_law 478 = .ok (.iload_n 3, 1) := by decide +kernel
theorem dL_law_479 : decode cL_law 479 = .ok (.iconst 1, 1) := by decide +kernel
theorem dL_law_480 : decode cL_law 480 = .ok (.iadd, 1) := by decide +kernel
theorem dL_law_481 : decode cL_law 481 = .ok (.iaload, 1) := by decide +kernel
theorem dL_law_482 : decode cL_law 482 = .ok (.aload_n 0, 1) := by decide +kernel
theorem dL_law_483 : decode cL_law 483 = .ok (.iload_n 3, 1) := by decide +kernel
theorem dL_law_484 : decode cL_law 484 = .ok (.iconst 2, 1) := by decide +kernel
theorem dL_law_485 : decode cL_law 485 = .ok (.iadd, 1) := by decide +kernel
theorem dL_law_486 : decode cL_law 486 = .ok (.iaload, 1) := by decide +kernel
theorem dL_law_487 : decode cL_law 487 = .ok (.invokevirtual 66, 3) := by decide +kernel
theorem dL_law_490 : decode cL_law 490 = .ok (.aload_n 2, 1) := by decide +kernel
theorem dL_law_491 : decode cL_law 491 = .ok (.aload_n 0, 1) := by decide +kernel
theorem dL_law_492 : decode cL_law 492 = .ok (.iload_n 3, 1) := by decide +kernel
theorem dL_law_493 : decode cL_law 493 = .ok (.iconst 1, 1) := by decide +kernel
theorem dL_law_494 : decode cL_law 494 = .ok (.iadd, 1) := by decide +kernel
theorem dL_law_495 : decode cL_law 495 = .ok (.iaload, 1) := by decide +kernel
theorem dL_law_496 : decode cL_law 496 = .ok (.aload_n 0, 1) := by decide +kernel
theorem dL_law_497 : decode cL_law 497 = .ok (.iload_n 3, 1) := by decide +kernel
theorem dL_law_498 : decode cL_law 498 = .ok (.iconst 2, 1) := by decide +kernel
theorem dL_law_499 : decode cL_law 499 = .ok (.iadd, 1) := by decide +kernel
theorem dL_law_500 : decode cL_law 500 = .ok (.iaload, 1) := by decide +kernel
theorem dL_law_501 : decode cL_law 501 = .ok (.invokevirtual 69, 3) := by decide +kernel
theorem dL_law_504 : decode cL_law 504 = .ok (.if_icmp .eq 275, 3) := by decide +kernel
theorem dL_law_507 : decode cL_law 507 = .ok (.iconst 0, 1) := by decide +kernel
theorem dL_law_508 : decode cL_law 508 = .ok (.ireturn, 1) := by decide +kernel
theorem dL_law_509 : decode cL_law 509 = .ok (.aload_n 1, 1) := by decide +kernel
theorem dL_law_510 : decode cL_law 510 = .ok (.aload_n 0, 1) := by decide +kernel
theorem dL_law_511 : decode cL_law 511 = .ok (.iload_n 3, 1) := by decide +kernel
theorem dL_law_512 : decode cL_law 512 = .ok (.iconst 1, 1) := by decide +kernel
theorem dL_law_513 : decode cL_law 513 = .ok (.iadd, 1) := by decide +kernel
theorem dL_law_514 : decode cL_law 514 = .ok (.iaload, 1) := by decide +kernel
theorem dL_law_515 : decode cL_law 515 = .ok (.aload_n 0, 1) := by decide +kernel
theorem dL_law_516 : decode cL_law 516 = .ok (.iload_n 3, 1) := by decide +kernel
theorem dL_law_517 : decode cL_law 517 = .ok (.iconst 2, 1) := by decide +kernel
theorem dL_law_518 : decode cL_law 518 = .ok (.iadd, 1) := by decide +kernel
theorem dL_law_519 : decode cL_law 519 = .ok (.iaload, 1) := by decide +kernel
theorem dL_law_520 : decode cL_law 520 = .ok (.invokevirtual 70, 3) := by decide +kernel
theorem dL_law_523 : decode cL_law 523 = .ok (.aload_n 2, 1) := by decide +kernel
theorem dL_law_524 : decode cL_law 524 = .ok (.aload_n 0, 1) := by decide +kernel
theorem dL_law_525 : decode cL_law 525 = .ok (.iload_n 3, 1) := by decide +kernel
theorem dL_law_526 : decode cL_law 526 = .ok (.iconst 1, 1) := by decide +kernel
theorem dL_law_527 : decode cL_law 527 = .ok (.iadd, 1) := by decide +kernel
theorem dL_law_528 : decode cL_law 528 = .ok (.iaload, 1) := by decide +kernel
theorem dL_law_529 : decode cL_law 529 = .ok (.aload_n 0, 1) := by decide +kernel
theorem dL_law_530 : decode cL_law 530 = .ok (.iload_n 3, 1) := by decide +kernel
theorem dL_law_531 : decode cL_law 531 = .ok (.iconst 2, 1) := by decide +kernel
theorem dL_law_532 : decode cL_law 532 = .ok (.iadd, 1) := by decide +kernel
theorem dL_law_533 : decode cL_law 533 = .ok (.iaload, 1) := by decide +kernel
theorem dL_law_534 : decode cL_law 534 = .ok (.invokevirtual 73, 3) := by decide +kernel
theorem dL_law_537 : decode cL_law 537 = .ok (.if_icmp .eq 242, 3) := by decide +kernel
theorem dL_law_540 : decode cL_law 540 = .ok (.iconst 0, 1) := by decide +kernel
theorem dL_law_541 : decode cL_law 541 = .ok (.ireturn, 1) := by decide +kernel
theorem dL_law_542 : decode cL_law 542 = .ok (.aload_n 1, 1) := by decide +kernel
theorem dL_law_543 : decode cL_law 543 = .ok (.aload_n 0, 1) := by decide +kernel
theorem dL_law_544 : decode cL_law 544 = .ok (.iload_n 3, 1) := by decide +kernel
theorem dL_law_545 : decode cL_law 545 = .ok (.iconst 1, 1) := by decide +kernel
theorem dL_law_546 : decode cL_law 546 = .ok (.iadd, 1) := by decide +kernel
theorem dL_law_547 : decode cL_law 547 = .ok (.iaload, 1) := by decide +kernel
theorem dL_law_548 : decode cL_law 548 = .ok (.aload_n 0, 1) := by decide +kernel
theorem dL_law_549 : decode cL_law 549 = .ok (.iload_n 3, 1) := by decide +kernel
theorem dL_law_550 : decode cL_law 550 = .ok (.iconst 2, 1) := by decide +kernel
theorem dL_law_551 : decode cL_law 551 = .ok (.iadd, 1) := by decide +kernel
theorem dL_law_552 : decode cL_law 552 = .ok (.iaload, 1) := by decide +kernel
theorem dL_law_553 : decode cL_law 553 = .ok (.invokevirtual 74, 3) := by decide +kernel
theorem dL_law_556 : decode cL_law 556 = .ok (.aload_n 2, 1) := by decide +kernel
theorem dL_law_557 : decode cL_law 557 = .ok (.aload_n 0, 1) := by decide +kernel
theorem dL_law_558 : decode cL_law 558 = .ok (.iload_n 3, 1) := by decide +kernel
theorem dL_law_559 : decode cL_law 559 = .ok (.iconst 1, 1) := by decide +kernel
theorem dL_law_560 : decode cL_law 560 = .ok (.iadd, 1) := by decide +kernel
theorem dL_law_561 : decode cL_law 561 = .ok (.iaload, 1) := by decide +kernel
theorem dL_law_562 : decode cL_law 562 = .ok (.aload_n 0, 1) := by decide +kernel
theorem dL_law_563 : decode cL_law 563 = .ok (.iload_n 3, 1) := by decide +kernel
theorem dL_law_564 : decode cL_law 564 = .ok (.iconst 2, 1) := by decide +kernel
theorem dL_law_565 : decode cL_law 565 = .ok (.iadd, 1) := by decide +kernel
theorem dL_law_566 : decode cL_law 566 = .ok (.iaload, 1) := by decide +kernel
theorem dL_law_567 : decode cL_law 567 = .ok (.invokevirtual 77, 3) := by decide +kernel
theorem dL_law_570 : decode cL_law 570 = .ok (.if_icmp .eq 209, 3) := by decide +kernel
theorem dL_law_573 : decode cL_law 573 = .ok (.iconst 0, 1) := by decide +kernel
theorem dL_law_574 : decode cL_law 574 = .ok (.ireturn, 1) := by decide +kernel
theorem dL_law_575 : decode cL_law 575 = .ok (.aload_n 1, 1) := by decide +kernel
theorem dL_law_576 : decode cL_law 576 = .ok (.aload_n 0, 1) := by decide +kernel
theorem dL_law_577 : decode cL_law 577 = .ok (.iload_n 3, 1) := by decide +kernel
theorem dL_law_578 : decode cL_law 578 = .ok (.iconst 1, 1) := by decide +kernel
theorem dL_law_579 : decode cL_law 579 = .ok (.iadd, 1) := by decide +kernel
theorem dL_law_580 : decode cL_law 580 = .ok (.iaload, 1) := by decide +kernel
theorem dL_law_581 : decode cL_law 581 = .ok (.invokevirtual 78, 3) := by decide +kernel
theorem dL_law_584 : decode cL_law 584 = .ok (.aload_n 2, 1) := by decide +kernel
theorem dL_law_585 : decode cL_law 585 = .ok (.aload_n 0, 1) := by decide +kernel
theorem dL_law_586 : decode cL_law 586 = .ok (.iload_n 3, 1) := by decide +kernel
theorem dL_law_587 : decode cL_law 587 = .ok (.iconst 1, 1) := by decide +kernel
theorem dL_law_588 : decode cL_law 588 = .ok (.iadd, 1) := by decide +kernel
theorem dL_law_589 : decode cL_law 589 = .ok (.iaload, 1) := by decide +kernel
theorem dL_law_590 : decode cL_law 590 = .ok (.invokevirtual 81, 3) := by decide +kernel
theorem dL_law_593 : decode cL_law 593 = .ok (.if_icmp .eq 186, 3) := by decide +kernel
theorem dL_law_596 : decode cL_law 596 = .ok (.iconst 0, 1) := by decide +kernel
theorem dL_law_597 : decode cL_law 597 = .ok (.ireturn, 1) := by decide +kernel
theorem dL_law_598 : decode cL_law 598 = .ok (.aload_n 1, 1) := by decide +kernel
theorem dL_law_599 : decode cL_law 599 = .ok (.aload_n 0, 1) := by decide +kernel
theorem dL_law_600 : decode cL_law 600 = .ok (.iload_n 3, 1) := by decide +kernel
theorem dL_law_601 : decode cL_law 601 = .ok (.iconst 1, 1) := by decide +kernel
theorem dL_law_602 : decode cL_law 602 = .ok (.iadd, 1) := by decide +kernel
theorem dL_law_603 : decode cL_law 603 = .ok (.iaload, 1) := by decide +kernel
theorem dL_law_604 : decode cL_law 604 = .ok (.aload_n 0, 1) := by decide +kernel
theorem dL_law_605 : decode cL_law 605 = .ok (.iload_n 3, 1) := by decide +kernel
theorem dL_law_606 : decode cL_law 606 = .ok (.iconst 2, 1) := by decide +kernel
theorem dL_law_607 : decode cL_law 607 = .ok (.iadd, 1) := by decide +kernel
theorem dL_law_608 : decode cL_law 608 = .ok (.iaload, 1) := by decide +kernel
theorem dL_law_609 : decode cL_law 609 = .ok (.invokevirtual 82, 3) := by decide +kernel
theorem dL_law_612 : decode cL_law 612 = .ok (.aload_n 2, 1) := by decide +kernel
theorem dL_law_613 : decode cL_law 613 = .ok (.aload_n 0, 1) := by decide +kernel
theorem dL_law_614 : decode cL_law 614 = .ok (.iload_n 3, 1) := by decide +kernel
theorem dL_law_615 : decode cL_law 615 = .ok (.iconst 1, 1) := by decide +kernel
theorem dL_law_616 : decode cL_law 616 = .ok (.iadd, 1) := by decide +kernel
theorem dL_law_617 : decode cL_law 617 = .ok (.iaload, 1) := by decide +kernel
theorem dL_law_618 : decode cL_law 618 = .ok (.aload_n 0, 1) := by decide +kernel
theorem dL_law_619 : decode cL_law 619 = .ok (.iload_n 3, 1) := by decide +kernel
theorem dL_law_620 : decode cL_law 620 = .ok (.iconst 2, 1) := by decide +kernel
theorem dL_law_621 : decode cL_law 621 = .ok (.iadd, 1) := by decide +kernel
theorem dL_law_622 : decode cL_law 622 = .ok (.iaload, 1) := by decide +kernel
theorem dL_law_623 : decode cL_law 623 = .ok (.invokevirtual 85, 3) := by decide +kernel
theorem dL_law_626 : decode cL_law 626 = .ok (.if_icmp .eq 153, 3) := by decide +kernel
theorem dL_law_629 : decode cL_law 629 = .ok (.iconst 0, 1) := by decide +kernel
theorem dL_law_630 : decode cL_law 630 = .ok (.ireturn, 1) := by decide +kernel
theorem dL_law_631 : decode cL_law 631 = .ok (.aload_n 1, 1) := by decide +kernel
theorem dL_law_632 : decode cL_law 632 = .ok (.aload_n 0, 1) := by decide +kernel
theorem dL_law_633 : decode cL_law 633 = .ok (.iload_n 3, 1) := by decide +kernel
theorem dL_law_634 : decode cL_law 634 = .ok (.iconst 1, 1) := by decide +kernel
theorem dL_law_635 : decode cL_law 635 = .ok (.iadd, 1) := by decide +kernel
theorem dL_law_636 : decode cL_law 636 = .ok (.iaload, 1) := by decide +kernel
theorem dL_law_637 : decode cL_law 637 = .ok (.aload_n 0, 1) := by decide +kernel
theorem dL_law_638 : decode cL_law 638 = .ok (.iload_n 3, 1) := by decide +kernel
theorem dL_law_639 : decode cL_law 639 = .ok (.iconst 2, 1) := by decide +kernel
theorem dL_law_640 : decode cL_law 640 = .ok (.iadd, 1) := by decide +kernel
theorem dL_law_641 : decode cL_law 641 = .ok (.iaload, 1) := by decide +kernel
theorem dL_law_642 : decode cL_law 642 = .ok (.invokevirtual 86, 3) := by decide +kernel
theorem dL_law_645 : decode cL_law 645 = .ok (.aload_n 2, 1) := by decide +kernel
theorem dL_law_646 : decode cL_law 646 = .ok (.aload_n 0, 1) := by decide +kernel
theorem dL_law_647 : decode cL_law 647 = .ok (.iload_n 3, 1) := by decide +kernel
theorem dL_law_648 : decode cL_law 648 = .ok (.iconst 1, 1) := by decide +kernel
theorem dL_law_649 : decode cL_law 649 = .ok (.iadd, 1) := by decide +kernel
theorem dL_law_650 : decode cL_law 650 = .ok (.iaload, 1) := by decide +kernel
theorem dL_law_651 : decode cL_law 651 = .ok (.aload_n 0, 1) := by decide +kernel
theorem dL_law_652 : decode cL_law 652 = .ok (.iload_n 3, 1) := by decide +kernel
theorem dL_law_653 : decode cL_law 653 = .ok (.iconst 2, 1) := by decide +kernel
theorem dL_law_654 : decode cL_law 654 = .ok (.iadd, 1) := by decide +kernel
theorem dL_law_655 : decode cL_law 655 = .ok (.iaload, 1) := by decide +kernel
theorem dL_law_656 : decode cL_law 656 = .ok (.invokevirtual 89, 3) := by decide +kernel
theorem dL_law_659 : decode cL_law 659 = .ok (.if_icmp .eq 120, 3) := by decide +kernel
theorem dL_law_662 : decode cL_law 662 = .ok (.iconst 0, 1) := by decide +kernel
theorem dL_law_663 : decode cL_law 663 = .ok (.ireturn, 1) := by decide +kernel
theorem dL_law_664 : decode cL_law 664 = .ok (.aload_n 1, 1) := by decide +kernel
theorem dL_law_665 : decode cL_law 665 = .ok (.aload_n 0, 1) := by decide +kernel
theorem dL_law_666 : decode cL_law 666 = .ok (.iload_n 3, 1) := by decide +kernel
theorem dL_law_667 : decode cL_law 667 = .ok (.iconst 1, 1) := by decide +kernel
theorem dL_law_668 : decode cL_law 668 = .ok (.iadd, 1) := by decide +kernel
theorem dL_law_669 : decode cL_law 669 = .ok (.iaload, 1) := by decide +kernel
theorem dL_law_670 : decode cL_law 670 = .ok (.invokevirtual 90, 3) := by decide +kernel
theorem dL_law_673 : decode cL_law 673 = .ok (.aload_n 2, 1) := by decide +kernel
theorem dL_law_674 : decode cL_law 674 = .ok (.aload_n 0, 1) := by decide +kernel
theorem dL_law_675 : decode cL_law 675 = .ok (.iload_n 3, 1) := by decide +kernel
theorem dL_law_676 : decode cL_law 676 = .ok (.iconst 1, 1) := by decide +kernel
theorem dL_law_677 : decode cL_law 677 = .ok (.iadd, 1) := by decide +kernel
theorem dL_law_678 : decode cL_law 678 = .ok (.iaload, 1) := by decide +kernel
theorem dL_law_679 : decode cL_law 679 = .ok (.invokevirtual 93, 3) := by decide +kernel
theorem dL_law_682 : decode cL_law 682 = .ok (.if_icmp .eq 97, 3) := by decide +kernel
theorem dL_law_685 : decode cL_law 685 = .ok (.iconst 0, 1) := by decide +kernel
theorem dL_law_686 : decode cL_law 686 = .ok (.ireturn, 1) := by decide +kernel
theorem dL_law_687 : decode cL_law 687 = .ok (.aload_n 1, 1) := by decide +kernel
theorem dL_law_688 : decode cL_law 688 = .ok (.aload_n 0, 1) := by decide +kernel
theorem dL_law_689 : decode cL_law 689 = .ok (.iload_n 3, 1) := by decide +kernel
theorem dL_law_690 : decode cL_law 690 = .ok (.iconst 1, 1) := by decide +kernel
theorem dL_law_691 : decode cL_law 691 = .ok (.iadd, 1) := by decide +kernel
theorem dL_law_692 : decode cL_law 692 = .ok (.iaload, 1) := by decide +kernel
theorem dL_law_693 : decode cL_law 693 = .ok (.invokevirtual 94, 3) := by decide +kernel
theorem dL_law_696 : decode cL_law 696 = .ok (.aload_n 2, 1) := by decide +kernel
theorem dL_law_697 : decode cL_law 697 = .ok (.aload_n 0, 1) := by decide +kernel
theorem dL_law_698 : decode cL_law 698 = .ok (.iload_n 3, 1) := by decide +kernel
theorem dL_law_699 : decode cL_law 699 = .ok (.iconst 1, 1) := by decide +kernel
theorem dL_law_700 : decode cL_law 700 = .ok (.iadd, 1) := by decide +kernel
theorem dL_law_701 : decode cL_law 701 = .ok (.iaload, 1) := by decide +kernel
theorem dL_law_702 : decode cL_law 702 = .ok (.invokevirtual 97, 3) := by decide +kernel
theorem dL_law_705 : decode cL_law 705 = .ok (.if_icmp .eq 74, 3) := by decide +kernel
theorem dL_law_708 : decode cL_law 708 = .ok (.iconst 0, 1) := by decide +kernel
theorem dL_law_709 : decode cL_law 709 = .ok (.ireturn, 1) := by decide +kernel
theorem dL_law_710 : decode cL_law 710 = .ok (.aload_n 1, 1) := by decide +kernel
theorem dL_law_711 : decode cL_law 711 = .ok (.aload_n 0, 1) := by decide +kernel
theorem dL_law_712 : decode cL_law 712 = .ok (.iload_n 3, 1) := by decide +kernel
theorem dL_law_713 : decode cL_law 713 = .ok (.iconst 1, 1) := by decide +kernel
theorem dL_law_714 : decode cL_law 714 = .ok (.iadd, 1) := by decide +kernel
theorem dL_law_715 : decode cL_law 715 = .ok (.iaload, 1) := by decide +kernel
theorem dL_law_716 : decode cL_law 716 = .ok (.invokevirtual 98, 3) := by decide +kernel
theorem dL_law_719 : decode cL_law 719 = .ok (.aload_n 2, 1) := by decide +kernel
theorem dL_law_720 : decode cL_law 720 = .ok (.aload_n 0, 1) := by decide +kernel
theorem dL_law_721 : decode cL_law 721 = .ok (.iload_n 3, 1) := by decide +kernel
theorem dL_law_722 : decode cL_law 722 = .ok (.iconst 1, 1) := by decide +kernel
theorem dL_law_723 : decode cL_law 723 = .ok (.iadd, 1) := by decide +kernel
theorem dL_law_724 : decode cL_law 724 = .ok (.iaload, 1) := by decide +kernel
theorem dL_law_725 : decode cL_law 725 = .ok (.invokevirtual 101, 3) := by decide +kernel
theorem dL_law_728 : decode cL_law 728 = .ok (.if_icmp .eq 51, 3) := by decide +kernel
theorem dL_law_731 : decode cL_law 731 = .ok (.iconst 0, 1) := by decide +kernel
theorem dL_law_732 : decode cL_law 732 = .ok (.ireturn, 1) := by decide +kernel
theorem dL_law_733 : decode cL_law 733 = .ok (.aload_n 1, 1) := by decide +kernel
theorem dL_law_734 : decode cL_law 734 = .ok (.aload_n 0, 1) := by decide +kernel
theorem dL_law_735 : decode cL_law 735 = .ok (.iload_n 3, 1) := by decide +kernel
theorem dL_law_736 : decode cL_law 736 = .ok (.iconst 1, 1) := by decide +kernel
theorem dL_law_737 : decode cL_law 737 = .ok (.iadd, 1) := by decide +kernel
theorem dL_law_738 : decode cL_law 738 = .ok (.iaload, 1) := by decide +kernel
theorem dL_law_739 : decode cL_law 739 = .ok (.invokevirtual 102, 3) := by decide +kernel
theorem dL_law_742 : decode cL_law 742 = .ok (.aload_n 2, 1) := by decide +kernel
theorem dL_law_743 : decode cL_law 743 = .ok (.aload_n 0, 1) := by decide +kernel
theorem dL_law_744 : decode cL_law 744 = .ok (.iload_n 3, 1) := by decide +kernel
theorem dL_law_745 : decode cL_law 745 = .ok (.iconst 1, 1) := by decide +kernel
theorem dL_law_746 : decode cL_law 746 = .ok (.iadd, 1) := by decide +kernel
theorem dL_law_747 : decode cL_law 747 = .ok (.iaload, 1) := by decide +kernel
theorem dL_law_748 : decode cL_law 748 = .ok (.invokevirtual 105, 3) := by decide +kernel
theorem dL_law_751 : decode cL_law 751 = .ok (.if_icmp .eq 28, 3) := by decide +kernel
theorem dL_law_754 : decode cL_law 754 = .ok (.iconst 0, 1) := by decide +kernel
theorem dL_law_755 : decode cL_law 755 = .ok (.ireturn, 1) := by decide +kernel
theorem dL_law_756 : decode cL_law 756 = .ok (.aload_n 1, 1) := by decide +kernel
theorem dL_law_757 : decode cL_law 757 = .ok (.aload_n 0, 1) := by decide +kernel
theorem dL_law_758 : decode cL_law 758 = .ok (.iload_n 3, 1) := by decide +kernel
theorem dL_law_759 : decode cL_law 759 = .ok (.iconst 1, 1) := by decide +kernel
theorem dL_law_760 : decode cL_law 760 = .ok (.iadd, 1) := by decide +kernel
theorem dL_law_761 : decode cL_law 761 = .ok (.iaload, 1) := by decide +kernel
theorem dL_law_762 : decode cL_law 762 = .ok (.invokevirtual 106, 3) := by decide +kernel
theorem dL_law_765 : decode cL_law 765 = .ok (.aload_n 2, 1) := by decide +kernel
theorem dL_law_766 : decode cL_law 766 = .ok (.aload_n 0, 1) := by decide +kernel
theorem dL_law_767 : decode cL_law 767 = .ok (.iload_n 3, 1) := by decide +kernel
theorem dL_law_768 : decode cL_law 768 = .ok (.iconst 1, 1) := by decide +kernel
theorem dL_law_769 : decode cL_law 769 = .ok (.iadd, 1) := by decide +kernel
theorem dL_law_770 : decode cL_law 770 = .ok (.iaload, 1) := by decide +kernel
theorem dL_law_771 : decode cL_law 771 = .ok (.invokevirtual 109, 3) := by decide +kernel
theorem dL_law_774 : decode cL_law 774 = .ok (.if_icmp .eq 5, 3) := by decide +kernel
theorem dL_law_777 : decode cL_law 777 = .ok (.iconst 0, 1) := by decide +kernel
theorem dL_law_778 : decode cL_law 778 = .ok (.ireturn, 1) := by decide +kernel
theorem dL_law_779 : decode cL_law 779 = .ok (.iinc 3 5, 3) := by decide +kernel
theorem dL_law_782 : decode cL_law 782 = .ok (.goto (-764), 3) := by decide +kernel
theorem dL_law_785 : decode cL_law 785 = .ok (.iconst 1, 1) := by decide +kernel
theorem dL_law_786 : decode cL_law 786 = .ok (.ireturn, 1) := by decide +kernel
