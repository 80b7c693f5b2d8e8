theorem dX0_init_0 : decode cX0_init 0 = .ok (.aload_n 0, 1) := by decide +kernel
theorem dX0_init_1 : decode cX0_init 1 = .ok (.invokespecial 3, 3) := by decide +kernel
theorem dX0_init_4 : decode cX0_init 4 = .ok (.aload_n 0, 1) := by decide +kernel
theorem dX0_init_5 : decode cX0_init 5 = .ok (.bipush 16, 2) := by decide +kernel
theorem dX0_init_7 : decode cX0_init 7 = .ok (.newarray .int, 2) := by decide +kernel
theorem dX0_init_9 : decode cX0_init 9 = .ok (.putfield 11, 3) := by decide +kernel
theorem dX0_init_12 : decode cX0_init 12 = .ok (.aload_n 0, 1) := by decide +kernel
theorem dX0_init_13 : decode cX0_init 13 = .ok (.bipush 30, 2) := by decide +kernel
theorem dX0_init_15 : decode cX0_init 15 = .ok (.bipush 16, 2) := by decide +kernel
theorem dX0_init_17 : decode cX0_init 17 = .ok (.multianewarray 15 2, 4) := by decide +kernel
theorem dX0_init_21 : decode cX0_init 21 = .ok (.putfield 17, 3) := by decide +kernel
theorem dX0_init_24 : decode cX0_init 24 = .ok (.aload_n 0, 1) := by decide +kernel
theorem dX0_init_25 : decode cX0_init 25 = .ok (.iconst 5, 1) := by decide +kernel
theorem dX0_init_26 : decode cX0_init 26 = .ok (.bipush 16, 2) := by decide +kernel
theorem dX0_init_28 : decode cX0_init 28 = .ok (.multianewarray 15 2, 4) := by decide +kernel
theorem dX0_init_32 : decode cX0_init 32 = .ok (.putfield 20, 3) := by decide +kernel
theorem dX0_init_35 : decode cX0_init 35 = .ok (.aload_n 0, 1) := by decide +kernel
theorem dX0_init_36 : decode cX0_init 36 = .ok (.iconst 5, 1) := by decide +kernel
theorem dX0_init_37 : decode cX0_init 37 = .ok (.bipush 16, 2) := by decide +kernel
theorem dX0_init_39 : decode cX0_init 39 = .ok (.multianewarray 15 2, 4) := by decide +kernel
theorem dX0_init_43 : decode cX0_init 43 = .ok (.putfield 23, 3) := by decide +kernel
theorem dX0_init_46 : decode cX0_init 46 = .ok (.aload_n 0, 1) := by decide +kernel
theorem dX0_init_47 : decode cX0_init 47 = .ok (.aload_n 1, 1) := by decide +kernel
theorem dX0_init_48 : decode cX0_init 48 = .ok (.putfield 26, 3) := by decide +kernel
theorem dX0_init_51 : decode cX0_init 51 = .ok (.aload_n 0, 1) := by decide +kernel
theorem dX0_init_52 : decode cX0_init 52 = .ok (.aload_n 1, 1) := by decide +kernel
theorem dX0_init_53 : decode cX0_init 53 = .ok (.iconst 0, 1) := by decide +kernel
theorem dX0_init_54 : decode cX0_init 54 = .ok (.invokevirtual 30, 3) := by decide +kernel
theorem dX0_init_57 : decode cX0_init 57 = .ok (.putfield 36, 3) := by decide +kernel
theorem dX0_init_60 : decode cX0_init 60 = .ok (.return_, 1) := by decide +kernel
theorem dX0_trace_0 : decode cX0_trace 0 = .ok (.aload_n 0, 1) := by decide +kernel
theorem dX0_trace_1 : decode cX0_trace 1 = .ok (.aload_n 1, 1) := by decide +kernel
theorem dX0_trace_2 : decode cX0_trace 2 = .ok (.putfield 36, 3) := by decide +kernel
theorem dX0_trace_5 : decode cX0_trace 5 = .ok (.iconst 0, 1) := by decide +kernel
theorem dX0_trace_6 : decode cX0_trace 6 = .ok (.istore_n 2, 1) := by decide +kernel
theorem dX0_trace_7 : decode cX0_trace 7 = .ok (.iload_n 2, 1) := by decide +kernel
theorem dX0_trace_8 : decode cX0_trace 8 = .ok (.bipush 8, 2) := by decide +kernel
theorem dX0_trace_10 : decode cX0_trace 10 = .ok (.if_icmp .ge 50, 3) := by decide +kernel
theorem dX0_trace_13 : decode cX0_trace 13 = .ok (.aload_n 0, 1) := by decide +kernel
theorem dX0_trace_14 : decode cX0_trace 14 = .ok (.getfield 26, 3) := by decide +kernel
theorem dX0_trace_17 : decode cX0_trace 17 = .ok (.iload_n 2, 1) := by decide +kernel
theorem dX0_trace_18 : decode cX0_trace 18 = .ok (.invokevirtual 40, 3) := by decide +kernel
theorem dX0_trace_21 : decode cX0_trace 21 = .ok (.ifCond .eq 7, 3) := by decide +kernel
theorem dX0_trace_24 : decode cX0_trace 24 = .ok (.iconst 0, 1) := by decide +kernel
theorem dX0_trace_25 : decode cX0_trace 25 = .ok (.goto 11, 3) := by decide +kernel
theorem dX0_trace_28 : decode cX0_trace 28 = .ok (.aload_n 0, 1) := by decide +kernel
theorem dX0_trace_29 : decode cX0_trace 29 = .ok (.getfield 26, 3) := by decide +kernel
theorem dX0_trace_32 : decode cX0_trace 32 = .ok (.iload_n 2, 1) := by decide +kernel
theorem dX0_trace_33 : decode cX0_trace 33 = .ok (.invokevirtual 44, 3) := by decide +kernel
theorem dX0_trace_36 : decode cX0_trace 36 = .ok (.istore_n 3, 1) := by decide +kernel
theorem dX0_trace_37 : decode cX0_trace 37 = .ok (.aload_n 0, 1) := by decide +kernel
theorem dX0_trace_38 : decode cX0_trace 38 = .ok (.getfield 11, 3) := by decide +kernel
theorem dX0_trace_41 : decode cX0_trace 41 = .ok (.iload_n 2, 1) := by decide +kernel
theorem dX0_trace_42 : decode cX0_trace 42 = .ok (.iload_n 3, 1) := by decide +kernel
theorem dX0_trace_43 : decode cX0_trace 43 = .ok (.iastore, 1) := by decide +kernel
theorem dX0_trace_44 : decode cX0_trace 44 = .ok (.aload_n 0, 1) := by decide +kernel
theorem dX0_trace_45 : decode cX0_trace 45 = .ok (.getfield 11, 3) := by decide +kernel
theorem dX0_trace_48 : decode cX0_trace 48 = .ok (.bipush 8, 2) := by decide +kernel
theorem dX0_trace_50 : decode cX0_trace 50 = .ok (.iload_n 2, 1) := by decide +kernel
theorem dX0_trace_51 : decode cX0_trace 51 = .ok (.iadd, 1) := by decide +kernel
theorem dX0_trace_52 : decode cX0_trace 52 = .ok (.iload_n 3, 1) := by decide +kernel
theorem dX0_trace_53 : decode cX0_trace 53 = .ok (.iastore, 1) := by decide +kernel
theorem dX0_trace_54 : decode cX0_trace 54 = .ok (.iinc 2 1, 3) := by decide +kernel
theorem dX0_trace_57 : decode cX0_trace 57 = .ok (.goto (-50), 3) := by decide +kernel
theorem dX0_trace_60 : decode cX0_trace 60 = .ok (.aload_n 0, 1) := by decide +kernel
theorem dX0_trace_61 : decode cX0_trace 61 = .ok (.iconst 0, 1) := by decide +kernel
theorem dX0_trace_62 : decode cX0_trace 62 = .ok (.iconst 0, 1) := by decide +kernel
theorem dX0_trace_63 : decode cX0_trace 63 = .ok (.invokevirtual 48, 3) := by decide +kernel
theorem dX0_trace_66 : decode cX0_trace 66 = .ok (.return_, 1) := by decide +kernel
theorem dX0_mustAt_0 : decode cX0_mustAt 0 = .ok (.aload_n 0, 1) := by decide +kernel
theorem dX0_mustAt_1 : decode cX0_mustAt 1 = .ok (.iload_n 1, 1) := by decide +kernel
theorem dX0_mustAt_2 : decode cX0_mustAt 2 = .ok (.iload_n 2, 1) := by decide +kernel
theorem dX0_mustAt_3 : decode cX0_mustAt 3 = .ok (.invokevirtual 52, 3) := by decide +kernel
theorem dX0_mustAt_6 : decode cX0_mustAt 6 = .ok (.ireturn, 1) := by decide +kernel
theorem dX0_mayAt_0 : decode cX0_mayAt 0 = .ok (.aload_n 0, 1) := by decide +kernel
theorem dX0_mayAt_1 : decode cX0_mayAt 1 = .ok (.iload_n 1, 1) := by decide +kernel
theorem dX0_mayAt_2 : decode cX0_mayAt 2 = .ok (.bipush 8, 2) := by decide +kernel
theorem dX0_mayAt_4 : decode cX0_mayAt 4 = .ok (.iload_n 2, 1) := by decide +kernel
theorem dX0_mayAt_5 : decode cX0_mayAt 5 = .ok (.iadd, 1) := by decide +kernel
theorem dX0_mayAt_6 : decode cX0_mayAt 6 = .ok (.invokevirtual 52, 3) := by decide +kernel
theorem dX0_mayAt_9 : decode cX0_mayAt 9 = .ok (.ireturn, 1) := by decide +kernel
theorem dX0_ageAt_0 : decode cX0_ageAt 0 = .ok (.iload_n 1, 1) := by decide +kernel
theorem dX0_ageAt_1 : decode cX0_ageAt 1 = .ok (.ifCond .lt 23, 3) := by decide +kernel
theorem dX0_ageAt_4 : decode cX0_ageAt 4 = .ok (.iload_n 1, 1) := by decide +kernel
theorem dX0_ageAt_5 : decode cX0_ageAt 5 = .ok (.bipush 30, 2) := by decide +kernel
theorem dX0_ageAt_7 : decode cX0_ageAt 7 = .ok (.if_icmp .ge 17, 3) := by decide +kernel
theorem dX0_ageAt_10 : decode cX0_ageAt 10 = .ok (.iload_n 2, 1) := by decide +kernel
theorem dX0_ageAt_11 : decode cX0_ageAt 11 = .ok (.ifCond .lt 13, 3) := by decide +kernel
theorem dX0_ageAt_14 : decode cX0_ageAt 14 = .ok (.iload_n 2, 1) := by decide +kernel
theorem dX0_ageAt_15 : decode cX0_ageAt 15 = .ok (.bipush 16, 2) := by decide +kernel
theorem dX0_ageAt_17 : decode cX0_ageAt 17 = .ok (.if_icmp .ge 7, 3) := by decide +kernel
theorem dX0_ageAt_20 : decode cX0_ageAt 20 = .ok (.iconst 1, 1) := by decide +kernel
theorem dX0_ageAt_21 : decode cX0_ageAt 21 = .ok (.goto 4, 3) := by decide +kernel
theorem dX0_ageAt_24 : decode cX0_ageAt 24 = .ok (.iconst 0, 1) := by decide +kernel
theorem dX0_ageAt_25 : decode cX0_ageAt 25 = .ok (.istore_n 3, 1) := by decide +kernel
theorem dX0_ageAt_26 : decode cX0_ageAt 26 = .ok (.iload_n 3, 1) := by decide +kernel
theorem dX0_ageAt_27 : decode cX0_ageAt 27 = .ok (.ifCond .eq 14, 3) := by decide +kernel
theorem dX0_ageAt_30 : decode cX0_ageAt 30 = .ok (.aload_n 0, 1) := by decide +kernel
theorem dX0_ageAt_31 : decode cX0_ageAt 31 = .ok (.getfield 17, 3) := by decide +kernel
theorem dX0_ageAt_34 : decode cX0_ageAt 34 = .ok (.iload_n 1, 1) := by decide +kernel
theorem dX0_ageAt_35 : decode cX0_ageAt 35 = .ok (.aaload, 1) := by decide +kernel
theorem dX0_ageAt_36 : decode cX0_ageAt 36 = .ok (.iload_n 2, 1) := by decide +kernel
theorem dX0_ageAt_37 : decode cX0_ageAt 37 = .ok (.iaload, 1) := by decide +kernel
theorem dX0_ageAt_38 : decode cX0_ageAt 38 = .ok (.goto 4, 3) := by decide +kernel
theorem dX0_ageAt_41 : decode cX0_ageAt 41 = .ok (.iconst 0, 1) := by decide +kernel
theorem dX0_ageAt_42 : decode cX0_ageAt 42 = .ok (.ireturn, 1) := by decide +kernel
theorem dX0_pass_0 : decode cX0_pass 0 = .ok (.iload_n 2, 1) := by decide +kernel
theorem dX0_pass_1 : decode cX0_pass 1 = .ok (.iconst 4, 1) := by decide +kernel
theorem dX0_pass_2 : decode cX0_pass 2 = .ok (.if_icmp .gt 13, 3) := by decide +kernel
theorem dX0_pass_5 : decode cX0_pass 5 = .ok (.iload_n 1, 1) := by decide +kernel
theorem dX0_pass_6 : decode cX0_pass 6 = .ok (.ifCond .lt 9, 3) := by decide +kernel
theorem dX0_pass_9 : decode cX0_pass 9 = .ok (.iload_n 1, 1) := by decide +kernel
theorem dX0_pass_10 : decode cX0_pass 10 = .ok (.bipush 30, 2) := by decide +kernel
theorem dX0_pass_12 : decode cX0_pass 12 = .ok (.if_icmp .lt 4, 3) := by decide +kernel
theorem dX0_pass_15 : decode cX0_pass 15 = .ok (.return_, 1) := by decide +kernel
theorem dX0_pass_16 : decode cX0_pass 16 = .ok (.aload_n 0, 1) := by decide +kernel
theorem dX0_pass_17 : decode cX0_pass 17 = .ok (.getfield 36, 3) := by decide +kernel
theorem dX0_pass_20 : decode cX0_pass 20 = .ok (.iload_n 1, 1) := by decide +kernel
theorem dX0_pass_21 : decode cX0_pass 21 = .ok (.invokevirtual 56, 3) := by decide +kernel
theorem dX0_pass_24 : decode cX0_pass 24 = .ok (.istore_n 3, 1) := by decide +kernel
theorem dX0_pass_25 : decode cX0_pass 25 = .ok (.aload_n 0, 1) := by decide +kernel
theorem dX0_pass_26 : decode cX0_pass 26 = .ok (.getfield 36, 3) := by decide +kernel
theorem dX0_pass_29 : decode cX0_pass 29 = .ok (.iload_n 1, 1) := by decide +kernel
theorem dX0_pass_30 : decode cX0_pass 30 = .ok (.invokevirtual 61, 3) := by decide +kernel
theorem dX0_pass_33 : decode cX0_pass 33 = .ok (.istore 4, 2) := by decide +kernel
theorem dX0_pass_35 : decode cX0_pass 35 = .ok (.aload_n 0, 1) := by decide +kernel
theorem dX0_pass_36 : decode cX0_pass 36 = .ok (.getfield 36, 3) := by decide +kernel
theorem dX0_pass_39 : decode cX0_pass 39 = .ok (.iload_n 1, 1) := by decide +kernel
theorem dX0_pass_40 : decode cX0_pass 40 = .ok (.invokevirtual 64, 3) := by decide +kernel
theorem dX0_pass_43 : decode cX0_pass 43 = .ok (.lookupswitch 158 #[(45, 155), (59, 57), (63, 77), (98, 146), (99, 146), (100, 146)], 57) := by decide +kernel
theorem dX0_pass_100 : decode cX0_pass 100 = .ok (.aload_n 0, 1) := by decide +kernel
theorem dX0_pass_101 : decode cX0_pass 101 = .ok (.iload_n 3, 1) := by decide +kernel
theorem dX0_pass_102 : decode cX0_pass 102 = .ok (.iload_n 2, 1) := by decide +kernel
theorem dX0_pass_103 : decode cX0_pass 103 = .ok (.iconst 1, 1) := by decide +kernel
theorem dX0_pass_104 : decode cX0_pass 104 = .ok (.iadd, 1) := by decide +kernel
theorem dX0_pass_105 : decode cX0_pass 105 = .ok (.invokevirtual 48, 3) := by decide +kernel
theorem dX0_pass_108 : decode cX0_pass 108 = .ok (.aload_n 0, 1) := by decide +kernel
theorem dX0_pass_109 : decode cX0_pass 109 = .ok (.iload 4, 2) := by decide +kernel
theorem dX0_pass_111 : decode cX0_pass 111 = .ok (.iload_n 2, 1) := by decide +kernel
theorem dX0_pass_112 : decode cX0_pass 112 = .ok (.iconst 1, 1) := by decide +kernel
theorem dX0_pass_113 : decode cX0_pass 113 = .ok (.iadd, 1) := by decide +kernel
theorem dX0_pass_114 : decode cX0_pass 114 = .ok (.invokevirtual 48, 3) := by decide +kernel
theorem dX0_pass_117 : decode cX0_pass 117 = .ok (.goto 109, 3) := by decide +kernel
theorem dX0_pass_120 : decode cX0_pass 120 = .ok (.aload_n 0, 1) := by decide +kernel
theorem dX0_pass_121 : decode cX0_pass 121 = .ok (.getfield 11, 3) := by decide +kernel
theorem dX0_pass_124 : decode cX0_pass 124 = .ok (.aload_n 0, 1) := by decide +kernel
theorem dX0_pass_125 : decode cX0_pass 125 = .ok (.getfield 20, 3) := by decide +kernel
theorem dX0_pass_128 : decode cX0_pass 128 = .ok (.iload_n 2, 1) := by decide +kernel
theorem dX0_pass_129 : decode cX0_pass 129 = .ok (.aaload, 1) := by decide +kernel
theorem dX0_pass_130 : decode cX0_pass 130 = .ok (.invokestatic 67, 3) := by decide +kernel
theorem dX0_pass_133 : decode cX0_pass 133 = .ok (.aload_n 0, 1) := by decide +kernel
theorem dX0_pass_134 : decode cX0_pass 134 = .ok (.iload_n 3, 1) := by decide +kernel
theorem dX0_pass_135 : decode cX0_pass 135 = .ok (.iload_n 2, 1) := by decide +kernel
theorem dX0_pass_136 : decode cX0_pass 136 = .ok (.iconst 1, 1) := by decide +kernel
theorem dX0_pass_137 : decode cX0_pass 137 = .ok (.iadd, 1) := by decide +kernel
theorem dX0_pass_138 : decode cX0_pass 138 = .ok (.invokevirtual 48, 3) := by decide +kernel
theorem dX0_pass_141 : decode cX0_pass 141 = .ok (.aload_n 0, 1) := by decide +kernel
theorem dX0_pass_142 : decode cX0_pass 142 = .ok (.getfield 11, 3) := by decide +kernel
theorem dX0_pass_145 : decode cX0_pass 145 = .ok (.aload_n 0, 1) := by decide +kernel
theorem dX0_pass_146 : decode cX0_pass 146 = .ok (.getfield 23, 3) := by decide +kernel
theorem dX0_pass_149 : decode cX0_pass 149 = .ok (.iload_n 2, 1) := by decide +kernel
theorem dX0_pass_150 : decode cX0_pass 150 = .ok (.aaload, 1) := by decide +kernel
theorem dX0_pass_151 : decode cX0_pass 151 = .ok (.invokestatic 67, 3) := by decide +kernel
theorem dX0_pass_154 : decode cX0_pass 154 = .ok (.aload_n 0, 1) := by decide +kernel
theorem dX0_pass_155 : decode cX0_pass 155 = .ok (.getfield 20, 3) := by decide +kernel
theorem dX0_pass_158 : decode cX0_pass 158 = .ok (.iload_n 2, 1) := by decide +kernel
theorem dX0_pass_159 : decode cX0_pass 159 = .ok (.aaload, 1) := by decide +kernel
theorem dX0_pass_160 : decode cX0_pass 160 = .ok (.aload_n 0, 1) := by decide +kernel
theorem dX0_pass_161 : decode cX0_pass 161 = .ok (.getfield 11, 3) := by decide +kernel
theorem dX0_pass_164 : decode cX0_pass 164 = .ok (.invokestatic 67, 3) := by decide +kernel
theorem dX0_pass_167 : decode cX0_pass 167 = .ok (.aload_n 0, 1) := by decide +kernel
theorem dX0_pass_168 : decode cX0_pass 168 = .ok (.iload 4, 2) := by decide +kernel
theorem dX0_pass_170 : decode cX0_pass 170 = .ok (.iload_n 2, 1) := by decide +kernel
theorem dX0_pass_171 : decode cX0_pass 171 = .ok (.iconst 1, 1) := by decide +kernel
theorem dX0_pass_172 : decode cX0_pass 172 = .ok (.iadd, 1) := by decide +kernel
theorem dX0_pass_173 : decode cX0_pass 173 = .ok (.invokevirtual 48, 3) := by decide +kernel
theorem dX0_pass_176 : decode cX0_pass 176 = .ok (.aload_n 0, 1) := by decide +kernel
theorem dX0_pass_177 : decode cX0_pass 177 = .ok (.aload_n 0, 1) := by decide +kernel
theorem dX0_pass_178 : decode cX0_pass 178 = .ok (.getfield 23, 3) := by decide +kernel
theorem dX0_pass_181 : decode cX0_pass 181 = .ok (.iload_n 2, 1) := by decide +kernel
theorem dX0_pass_182 : decode cX0_pass 182 = .ok (.aaload, 1) := by decide +kernel
theorem dX0_pass_183 : decode cX0_pass 183 = .ok (.invokevirtual 71, 3) := by decide +kernel
theorem dX0_pass_186 : decode cX0_pass 186 = .ok (.goto 40, 3) := by decide +kernel
theorem dX0_pass_189 : decode cX0_pass 189 = .ok (.aload_n 0, 1) := by decide +kernel
theorem dX0_pass_190 : decode cX0_pass 190 = .ok (.iload_n 3, 1) := by decide +kernel
theorem dX0_pass_191 : decode cX0_pass 191 = .ok (.iload_n 2, 1) := by decide +kernel
theorem dX0_pass_192 : decode cX0_pass 192 = .ok (.invokevirtual 75, 3) := by decide +kernel
theorem dX0_pass_195 : decode cX0_pass 195 = .ok (.goto 31, 3) := by decide +kernel
theorem dX0_pass_198 : decode cX0_pass 198 = .ok (.goto 28, 3) := by decide +kernel
theorem dX0_pass_201 : decode cX0_pass 201 = .ok (.aload_n 0, 1) := by decide +kernel
theorem dX0_pass_202 : decode cX0_pass 202 = .ok (.getfield 11, 3) := by decide +kernel
theorem dX0_pass_205 : decode cX0_pass 205 = .ok (.aload_n 0, 1) := by decide +kernel
theorem dX0_pass_206 : decode cX0_pass 206 = .ok (.getfield 17, 3) := by decide +kernel
theorem dX0_pass_209 : decode cX0_pass 209 = .ok (.iload_n 1, 1) := by decide +kernel
theorem dX0_pass_210 : decode cX0_pass 210 = .ok (.aaload, 1) := by decide +kernel
theorem dX0_pass_211 : decode cX0_pass 211 = .ok (.invokestatic 67, 3) := by decide +kernel
theorem dX0_pass_214 : decode cX0_pass 214 = .ok (.aload_n 0, 1) := by decide +kernel
theorem dX0_pass_215 : decode cX0_pass 215 = .ok (.aload_n 0, 1) := by decide +kernel
theorem dX0_pass_216 : decode cX0_pass 216 = .ok (.getfield 36, 3) := by decide +kernel
theorem dX0_pass_219 : decode cX0_pass 219 = .ok (.iload_n 1, 1) := by decide +kernel
theorem dX0_pass_220 : decode cX0_pass 220 = .ok (.invokevirtual 78, 3) := by decide +kernel
theorem dX0_pass_223 : decode cX0_pass 223 = .ok (.invokevirtual 81, 3) := by decide +kernel
theorem dX0_pass_226 : decode cX0_pass 226 = .ok (.return_, 1) := by decide +kernel
theorem dX0_passLoop_0 : decode cX0_passLoop 0 = .ok (.iconst 1, 1) := by decide +kernel
theorem dX0_passLoop_1 : decode cX0_passLoop 1 = .ok (.istore_n 3, 1) := by decide +kernel
theorem dX0_passLoop_2 : decode cX0_passLoop 2 = .ok (.iconst 0, 1) := by decide +kernel
theorem dX0_passLoop_3 : decode cX0_passLoop 3 = .ok (.istore 4, 2) := by decide +kernel
theorem dX0_passLoop_5 : decode cX0_passLoop 5 = .ok (.iload 4, 2) := by decide +kernel
theorem dX0_passLoop_7 : decode cX0_passLoop 7 = .ok (.bipush 64, 2) := by decide +kernel
theorem dX0_passLoop_9 : decode cX0_passLoop 9 = .ok (.if_icmp .ge 66, 3) := by decide +kernel
theorem dX0_passLoop_12 : decode cX0_passLoop 12 = .ok (.iload_n 3, 1) := by decide +kernel
theorem dX0_passLoop_13 : decode cX0_passLoop 13 = .ok (.ifCond .eq 62, 3) := by decide +kernel
theorem dX0_passLoop_16 : decode cX0_passLoop 16 = .ok (.aload_n 0, 1) := by decide +kernel
theorem dX0_passLoop_17 : decode cX0_passLoop 17 = .ok (.getfield 11, 3) := by decide +kernel
theorem dX0_passLoop_20 : decode cX0_passLoop 20 = .ok (.aload_n 0, 1) := by decide +kernel
theorem dX0_passLoop_21 : decode cX0_passLoop 21 = .ok (.getfield 20, 3) := by decide +kernel
theorem dX0_passLoop_24 : decode cX0_passLoop 24 = .ok (.iload_n 2, 1) := by decide +kernel
theorem dX0_passLoop_25 : decode cX0_passLoop 25 = .ok (.aaload, 1) := by decide +kernel
theorem dX0_passLoop_26 : decode cX0_passLoop 26 = .ok (.invokestatic 67, 3) := by decide +kernel
theorem dX0_passLoop_29 : decode cX0_passLoop 29 = .ok (.aload_n 0, 1) := by decide +kernel
theorem dX0_passLoop_30 : decode cX0_passLoop 30 = .ok (.iload_n 1, 1) := by decide +kernel
theorem dX0_passLoop_31 : decode cX0_passLoop 31 = .ok (.iload_n 2, 1) := by decide +kernel
theorem dX0_passLoop_32 : decode cX0_passLoop 32 = .ok (.iconst 1, 1) := by decide +kernel
theorem dX0_passLoop_33 : decode cX0_passLoop 33 = .ok (.iadd, 1) := by decide +kernel
theorem dX0_passLoop_34 : decode cX0_passLoop 34 = .ok (.invokevirtual 48, 3) := by decide +kernel
theorem dX0_passLoop_37 : decode cX0_passLoop 37 = .ok (.aload_n 0, 1) := by decide +kernel
theorem dX0_passLoop_38 : decode cX0_passLoop 38 = .ok (.aload_n 0, 1) := by decide +kernel
theorem dX0_passLoop_39 : decode cX0_passLoop 39 = .ok (.getfield 20, 3) := by decide +kernel
theorem dX0_passLoop_42 : decode cX0_passLoop 42 = .ok (.iload_n 2, 1) := by decide +kernel
theorem dX0_passLoop_43 : decode cX0_passLoop 43 = .ok (.aaload, 1) := by decide +kernel
theorem dX0_passLoop_44 : decode cX0_passLoop 44 = .ok (.invokevirtual 71, 3) := by decide +kernel
theorem dX0_passLoop_47 : decode cX0_passLoop 47 = .ok (.aload_n 0, 1) := by decide +kernel
theorem dX0_passLoop_48 : decode cX0_passLoop 48 = .ok (.getfield 11, 3) := by decide +kernel
theorem dX0_passLoop_51 : decode cX0_passLoop 51 = .ok (.aload_n 0, 1) := by decide +kernel
theorem dX0_passLoop_52 : decode cX0_passLoop 52 = .ok (.getfield 20, 3) := by decide +kernel
theorem dX0_passLoop_55 : decode cX0_passLoop 55 = .ok (.iload_n 2, 1) := by decide +kernel
theorem dX0_passLoop_56 : decode cX0_passLoop 56 = .ok (.aaload, 1) := by decide +kernel
theorem dX0_passLoop_57 : decode cX0_passLoop 57 = .ok (.invokestatic 85, 3) := by decide +kernel
theorem dX0_passLoop_60 : decode cX0_passLoop 60 = .ok (.ifCond .ne 7, 3) := by decide +kernel
theorem dX0_passLoop_63 : decode cX0_passLoop 63 = .ok (.iconst 1, 1) := by decide +kernel
theorem dX0_passLoop_64 : decode cX0_passLoop 64 = .ok (.goto 4, 3) := by decide +kernel
theorem dX0_passLoop_67 : decode cX0_passLoop 67 = .ok (.iconst 0, 1) := by decide +kernel
theorem dX0_passLoop_68 : decode cX0_passLoop 68 = .ok (.istore_n 3, 1) := by decide +kernel
theorem dX0_passLoop_69 : decode cX0_passLoop 69 = .ok (.iinc 4 1, 3) := by decide +kernel
theorem dX0_passLoop_72 : decode cX0_passLoop 72 = .ok (.goto (-67), 3) := by decide +kernel
theorem dX0_passLoop_75 : decode cX0_passLoop 75 = .ok (.return_, 1) := by decide +kernel
theorem dX0_fetch_0 : decode cX0_fetch 0 = .ok (.aload_n 0, 1) := by decide +kernel
theorem dX0_fetch_1 : decode cX0_fetch 1 = .ok (.getfield 26, 3) := by decide +kernel
theorem dX0_fetch_4 : decode cX0_fetch 4 = .ok (.iload_n 1, 1) := by decide +kernel
theorem dX0_fetch_5 : decode cX0_fetch 5 = .ok (.invokevirtual 44, 3) := by decide +kernel
theorem dX0_fetch_8 : decode cX0_fetch 8 = .ok (.istore_n 2, 1) := by decide +kernel
theorem dX0_fetch_9 : decode cX0_fetch 9 = .ok (.aload_n 0, 1) := by decide +kernel
theorem dX0_fetch_10 : decode cX0_fetch 10 = .ok (.getfield 26, 3) := by decide +kernel
theorem dX0_fetch_13 : decode cX0_fetch 13 = .ok (.iload_n 1, 1) := by decide +kernel
theorem dX0_fetch_14 : decode cX0_fetch 14 = .ok (.invokevirtual 40, 3) := by decide +kernel
theorem dX0_fetch_17 : decode cX0_fetch 17 = .ok (.ifCond .ne 7, 3) := by decide +kernel
theorem dX0_fetch_20 : decode cX0_fetch 20 = .ok (.iload_n 2, 1) := by decide +kernel
theorem dX0_fetch_21 : decode cX0_fetch 21 = .ok (.ifCond .ne 4, 3) := by decide +kernel
theorem dX0_fetch_24 : decode cX0_fetch 24 = .ok (.return_, 1) := by decide +kernel
theorem dX0_fetch_25 : decode cX0_fetch 25 = .ok (.aload_n 0, 1) := by decide +kernel
theorem dX0_fetch_26 : decode cX0_fetch 26 = .ok (.getfield 11, 3) := by decide +kernel
theorem dX0_fetch_29 : decode cX0_fetch 29 = .ok (.iload_n 1, 1) := by decide +kernel
theorem dX0_fetch_30 : decode cX0_fetch 30 = .ok (.iaload, 1) := by decide +kernel
theorem dX0_fetch_31 : decode cX0_fetch 31 = .ok (.istore_n 3, 1) := by decide +kernel
theorem dX0_fetch_32 : decode cX0_fetch 32 = .ok (.aload_n 0, 1) := by decide +kernel
theorem dX0_fetch_33 : decode cX0_fetch 33 = .ok (.getfield 11, 3) := by decide +kernel
theorem dX0_fetch_36 : decode cX0_fetch 36 = .ok (.bipush 8, 2) := by decide +kernel
theorem dX0_fetch_38 : decode cX0_fetch 38 = .ok (.iload_n 1, 1) := by decide +kernel
theorem dX0_fetch_39 : decode cX0_fetch 39 = .ok (.iadd, 1) := by decide +kernel
theorem dX0_fetch_40 : decode cX0_fetch 40 = .ok (.iaload, 1) := by decide +kernel
theorem dX0_fetch_41 : decode cX0_fetch 41 = .ok (.istore 4, 2) := by decide +kernel
theorem dX0_fetch_43 : decode cX0_fetch 43 = .ok (.aload_n 0, 1) := by decide +kernel
theorem dX0_fetch_44 : decode cX0_fetch 44 = .ok (.getfield 26, 3) := by decide +kernel
theorem dX0_fetch_47 : decode cX0_fetch 47 = .ok (.iload_n 1, 1) := by decide +kernel
theorem dX0_fetch_48 : decode cX0_fetch 48 = .ok (.invokevirtual 89, 3) := by decide +kernel
theorem dX0_fetch_51 : decode cX0_fetch 51 = .ok (.istore 5, 2) := by decide +kernel
theorem dX0_fetch_53 : decode cX0_fetch 53 = .ok (.iconst 0, 1) := by decide +kernel
theorem dX0_fetch_54 : decode cX0_fetch 54 = .ok (.istore 6, 2) := by decide +kernel
theorem dX0_fetch_56 : decode cX0_fetch 56 = .ok (.iload 6, 2) := by decide +kernel
theorem dX0_fetch_58 : decode cX0_fetch 58 = .ok (.bipush 8, 2) := by decide +kernel
theorem dX0_fetch_60 : decode cX0_fetch 60 = .ok (.if_icmp .ge 92, 3) := by decide +kernel
theorem dX0_fetch_63 : decode cX0_fetch 63 = .ok (.iload 5, 2) := by decide +kernel
theorem dX0_fetch_65 : decode cX0_fetch 65 = .ok (.iload 6, 2) := by decide +kernel
theorem dX0_fetch_67 : decode cX0_fetch 67 = .ok (.invokestatic 92, 3) := by decide +kernel
theorem dX0_fetch_70 : decode cX0_fetch 70 = .ok (.ifCond .eq 76, 3) := by decide +kernel
theorem dX0_fetch_73 : decode cX0_fetch 73 = .ok (.aload_n 0, 1) := by decide +kernel
theorem dX0_fetch_74 : decode cX0_fetch 74 = .ok (.getfield 11, 3) := by decide +kernel
theorem dX0_fetch_77 : decode cX0_fetch 77 = .ok (.iload 6, 2) := by decide +kernel
theorem dX0_fetch_79 : decode cX0_fetch 79 = .ok (.dup2, 1) := by decide +kernel
theorem dX0_fetch_80 : decode cX0_fetch 80 = .ok (.iaload, 1) := by decide +kernel
theorem dX0_fetch_81 : decode cX0_fetch 81 = .ok (.aload_n 0, 1) := by decide +kernel
theorem dX0_fetch_82 : decode cX0_fetch 82 = .ok (.getfield 11, 3) := by decide +kernel
theorem dX0_fetch_85 : decode cX0_fetch 85 = .ok (.iload 6, 2) := by decide +kernel
theorem dX0_fetch_87 : decode cX0_fetch 87 = .ok (.iaload, 1) := by decide +kernel
theorem dX0_fetch_88 : decode cX0_fetch 88 = .ok (.iload_n 3, 1) := by decide +kernel
theorem dX0_fetch_89 : decode cX0_fetch 89 = .ok (.if_icmp .ge 7, 3) := by decide +kernel
theorem dX0_fetch_92 : decode cX0_fetch 92 = .ok (.iconst 1, 1) := by decide +kernel
theorem dX0_fetch_93 : decode cX0_fetch 93 = .ok (.goto 4, 3) := by decide +kernel
theorem dX0_fetch_96 : decode cX0_fetch 96 = .ok (.iconst 0, 1) := by decide +kernel
theorem dX0_fetch_97 : decode cX0_fetch 97 = .ok (.iadd, 1) := by decide +kernel
theorem dX0_fetch_98 : decode cX0_fetch 98 = .ok (.iastore, 1) := by decide +kernel
theorem dX0_fetch_99 : decode cX0_fetch 99 = .ok (.aload_n 0, 1) := by decide +kernel
theorem dX0_fetch_100 : decode cX0_fetch 100 = .ok (.getfield 11, 3) := by decide +kernel
theorem dX0_fetch_103 : decode cX0_fetch 103 = .ok (.bipush 8, 2) := by decide +kernel
theorem dX0_fetch_105 : decode cX0_fetch 105 = .ok (.iload 6, 2) := by decide +kernel
theorem dX0_fetch_107 : decode cX0_fetch 107 = .ok (.iadd, 1) := by decide +kernel
theorem dX0_fetch_108 : decode cX0_fetch 108 = .ok (.dup2, 1) := by decide +kernel
theorem dX0_fetch_109 : decode cX0_fetch 109 = .ok (.iaload, 1) := by decide +kernel
theorem dX0_fetch_110 : decode cX0_fetch 110 = .ok (.aload_n 0, 1) := by decide +kernel
theorem dX0_fetch_111 : decode cX0_fetch 111 = .ok (.getfield 11, 3) := by decide +kernel
theorem dX0_fetch_114 : decode cX0_fetch 114 = .ok (.bipush 8, 2) := by decide +kernel
theorem dX0_fetch_116 : decode cX0_fetch 116 = .ok (.iload 6, 2) := by decide +kernel
theorem dX0_fetch_118 : decode cX0_fetch 118 = .ok (.iadd, 1) := by decide +kernel
theorem dX0_fetch_119 : decode cX0_fetch 119 = .ok (.iaload, 1) := by decide +kernel
theorem dX0_fetch_120 : decode cX0_fetch 120 = .ok (.iload 4, 2) := by decide +kernel
theorem dX0_fetch_122 : decode cX0_fetch 122 = .ok (.if_icmp .gt 21, 3) := by decide +kernel
theorem dX0_fetch_125 : decode cX0_fetch 125 = .ok (.aload_n 0, 1) := by decide +kernel
theorem dX0_fetch_126 : decode cX0_fetch 126 = .ok (.getfield 11, 3) := by decide +kernel
theorem dX0_fetch_129 : decode cX0_fetch 129 = .ok (.bipush 8, 2) := by decide +kernel
theorem dX0_fetch_131 : decode cX0_fetch 131 = .ok (.iload 6, 2) := by decide +kernel
theorem dX0_fetch_133 : decode cX0_fetch 133 = .ok (.iadd, 1) := by decide +kernel
theorem dX0_fetch_134 : decode cX0_fetch 134 = .ok (.iaload, 1) := by decide +kernel
theorem dX0_fetch_135 : decode cX0_fetch 135 = .ok (.iload_n 2, 1) := by decide +kernel
theorem dX0_fetch_136 : decode cX0_fetch 136 = .ok (.if_icmp .ge 7, 3) := by decide +kernel
theorem dX0_fetch_139 : decode cX0_fetch 139 = .ok (.iconst 1, 1) := by decide +kernel
theorem dX0_fetch_140 : decode cX0_fetch 140 = .ok (.goto 4, 3) := by decide +kernel
theorem dX0_fetch_143 : decode cX0_fetch 143 = .ok (.iconst 0, 1) := by decide +kernel
theorem dX0_fetch_144 : decode cX0_fetch 144 = .ok (.iadd, 1) := by decide +kernel
theorem dX0_fetch_145 : decode cX0_fetch 145 = .ok (.iastore, 1) := by decide +kernel
theorem dX0_fetch_146 : decode cX0_fetch 146 = .ok (.iinc 6 1, 3) := by decide +kernel
theorem dX0_fetch_149 : decode cX0_fetch 149 = .ok (.goto (-93), 3) := by decide +kernel
theorem dX0_fetch_152 : decode cX0_fetch 152 = .ok (.aload_n 0, 1) := by decide +kernel
theorem dX0_fetch_153 : decode cX0_fetch 153 = .ok (.getfield 11, 3) := by decide +kernel
theorem dX0_fetch_156 : decode cX0_fetch 156 = .ok (.iload_n 1, 1) := by decide +kernel
theorem dX0_fetch_157 : decode cX0_fetch 157 = .ok (.iconst 0, 1) := by decide +kernel
theorem dX0_fetch_158 : decode cX0_fetch 158 = .ok (.iastore, 1) := by decide +kernel
theorem dX0_fetch_159 : decode cX0_fetch 159 = .ok (.aload_n 0, 1) := by decide +kernel
theorem dX0_fetch_160 : decode cX0_fetch 160 = .ok (.getfield 11, 3) := by decide +kernel
theorem dX0_fetch_163 : decode cX0_fetch 163 = .ok (.bipush 8, 2) := by decide +kernel
theorem dX0_fetch_165 : decode cX0_fetch 165 = .ok (.iload_n 1, 1) := by decide +kernel
theorem dX0_fetch_166 : decode cX0_fetch 166 = .ok (.iadd, 1) := by decide +kernel
theorem dX0_fetch_167 : decode cX0_fetch 167 = .ok (.iconst 0, 1) := by decide +kernel
theorem dX0_fetch_168 : decode cX0_fetch 168 = .ok (.iastore, 1) := by decide +kernel
theorem dX0_fetch_169 : decode cX0_fetch 169 = .ok (.return_, 1) := by decide +kernel
theorem dX0_join_0 : decode cX0_join 0 = .ok (.iconst 0, 1) := by decide +kernel
theorem dX0_join_1 : decode cX0_join 1 = .ok (.istore_n 2, 1) := by decide +kernel
theorem dX0_join_2 : decode cX0_join 2 = .ok (.iload_n 2, 1) := by decide +kernel
theorem dX0_join_3 : decode cX0_join 3 = .ok (.bipush 8, 2) := by decide +kernel
theorem dX0_join_5 : decode cX0_join 5 = .ok (.if_icmp .ge 54, 3) := by decide +kernel
theorem dX0_join_8 : decode cX0_join 8 = .ok (.aload_n 0, 1) := by decide +kernel
theorem dX0_join_9 : decode cX0_join 9 = .ok (.getfield 11, 3) := by decide +kernel
theorem dX0_join_12 : decode cX0_join 12 = .ok (.iload_n 2, 1) := by decide +kernel
theorem dX0_join_13 : decode cX0_join 13 = .ok (.aload_n 0, 1) := by decide +kernel
theorem dX0_join_14 : decode cX0_join 14 = .ok (.getfield 11, 3) := by decide +kernel
theorem dX0_join_17 : decode cX0_join 17 = .ok (.iload_n 2, 1) := by decide +kernel
theorem dX0_join_18 : decode cX0_join 18 = .ok (.iaload, 1) := by decide +kernel
theorem dX0_join_19 : decode cX0_join 19 = .ok (.aload_n 1, 1) := by decide +kernel
theorem dX0_join_20 : decode cX0_join 20 = .ok (.iload_n 2, 1) := by decide +kernel
theorem dX0_join_21 : decode cX0_join 21 = .ok (.iaload, 1) := by decide +kernel
theorem dX0_join_22 : decode cX0_join 22 = .ok (.invokestatic 96, 3) := by decide +kernel
theorem dX0_join_25 : decode cX0_join 25 = .ok (.iastore, 1) := by decide +kernel
theorem dX0_join_26 : decode cX0_join 26 = .ok (.aload_n 0, 1) := by decide +kernel
theorem dX0_join_27 : decode cX0_join 27 = .ok (.getfield 11, 3) := by decide +kernel
theorem dX0_join_30 : decode cX0_join 30 = .ok (.bipush 8, 2) := by decide +kernel
theorem dX0_join_32 : decode cX0_join 32 = .ok (.iload_n 2, 1) := by decide +kernel
theorem dX0_join_33 : decode cX0_join 33 = .ok (.iadd, 1) := by decide +kernel
theorem dX0_join_34 : decode cX0_join 34 = .ok (.aload_n 0, 1) := by decide +kernel
theorem dX0_join_35 : decode cX0_join 35 = .ok (.getfield 11, 3) := by decide +kernel
theorem dX0_join_38 : decode cX0_join 38 = .ok (.bipush 8, 2) := by decide +kernel
theorem dX0_join_40 : decode cX0_join 40 = .ok (.iload_n 2, 1) := by decide +kernel
theorem dX0_join_41 : decode cX0_join 41 = .ok (.iadd, 1) := by decide +kernel
theorem dX0_join_42 : decode cX0_join 42 = .ok (.iaload, 1) := by decide +kernel
theorem dX0_join_43 : decode cX0_join 43 = .ok (.aload_n 1, 1) := by decide +kernel
theorem dX0_join_44 : decode cX0_join 44 = .ok (.bipush 8, 2) := by decide +kernel
theorem dX0_join_46 : decode cX0_join 46 = .ok (.iload_n 2, 1) := by decide +kernel
theorem dX0_join_47 : decode cX0_join 47 = .ok (.iadd, 1) := by decide +kernel
theorem dX0_join_48 : decode cX0_join 48 = .ok (.iaload, 1) := by decide +kernel
theorem dX0_join_49 : decode cX0_join 49 = .ok (.invokestatic 101, 3) := by decide +kernel
theorem dX0_join_52 : decode cX0_join 52 = .ok (.iastore, 1) := by decide +kernel
theorem dX0_join_53 : decode cX0_join 53 = .ok (.iinc 2 1, 3) := by decide +kernel
theorem dX0_join_56 : decode cX0_join 56 = .ok (.goto (-54), 3) := by decide +kernel
theorem dX0_join_59 : decode cX0_join 59 = .ok (.return_, 1) := by decide +kernel
theorem dX0_copy_0 : decode cX0_copy 0 = .ok (.iconst 0, 1) := by decide +kernel
theorem dX0_copy_1 : decode cX0_copy 1 = .ok (.istore_n 2, 1) := by decide +kernel
theorem dX0_copy_2 : decode cX0_copy 2 = .ok (.iload_n 2, 1) := by decide +kernel
theorem dX0_copy_3 : decode cX0_copy 3 = .ok (.bipush 16, 2) := by decide +kernel
theorem dX0_copy_5 : decode cX0_copy 5 = .ok (.if_icmp .ge 15, 3) := by decide +kernel
theorem dX0_copy_8 : decode cX0_copy 8 = .ok (.aload_n 1, 1) := by decide +kernel
theorem dX0_copy_9 : decode cX0_copy 9 = .ok (.iload_n 2, 1) := by decide +kernel
theorem dX0_copy_10 : decode cX0_copy 10 = .ok (.aload_n 0, 1) := by decide +kernel
theorem dX0_copy_11 : decode cX0_copy 11 = .ok (.iload_n 2, 1) := by decide +kernel
theorem dX0_copy_12 : decode cX0_copy 12 = .ok (.iaload, 1) := by decide +kernel
theorem dX0_copy_13 : decode cX0_copy 13 = .ok (.iastore, 1) := by decide +kernel
theorem dX0_copy_14 : decode cX0_copy 14 = .ok (.iinc 2 1, 3) := by decide +kernel
theorem dX0_copy_17 : decode cX0_copy 17 = .ok (.goto (-15), 3) := by decide +kernel
theorem dX0_copy_20 : decode cX0_copy 20 = .ok (.return_, 1) := by decide +kernel
theorem dX0_isSame_0 : decode cX0_isSame 0 = .ok (.iconst 0, 1) := by decide +kernel
theorem dX0_isSame_1 : decode cX0_isSame 1 = .ok (.istore_n 2, 1) := by decide +kernel
theorem dX0_isSame_2 : decode cX0_isSame 2 = .ok (.iload_n 2, 1) := by decide +kernel
theorem dX0_isSame_3 : decode cX0_isSame 3 = .ok (.bipush 16, 2) := by decide +kernel
theorem dX0_isSame_5 : decode cX0_isSame 5 = .ok (.if_icmp .ge 20, 3) := by decide +kernel
theorem dX0_isSame_8 : decode cX0_isSame 8 = .ok (.aload_n 0, 1) := by decide +kernel
theorem dX0_isSame_9 : decode cX0_isSame 9 = .ok (.iload_n 2, 1) := by decide +kernel
theorem dX0_isSame_10 : decode cX0_isSame 10 = .ok (.iaload, 1) := by decide +kernel
theorem dX0_isSame_11 : decode cX0_isSame 11 = .ok (.aload_n 1, 1) := by decide +kernel
theorem dX0_isSame_12 : decode cX0_isSame 12 = .ok (.iload_n 2, 1) := by decide +kernel
theorem dX0_isSame_13 : decode cX0_isSame 13 = .ok (.iaload, 1) := by decide +kernel
theorem dX0_isSame_14 : decode cX0_isSame 14 = .ok (.if_icmp .eq 5, 3) := by decide +kernel
theorem dX0_isSame_17 : decode cX0_isSame 17 = .ok (.iconst 0, 1) := by decide +kernel
theorem dX0_isSame_18 : decode cX0_isSame 18 = .ok (.ireturn, 1) := by decide +kernel
theorem dX0_isSame_19 : decode cX0_isSame 19 = .ok (.iinc 2 1, 3) := by decide +kernel
theorem dX0_isSame_22 : decode cX0_isSame 22 = .ok (.goto (-20), 3) := by decide +kernel
theorem dX0_isSame_25 : decode cX0_isSame 25 = .ok (.iconst 1, 1) := by decide +kernel
theorem dX0_isSame_26 : decode cX0_isSame 26 = .ok (.ireturn, 1) := by decide +kernel
theorem dX1_init_0 : decode cX1_init 0 = .ok (.aload_n 0, 1) := by decide +kernel
theorem dX1_init_1 : decode cX1_init 1 = .ok (.invokespecial 3, 3) := by decide +kernel
theorem dX1_init_4 : decode cX1_init 4 = .ok (.aload_n 0, 1) := by decide +kernel
theorem dX1_init_5 : decode cX1_init 5 = .ok (.iconst 4, 1) := by decide +kernel
theorem dX1_init_6 : decode cX1_init 6 = .ok (.newarray .int, 2) := by decide +kernel
theorem dX1_init_8 : decode cX1_init 8 = .ok (.dup, 1) := by decide +kernel
theorem dX1_init_9 : decode cX1_init 9 = .ok (.iconst 0, 1) := by decide +kernel
theorem dX1_init_10 : decode cX1_init 10 = .ok (.iconst 2, 1) := by decide +kernel
theorem dX1_init_11 : decode cX1_init 11 = .ok (.iastore, 1) := by decide +kernel
theorem dX1_init_12 : decode cX1_init 12 = .ok (.dup, 1) := by decide +kernel
theorem dX1_init_13 : decode cX1_init 13 = .ok (.iconst 1, 1) := by decide +kernel
theorem dX1_init_14 : decode cX1_init 14 = .ok (.iconst 2, 1) := by decide +kernel
theorem dX1_init_15 : decode cX1_init 15 = .ok (.iastore, 1) := by decide +kernel
theorem dX1_init_16 : decode cX1_init 16 = .ok (.dup, 1) := by decide +kernel
theorem dX1_init_17 : decode cX1_init 17 = .ok (.iconst 2, 1) := by decide +kernel
theorem dX1_init_18 : decode cX1_init 18 = .ok (.bipush 10, 2) := by decide +kernel
theorem dX1_init_20 : decode cX1_init 20 = .ok (.iastore, 1) := by decide +kernel
theorem dX1_init_21 : decode cX1_init 21 = .ok (.dup, 1) := by decide +kernel
theorem dX1_init_22 : decode cX1_init 22 = .ok (.iconst 3, 1) := by decide +kernel
theorem dX1_init_23 : decode cX1_init 23 = .ok (.iconst 0, 1) := by decide +kernel
theorem dX1_init_24 : decode cX1_init 24 = .ok (.iastore, 1) := by decide +kernel
theorem dX1_init_25 : decode cX1_init 25 = .ok (.putfield 9, 3) := by decide +kernel
theorem dX1_init_28 : decode cX1_init 28 = .ok (.aload_n 0, 1) := by decide +kernel
theorem dX1_init_29 : decode cX1_init 29 = .ok (.iconst 4, 1) := by decide +kernel
theorem dX1_init_30 : decode cX1_init 30 = .ok (.newarray .int, 2) := by decide +kernel
theorem dX1_init_32 : decode cX1_init 32 = .ok (.putfield 15, 3) := by decide +kernel
theorem dX1_init_35 : decode cX1_init 35 = .ok (.aload_n 0, 1) := by decide +kernel
theorem dX1_init_36 : decode cX1_init 36 = .ok (.bipush 20, 2) := by decide +kernel
theorem dX1_init_38 : decode cX1_init 38 = .ok (.newarray .int, 2) := by decide +kernel
theorem dX1_init_40 : decode cX1_init 40 = .ok (.putfield 18, 3) := by decide +kernel
theorem dX1_init_43 : decode cX1_init 43 = .ok (.aload_n 0, 1) := by decide +kernel
theorem dX1_init_44 : decode cX1_init 44 = .ok (.new 21, 3) := by decide +kernel
theorem dX1_init_47 : decode cX1_init 47 = .ok (.dup, 1) := by decide +kernel
theorem dX1_init_48 : decode cX1_init 48 = .ok (.invokespecial 23, 3) := by decide +kernel
theorem dX1_init_51 : decode cX1_init 51 = .ok (.putfield 24, 3) := by decide +kernel
theorem dX1_init_54 : decode cX1_init 54 = .ok (.aload_n 0, 1) := by decide +kernel
theorem dX1_init_55 : decode cX1_init 55 = .ok (.new 21, 3) := by decide +kernel
theorem dX1_init_58 : decode cX1_init 58 = .ok (.dup, 1) := by decide +kernel
theorem dX1_init_59 : decode cX1_init 59 = .ok (.invokespecial 23, 3) := by decide +kernel
theorem dX1_init_62 : decode cX1_init 62 = .ok (.putfield 28, 3) := by decide +kernel
theorem dX1_init_65 : decode cX1_init 65 = .ok (.aload_n 0, 1) := by decide +kernel
theorem dX1_init_66 : decode cX1_init 66 = .ok (.new 21, 3) := by decide +kernel
theorem dX1_init_69 : decode cX1_init 69 = .ok (.dup, 1) := by decide +kernel
theorem dX1_init_70 : decode cX1_init 70 = .ok (.invokespecial 23, 3) := by decide +kernel
theorem dX1_init_73 : decode cX1_init 73 = .ok (.putfield 31, 3) := by decide +kernel
theorem dX1_init_76 : decode cX1_init 76 = .ok (.aload_n 0, 1) := by decide +kernel
theorem dX1_init_77 : decode cX1_init 77 = .ok (.new 21, 3) := by decide +kernel
theorem dX1_init_80 : decode cX1_init 80 = .ok (.dup, 1) := by decide +kernel
theorem dX1_init_81 : decode cX1_init 81 = .ok (.invokespecial 23, 3) := by decide +kernel
theorem dX1_init_84 : decode cX1_init 84 = .ok (.putfield 34, 3) := by decide +kernel
theorem dX1_init_87 : decode cX1_init 87 = .ok (.return_, 1) := by decide +kernel
theorem dX1_maySet_0 : decode cX1_maySet 0 = .ok (.iload_n 0, 1) := by decide +kernel
theorem dX1_maySet_1 : decode cX1_maySet 1 = .ok (.tableswitch 102 0 3 #[31, 52, 68, 85], 31) := by decide +kernel
theorem dX1_maySet_32 : decode cX1_maySet 32 = .ok (.iload_n 1, 1) := by decide +kernel
theorem dX1_maySet_33 : decode cX1_maySet 33 = .ok (.iconst 1, 1) := by decide +kernel
theorem dX1_maySet_34 : decode cX1_maySet 34 = .ok (.if_icmp .eq 13, 3) := by decide +kernel
theorem dX1_maySet_37 : decode cX1_maySet 37 = .ok (.iload_n 1, 1) := by decide +kernel
theorem dX1_maySet_38 : decode cX1_maySet 38 = .ok (.iconst 2, 1) := by decide +kernel
theorem dX1_maySet_39 : decode cX1_maySet 39 = .ok (.if_icmp .eq 8, 3) := by decide +kernel
theorem dX1_maySet_42 : decode cX1_maySet 42 = .ok (.iload_n 1, 1) := by decide +kernel
theorem dX1_maySet_43 : decode cX1_maySet 43 = .ok (.iconst 4, 1) := by decide +kernel
theorem dX1_maySet_44 : decode cX1_maySet 44 = .ok (.if_icmp .ne 7, 3) := by decide +kernel
theorem dX1_maySet_47 : decode cX1_maySet 47 = .ok (.iconst 1, 1) := by decide +kernel
theorem dX1_maySet_48 : decode cX1_maySet 48 = .ok (.goto 4, 3) := by decide +kernel
theorem dX1_maySet_51 : decode cX1_maySet 51 = .ok (.iconst 0, 1) := by decide +kernel
theorem dX1_maySet_52 : decode cX1_maySet 52 = .ok (.ireturn, 1) := by decide +kernel
theorem dX1_maySet_53 : decode cX1_maySet 53 = .ok (.iload_n 1, 1) := by decide +kernel
theorem dX1_maySet_54 : decode cX1_maySet 54 = .ok (.iconst 1, 1) := by decide +kernel
theorem dX1_maySet_55 : decode cX1_maySet 55 = .ok (.if_icmp .eq 8, 3) := by decide +kernel
theorem dX1_maySet_58 : decode cX1_maySet 58 = .ok (.iload_n 1, 1) := by decide +kernel
theorem dX1_maySet_59 : decode cX1_maySet 59 = .ok (.iconst 2, 1) := by decide +kernel
theorem dX1_maySet_60 : decode cX1_maySet 60 = .ok (.if_icmp .ne 7, 3) := by decide +kernel
theorem dX1_maySet_63 : decode cX1_maySet 63 = .ok (.iconst 1, 1) := by decide +kernel
theorem dX1_maySet_64 : decode cX1_maySet 64 = .ok (.goto 4, 3) := by decide +kernel
theorem dX1_maySet_67 : decode cX1_maySet 67 = .ok (.iconst 0, 1) := by decide +kernel
theorem dX1_maySet_68 : decode cX1_maySet 68 = .ok (.ireturn, 1) := by decide +kernel
theorem dX1_maySet_69 : decode cX1_maySet 69 = .ok (.iload_n 1, 1) := by decide +kernel
theorem dX1_maySet_70 : decode cX1_maySet 70 = .ok (.iconst 2, 1) := by decide +kernel
theorem dX1_maySet_71 : decode cX1_maySet 71 = .ok (.if_icmp .lt 13, 3) := by decide +kernel
theorem dX1_maySet_74 : decode cX1_maySet 74 = .ok (.iload_n 1, 1) := by decide +kernel
theorem dX1_maySet_75 : decode cX1_maySet 75 = .ok (.bipush 20, 2) := by decide +kernel
theorem dX1_maySet_77 : decode cX1_maySet 77 = .ok (.if_icmp .gt 7, 3) := by decide +kernel
theorem dX1_maySet_80 : decode cX1_maySet 80 = .ok (.iconst 1, 1) := by decide +kernel
theorem dX1_maySet_81 : decode cX1_maySet 81 = .ok (.goto 4, 3) := by decide +kernel
theorem dX1_maySet_84 : decode cX1_maySet 84 = .ok (.iconst 0, 1) := by decide +kernel
theorem dX1_maySet_85 : decode cX1_maySet 85 = .ok (.ireturn, 1) := by decide +kernel
theorem dX1_maySet_86 : decode cX1_maySet 86 = .ok (.iload_n 1, 1) := by decide +kernel
theorem dX1_maySet_87 : decode cX1_maySet 87 = .ok (.ifCond .lt 14, 3) := by decide +kernel
theorem dX1_maySet_90 : decode cX1_maySet 90 = .ok (.iload_n 1, 1) := by decide +kernel
theorem dX1_maySet_91 : decode cX1_maySet 91 = .ok (.sipush 255, 3) := by decide +kernel
theorem dX1_maySet_94 : decode cX1_maySet 94 = .ok (.if_icmp .gt 7, 3) := by decide +kernel
theorem dX1_maySet_97 : decode cX1_maySet 97 = .ok (.iconst 1, 1) := by decide +kernel
theorem dX1_maySet_98 : decode cX1_maySet 98 = .ok (.goto 4, 3) := by decide +kernel
theorem dX1_maySet_101 : decode cX1_maySet 101 = .ok (.iconst 0, 1) := by decide +kernel
theorem dX1_maySet_102 : decode cX1_maySet 102 = .ok (.ireturn, 1) := by decide +kernel
theorem dX1_maySet_103 : decode cX1_maySet 103 = .ok (.iconst 0, 1) := by decide +kernel
theorem dX1_maySet_104 : decode cX1_maySet 104 = .ok (.ireturn, 1) := by decide +kernel
theorem dX1_setting_0 : decode cX1_setting 0 = .ok (.iload_n 1, 1) := by decide +kernel
theorem dX1_setting_1 : decode cX1_setting 1 = .ok (.ifCond .lt 21, 3) := by decide +kernel
theorem dX1_setting_4 : decode cX1_setting 4 = .ok (.iload_n 1, 1) := by decide +kernel
theorem dX1_setting_5 : decode cX1_setting 5 = .ok (.aload_n 0, 1) := by decide +kernel
theorem dX1_setting_6 : decode cX1_setting 6 = .ok (.getfield 9, 3) := by decide +kernel
theorem dX1_setting_9 : decode cX1_setting 9 = .ok (.arraylength, 1) := by decide +kernel
theorem dX1_setting_10 : decode cX1_setting 10 = .ok (.if_icmp .ge 12, 3) := by decide +kernel
theorem dX1_setting_13 : decode cX1_setting 13 = .ok (.aload_n 0, 1) := by decide +kernel
theorem dX1_setting_14 : decode cX1_setting 14 = .ok (.getfield 9, 3) := by decide +kernel
theorem dX1_setting_17 : decode cX1_setting 17 = .ok (.iload_n 1, 1) := by decide +kernel
theorem dX1_setting_18 : decode cX1_setting 18 = .ok (.iaload, 1) := by decide +kernel
theorem dX1_setting_19 : decode cX1_setting 19 = .ok (.goto 4, 3) := by decide +kernel
theorem dX1_setting_22 : decode cX1_setting 22 = .ok (.iconst 0, 1) := by decide +kernel
theorem dX1_setting_23 : decode cX1_setting 23 = .ok (.ireturn, 1) := by decide +kernel
theorem dX1_set_0 : decode cX1_set 0 = .ok (.iload_n 1, 1) := by decide +kernel
theorem dX1_set_1 : decode cX1_set 1 = .ok (.iload_n 2, 1) := by decide +kernel
theorem dX1_set_2 : decode cX1_set 2 = .ok (.invokestatic 37, 3) := by decide +kernel
theorem dX1_set_5 : decode cX1_set 5 = .ok (.ifCond .eq 23, 3) := by decide +kernel
theorem dX1_set_8 : decode cX1_set 8 = .ok (.iload_n 1, 1) := by decide +kernel
theorem dX1_set_9 : decode cX1_set 9 = .ok (.ifCond .lt 19, 3) := by decide +kernel
theorem dX1_set_12 : decode cX1_set 12 = .ok (.iload_n 1, 1) := by decide +kernel
theorem dX1_set_13 : decode cX1_set 13 = .ok (.aload_n 0, 1) := by decide +kernel
theorem dX1_set_14 : decode cX1_set 14 = .ok (.getfield 9, 3) := by decide +kernel
theorem dX1_set_17 : decode cX1_set 17 = .ok (.arraylength, 1) := by decide +kernel
theorem dX1_set_18 : decode cX1_set 18 = .ok (.if_icmp .ge 10, 3) := by decide +kernel
theorem dX1_set_21 : decode cX1_set 21 = .ok (.aload_n 0, 1) := by decide +kernel
theorem dX1_set_22 : decode cX1_set 22 = .ok (.getfield 9, 3) := by decide +kernel
theorem dX1_set_25 : decode cX1_set 25 = .ok (.iload_n 1, 1) := by decide +kernel
theorem dX1_set_26 : decode cX1_set 26 = .ok (.iload_n 2, 1) := by decide +kernel
theorem dX1_set_27 : decode cX1_set 27 = .ok (.iastore, 1) := by decide +kernel
theorem dX1_set_28 : decode cX1_set 28 = .ok (.return_, 1) := by decide +kernel
theorem dX1_holds_0 : decode cX1_holds 0 = .ok (.aload_n 0, 1) := by decide +kernel
theorem dX1_holds_1 : decode cX1_holds 1 = .ok (.getfield 9, 3) := by decide +kernel
theorem dX1_holds_4 : decode cX1_holds 4 = .ok (.iconst 3, 1) := by decide +kernel
theorem dX1_holds_5 : decode cX1_holds 5 = .ok (.iaload, 1) := by decide +kernel
theorem dX1_holds_6 : decode cX1_holds 6 = .ok (.iload_n 1, 1) := by decide +kernel
theorem dX1_holds_7 : decode cX1_holds 7 = .ok (.invokestatic 41, 3) := by decide +kernel
theorem dX1_holds_10 : decode cX1_holds 10 = .ok (.ireturn, 1) := by decide +kernel
theorem dX1_freeMates_0 : decode cX1_freeMates 0 = .ok (.aload_n 0, 1) := by decide +kernel
theorem dX1_freeMates_1 : decode cX1_freeMates 1 = .ok (.getfield 9, 3) := by decide +kernel
theorem dX1_freeMates_4 : decode cX1_freeMates 4 = .ok (.iconst 0, 1) := by decide +kernel
theorem dX1_freeMates_5 : decode cX1_freeMates 5 = .ok (.iaload, 1) := by decide +kernel
theorem dX1_freeMates_6 : decode cX1_freeMates 6 = .ok (.istore_n 2, 1) := by decide +kernel
theorem dX1_freeMates_7 : decode cX1_freeMates 7 = .ok (.iload_n 1, 1) := by decide +kernel
theorem dX1_freeMates_8 : decode cX1_freeMates 8 = .ok (.iload_n 2, 1) := by decide +kernel
theorem dX1_freeMates_9 : decode cX1_freeMates 9 = .ok (.invokestatic 44, 3) := by decide +kernel
theorem dX1_freeMates_12 : decode cX1_freeMates 12 = .ok (.iload_n 2, 1) := by decide +kernel
theorem dX1_freeMates_13 : decode cX1_freeMates 13 = .ok (.invokestatic 48, 3) := by decide +kernel
theorem dX1_freeMates_16 : decode cX1_freeMates 16 = .ok (.aload_n 0, 1) := by decide +kernel
theorem dX1_freeMates_17 : decode cX1_freeMates 17 = .ok (.getfield 9, 3) := by decide +kernel
theorem dX1_freeMates_20 : decode cX1_freeMates 20 = .ok (.iconst 3, 1) := by decide +kernel
theorem dX1_freeMates_21 : decode cX1_freeMates 21 = .ok (.iaload, 1) := by decide +kernel
theorem dX1_freeMates_22 : decode cX1_freeMates 22 = .ok (.iconst (-1), 1) := by decide +kernel
theorem dX1_freeMates_23 : decode cX1_freeMates 23 = .ok (.ixor, 1) := by decide +kernel
theorem dX1_freeMates_24 : decode cX1_freeMates 24 = .ok (.iand, 1) := by decide +kernel
theorem dX1_freeMates_25 : decode cX1_freeMates 25 = .ok (.ireturn, 1) := by decide +kernel
theorem dX1_roomFor_0 : decode cX1_roomFor 0 = .ok (.aload_n 0, 1) := by decide +kernel
theorem dX1_roomFor_1 : decode cX1_roomFor 1 = .ok (.getfield 9, 3) := by decide +kernel
theorem dX1_roomFor_4 : decode cX1_roomFor 4 = .ok (.iconst 0, 1) := by decide +kernel
theorem dX1_roomFor_5 : decode cX1_roomFor 5 = .ok (.iaload, 1) := by decide +kernel
theorem dX1_roomFor_6 : decode cX1_roomFor 6 = .ok (.istore_n 2, 1) := by decide +kernel
theorem dX1_roomFor_7 : decode cX1_roomFor 7 = .ok (.aload_n 0, 1) := by decide +kernel
theorem dX1_roomFor_8 : decode cX1_roomFor 8 = .ok (.getfield 9, 3) := by decide +kernel
theorem dX1_roomFor_11 : decode cX1_roomFor 11 = .ok (.iconst 3, 1) := by decide +kernel
theorem dX1_roomFor_12 : decode cX1_roomFor 12 = .ok (.iaload, 1) := by decide +kernel
theorem dX1_roomFor_13 : decode cX1_roomFor 13 = .ok (.iload_n 1, 1) := by decide +kernel
theorem dX1_roomFor_14 : decode cX1_roomFor 14 = .ok (.iload_n 2, 1) := by decide +kernel
theorem dX1_roomFor_15 : decode cX1_roomFor 15 = .ok (.invokestatic 44, 3) := by decide +kernel
theorem dX1_roomFor_18 : decode cX1_roomFor 18 = .ok (.iload_n 2, 1) := by decide +kernel
theorem dX1_roomFor_19 : decode cX1_roomFor 19 = .ok (.invokestatic 48, 3) := by decide +kernel
theorem dX1_roomFor_22 : decode cX1_roomFor 22 = .ok (.iand, 1) := by decide +kernel
theorem dX1_roomFor_23 : decode cX1_roomFor 23 = .ok (.istore_n 3, 1) := by decide +kernel
theorem dX1_roomFor_24 : decode cX1_roomFor 24 = .ok (.aload_n 0, 1) := by decide +kernel
theorem dX1_roomFor_25 : decode cX1_roomFor 25 = .ok (.getfield 9, 3) := by decide +kernel
theorem dX1_roomFor_28 : decode cX1_roomFor 28 = .ok (.iconst 1, 1) := by decide +kernel
theorem dX1_roomFor_29 : decode cX1_roomFor 29 = .ok (.iaload, 1) := by decide +kernel
theorem dX1_roomFor_30 : decode cX1_roomFor 30 = .ok (.iload_n 3, 1) := by decide +kernel
theorem dX1_roomFor_31 : decode cX1_roomFor 31 = .ok (.invokestatic 51, 3) := by decide +kernel
theorem dX1_roomFor_34 : decode cX1_roomFor 34 = .ok (.isub, 1) := by decide +kernel
theorem dX1_roomFor_35 : decode cX1_roomFor 35 = .ok (.ireturn, 1) := by decide +kernel
theorem dX1_textOf_0 : decode cX1_textOf 0 = .ok (.iload_n 1, 1) := by decide +kernel
theorem dX1_textOf_1 : decode cX1_textOf 1 = .ok (.tableswitch 42 0 2 #[27, 32, 37], 27) := by decide +kernel
theorem dX1_textOf_28 : decode cX1_textOf 28 = .ok (.aload_n 0, 1) := by decide +kernel
theorem dX1_textOf_29 : decode cX1_textOf 29 = .ok (.getfield 24, 3) := by decide +kernel
theorem dX1_textOf_32 : decode cX1_textOf 32 = .ok (.areturn, 1) := by decide +kernel
theorem dX1_textOf_33 : decode cX1_textOf 33 = .ok (.aload_n 0, 1) := by decide +kernel
theorem dX1_textOf_34 : decode cX1_textOf 34 = .ok (.getfield 28, 3) := by decide +kernel
theorem dX1_textOf_37 : decode cX1_textOf 37 = .ok (.areturn, 1) := by decide +kernel
theorem dX1_textOf_38 : decode cX1_textOf 38 = .ok (.aload_n 0, 1) := by decide +kernel
theorem dX1_textOf_39 : decode cX1_textOf 39 = .ok (.getfield 31, 3) := by decide +kernel
theorem dX1_textOf_42 : decode cX1_textOf 42 = .ok (.areturn, 1) := by decide +kernel
theorem dX1_textOf_43 : decode cX1_textOf 43 = .ok (.aload_n 0, 1) := by decide +kernel
theorem dX1_textOf_44 : decode cX1_textOf 44 = .ok (.getfield 34, 3) := by decide +kernel
theorem dX1_textOf_47 : decode cX1_textOf 47 = .ok (.areturn, 1) := by decide +kernel
theorem dX1_periodOf_0 : decode cX1_periodOf 0 = .ok (.iload_n 1, 1) := by decide +kernel
theorem dX1_periodOf_1 : decode cX1_periodOf 1 = .ok (.ifCond .lt 21, 3) := by decide +kernel
theorem dX1_periodOf_4 : decode cX1_periodOf 4 = .ok (.iload_n 1, 1) := by decide +kernel
theorem dX1_periodOf_5 : decode cX1_periodOf 5 = .ok (.aload_n 0, 1) := by decide +kernel
theorem dX1_periodOf_6 : decode cX1_periodOf 6 = .ok (.getfield 15, 3) := by decide +kernel
theorem dX1_periodOf_9 : decode cX1_periodOf 9 = .ok (.arraylength, 1) := by decide +kernel
theorem dX1_periodOf_10 : decode cX1_periodOf 10 = .ok (.if_icmp .ge 12, 3) := by decide +kernel
theorem dX1_periodOf_13 : decode cX1_periodOf 13 = .ok (.aload_n 0, 1) := by decide +kernel
theorem dX1_periodOf_14 : decode cX1_periodOf 14 = .ok (.getfield 15, 3) := by decide +kernel
theorem dX1_periodOf_17 : decode cX1_periodOf 17 = .ok (.iload_n 1, 1) := by decide +kernel
theorem dX1_periodOf_18 : decode cX1_periodOf 18 = .ok (.iaload, 1) := by decide +kernel
theorem dX1_periodOf_19 : decode cX1_periodOf 19 = .ok (.goto 4, 3) := by decide +kernel
theorem dX1_periodOf_22 : decode cX1_periodOf 22 = .ok (.iconst 0, 1) := by decide +kernel
theorem dX1_periodOf_23 : decode cX1_periodOf 23 = .ok (.ireturn, 1) := by decide +kernel
theorem dX1_setPeriod_0 : decode cX1_setPeriod 0 = .ok (.iload_n 1, 1) := by decide +kernel
theorem dX1_setPeriod_1 : decode cX1_setPeriod 1 = .ok (.ifCond .lt 19, 3) := by decide +kernel
theorem dX1_setPeriod_4 : decode cX1_setPeriod 4 = .ok (.iload_n 1, 1) := by decide +kernel
theorem dX1_setPeriod_5 : decode cX1_setPeriod 5 = .ok (.aload_n 0, 1) := by decide +kernel
theorem dX1_setPeriod_6 : decode cX1_setPeriod 6 = .ok (.getfield 15, 3) := by decide +kernel
theorem dX1_setPeriod_9 : decode cX1_setPeriod 9 = .ok (.arraylength, 1) := by decide +kernel
theorem dX1_setPeriod_10 : decode cX1_setPeriod 10 = .ok (.if_icmp .ge 10, 3) := by decide +kernel
theorem dX1_setPeriod_13 : decode cX1_setPeriod 13 = .ok (.aload_n 0, 1) := by decide +kernel
theorem dX1_setPeriod_14 : decode cX1_setPeriod 14 = .ok (.getfield 15, 3) := by decide +kernel
theorem dX1_setPeriod_17 : decode cX1_setPeriod 17 = .ok (.iload_n 1, 1) := by decide +kernel
theorem dX1_setPeriod_18 : decode cX1_setPeriod 18 = .ok (.iload_n 2, 1) := by decide +kernel
theorem dX1_setPeriod_19 : decode cX1_setPeriod 19 = .ok (.iastore, 1) := by decide +kernel
theorem dX1_setPeriod_20 : decode cX1_setPeriod 20 = .ok (.return_, 1) := by decide +kernel
theorem dX1_isTask_0 : decode cX1_isTask 0 = .ok (.aload_n 0, 1) := by decide +kernel
theorem dX1_isTask_1 : decode cX1_isTask 1 = .ok (.iload_n 1, 1) := by decide +kernel
theorem dX1_isTask_2 : decode cX1_isTask 2 = .ok (.invokevirtual 57, 3) := by decide +kernel
theorem dX1_isTask_5 : decode cX1_isTask 5 = .ok (.ifCond .le 7, 3) := by decide +kernel
theorem dX1_isTask_8 : decode cX1_isTask 8 = .ok (.iconst 1, 1) := by decide +kernel
theorem dX1_isTask_9 : decode cX1_isTask 9 = .ok (.goto 4, 3) := by decide +kernel
theorem dX1_isTask_12 : decode cX1_isTask 12 = .ok (.iconst 0, 1) := by decide +kernel
theorem dX1_isTask_13 : decode cX1_isTask 13 = .ok (.ireturn, 1) := by decide +kernel
theorem dX1_addDigit_0 : decode cX1_addDigit 0 = .ok (.aload_n 0, 1) := by decide +kernel
theorem dX1_addDigit_1 : decode cX1_addDigit 1 = .ok (.getfield 60, 3) := by decide +kernel
theorem dX1_addDigit_4 : decode cX1_addDigit 4 = .ok (.aload_n 0, 1) := by decide +kernel
theorem dX1_addDigit_5 : decode cX1_addDigit 5 = .ok (.getfield 18, 3) := by decide +kernel
theorem dX1_addDigit_8 : decode cX1_addDigit 8 = .ok (.arraylength, 1) := by decide +kernel
theorem dX1_addDigit_9 : decode cX1_addDigit 9 = .ok (.if_icmp .lt 5, 3) := by decide +kernel
theorem dX1_addDigit_12 : decode cX1_addDigit 12 = .ok (.iconst 0, 1) := by decide +kernel
theorem dX1_addDigit_13 : decode cX1_addDigit 13 = .ok (.ireturn, 1) := by decide +kernel
theorem dX1_addDigit_14 : decode cX1_addDigit 14 = .ok (.aload_n 0, 1) := by decide +kernel
theorem dX1_addDigit_15 : decode cX1_addDigit 15 = .ok (.getfield 18, 3) := by decide +kernel
theorem dX1_addDigit_18 : decode cX1_addDigit 18 = .ok (.aload_n 0, 1) := by decide +kernel
theorem dX1_addDigit_19 : decode cX1_addDigit 19 = .ok (.getfield 60, 3) := by decide +kernel
theorem dX1_addDigit_22 : decode cX1_addDigit 22 = .ok (.iload_n 1, 1) := by decide +kernel
theorem dX1_addDigit_23 : decode cX1_addDigit 23 = .ok (.iastore, 1) := by decide +kernel
theorem dX1_addDigit_24 : decode cX1_addDigit 24 = .ok (.aload_n 0, 1) := by decide +kernel
theorem dX1_addDigit_25 : decode cX1_addDigit 25 = .ok (.dup, 1) := by decide +kernel
theorem dX1_addDigit_26 : decode cX1_addDigit 26 = .ok (.getfield 60, 3) := by decide +kernel
theorem dX1_addDigit_29 : decode cX1_addDigit 29 = .ok (.iconst 1, 1) := by decide +kernel
theorem dX1_addDigit_30 : decode cX1_addDigit 30 = .ok (.iadd, 1) := by decide +kernel
theorem dX1_addDigit_31 : decode cX1_addDigit 31 = .ok (.putfield 60, 3) := by decide +kernel
theorem dX1_addDigit_34 : decode cX1_addDigit 34 = .ok (.iconst 1, 1) := by decide +kernel
theorem dX1_addDigit_35 : decode cX1_addDigit 35 = .ok (.ireturn, 1) := by decide +kernel
theorem dX1_digitAt_0 : decode cX1_digitAt 0 = .ok (.iload_n 1, 1) := by decide +kernel
theorem dX1_digitAt_1 : decode cX1_digitAt 1 = .ok (.ifCond .lt 29, 3) := by decide +kernel
theorem dX1_digitAt_4 : decode cX1_digitAt 4 = .ok (.iload_n 1, 1) := by decide +kernel
theorem dX1_digitAt_5 : decode cX1_digitAt 5 = .ok (.aload_n 0, 1) := by decide +kernel
theorem dX1_digitAt_6 : decode cX1_digitAt 6 = .ok (.getfield 60, 3) := by decide +kernel
theorem dX1_digitAt_9 : decode cX1_digitAt 9 = .ok (.if_icmp .ge 21, 3) := by decide +kernel
theorem dX1_digitAt_12 : decode cX1_digitAt 12 = .ok (.iload_n 1, 1) := by decide +kernel
theorem dX1_digitAt_13 : decode cX1_digitAt 13 = .ok (.aload_n 0, 1) := by decide +kernel
theorem dX1_digitAt_14 : decode cX1_digitAt 14 = .ok (.getfield 18, 3) := by decide +kernel
theorem dX1_digitAt_17 : decode cX1_digitAt 17 = .ok (.arraylength, 1) := by decide +kernel
theorem dX1_digitAt_18 : decode cX1_digitAt 18 = .ok (.if_icmp .ge 12, 3) := by decide +kernel
theorem dX1_digitAt_21 : decode cX1_digitAt 21 = .ok (.aload_n 0, 1) := by decide +kernel
theorem dX1_digitAt_22 : decode cX1_digitAt 22 = .ok (.getfield 18, 3) := by decide +kernel
theorem dX1_digitAt_25 : decode cX1_digitAt 25 = .ok (.iload_n 1, 1) := by decide +kernel
theorem dX1_digitAt_26 : decode cX1_digitAt 26 = .ok (.iaload, 1) := by decide +kernel
theorem dX1_digitAt_27 : decode cX1_digitAt 27 = .ok (.goto 4, 3) := by decide +kernel
theorem dX1_digitAt_30 : decode cX1_digitAt 30 = .ok (.iconst 0, 1) := by decide +kernel
theorem dX1_digitAt_31 : decode cX1_digitAt 31 = .ok (.ireturn, 1) := by decide +kernel
theorem dX1_copyFrom_0 : decode cX1_copyFrom 0 = .ok (.iconst 0, 1) := by decide +kernel
theorem dX1_copyFrom_1 : decode cX1_copyFrom 1 = .ok (.istore_n 2, 1) := by decide +kernel
theorem dX1_copyFrom_2 : decode cX1_copyFrom 2 = .ok (.iload_n 2, 1) := by decide +kernel
theorem dX1_copyFrom_3 : decode cX1_copyFrom 3 = .ok (.aload_n 0, 1) := by decide +kernel
theorem dX1_copyFrom_4 : decode cX1_copyFrom 4 = .ok (.getfield 9, 3) := by decide +kernel
theorem dX1_copyFrom_7 : decode cX1_copyFrom 7 = .ok (.arraylength, 1) := by decide +kernel
theorem dX1_copyFrom_8 : decode cX1_copyFrom 8 = .ok (.if_icmp .ge 20, 3) := by decide +kernel
theorem dX1_copyFrom_11 : decode cX1_copyFrom 11 = .ok (.aload_n 0, 1) := by decide +kernel
theorem dX1_copyFrom_12 : decode cX1_copyFrom 12 = .ok (.getfield 9, 3) := by decide +kernel
theorem dX1_copyFrom_15 : decode cX1_copyFrom 15 = .ok (.iload_n 2, 1) := by decide +kernel
theorem dX1_copyFrom_16 : decode cX1_copyFrom 16 = .ok (.aload_n 1, 1) := by decide +kernel
theorem dX1_copyFrom_17 : decode cX1_copyFrom 17 = .ok (.iload_n 2, 1) := by decide +kernel
theorem dX1_copyFrom_18 : decode cX1_copyFrom 18 = .ok (.invokevirtual 64, 3) := by decide +kernel
theorem dX1_copyFrom_21 : decode cX1_copyFrom 21 = .ok (.iastore, 1) := by decide +kernel
theorem dX1_copyFrom_22 : decode cX1_copyFrom 22 = .ok (.iinc 2 1, 3) := by decide +kernel
theorem dX1_copyFrom_25 : decode cX1_copyFrom 25 = .ok (.goto (-23), 3) := by decide +kernel
theorem dX1_copyFrom_28 : decode cX1_copyFrom 28 = .ok (.iconst 0, 1) := by decide +kernel
theorem dX1_copyFrom_29 : decode cX1_copyFrom 29 = .ok (.istore_n 2, 1) := by decide +kernel
theorem dX1_copyFrom_30 : decode cX1_copyFrom 30 = .ok (.iload_n 2, 1) := by decide +kernel
theorem dX1_copyFrom_31 : decode cX1_copyFrom 31 = .ok (.iconst 4, 1) := by decide +kernel
theorem dX1_copyFrom_32 : decode cX1_copyFrom 32 = .ok (.if_icmp .ge 41, 3) := by decide +kernel
theorem dX1_copyFrom_35 : decode cX1_copyFrom 35 = .ok (.aload_n 1, 1) := by decide +kernel
theorem dX1_copyFrom_36 : decode cX1_copyFrom 36 = .ok (.iload_n 2, 1) := by decide +kernel
theorem dX1_copyFrom_37 : decode cX1_copyFrom 37 = .ok (.invokevirtual 67, 3) := by decide +kernel
theorem dX1_copyFrom_40 : decode cX1_copyFrom 40 = .ok (.astore_n 3, 1) := by decide +kernel
theorem dX1_copyFrom_41 : decode cX1_copyFrom 41 = .ok (.aload_n 0, 1) := by decide +kernel
theorem dX1_copyFrom_42 : decode cX1_copyFrom 42 = .ok (.iload_n 2, 1) := by decide +kernel
theorem dX1_copyFrom_43 : decode cX1_copyFrom 43 = .ok (.invokevirtual 67, 3) := by decide +kernel
theorem dX1_copyFrom_46 : decode cX1_copyFrom 46 = .ok (.aload_n 3, 1) := by decide +kernel
theorem dX1_copyFrom_47 : decode cX1_copyFrom 47 = .ok (.getfield 71, 3) := by decide +kernel
theorem dX1_copyFrom_50 : decode cX1_copyFrom 50 = .ok (.aload_n 3, 1) := by decide +kernel
theorem dX1_copyFrom_51 : decode cX1_copyFrom 51 = .ok (.getfield 74, 3) := by decide +kernel
theorem dX1_copyFrom_54 : decode cX1_copyFrom 54 = .ok (.invokevirtual 77, 3) := by decide +kernel
theorem dX1_copyFrom_57 : decode cX1_copyFrom 57 = .ok (.aload_n 0, 1) := by decide +kernel
theorem dX1_copyFrom_58 : decode cX1_copyFrom 58 = .ok (.iload_n 2, 1) := by decide +kernel
theorem dX1_copyFrom_59 : decode cX1_copyFrom 59 = .ok (.aload_n 1, 1) := by decide +kernel
theorem dX1_copyFrom_60 : decode cX1_copyFrom 60 = .ok (.iload_n 2, 1) := by decide +kernel
theorem dX1_copyFrom_61 : decode cX1_copyFrom 61 = .ok (.invokevirtual 57, 3) := by decide +kernel
theorem dX1_copyFrom_64 : decode cX1_copyFrom 64 = .ok (.invokevirtual 81, 3) := by decide +kernel
theorem dX1_copyFrom_67 : decode cX1_copyFrom 67 = .ok (.iinc 2 1, 3) := by decide +kernel
theorem dX1_copyFrom_70 : decode cX1_copyFrom 70 = .ok (.goto (-40), 3) := by decide +kernel
theorem dX1_copyFrom_73 : decode cX1_copyFrom 73 = .ok (.aload_n 0, 1) := by decide +kernel
theorem dX1_copyFrom_74 : decode cX1_copyFrom 74 = .ok (.aload_n 1, 1) := by decide +kernel
theorem dX1_copyFrom_75 : decode cX1_copyFrom 75 = .ok (.getfield 60, 3) := by decide +kernel
theorem dX1_copyFrom_78 : decode cX1_copyFrom 78 = .ok (.putfield 60, 3) := by decide +kernel
theorem dX1_copyFrom_81 : decode cX1_copyFrom 81 = .ok (.iconst 0, 1) := by decide +kernel
theorem dX1_copyFrom_82 : decode cX1_copyFrom 82 = .ok (.istore_n 2, 1) := by decide +kernel
theorem dX1_copyFrom_83 : decode cX1_copyFrom 83 = .ok (.iload_n 2, 1) := by decide +kernel
theorem dX1_copyFrom_84 : decode cX1_copyFrom 84 = .ok (.aload_n 0, 1) := by decide +kernel
theorem dX1_copyFrom_85 : decode cX1_copyFrom 85 = .ok (.getfield 18, 3) := by decide +kernel
theorem dX1_copyFrom_88 : decode cX1_copyFrom 88 = .ok (.arraylength, 1) := by decide +kernel
theorem dX1_copyFrom_89 : decode cX1_copyFrom 89 = .ok (.if_icmp .ge 20, 3) := by decide +kernel
theorem dX1_copyFrom_92 : decode cX1_copyFrom 92 = .ok (.aload_n 0, 1) := by decide +kernel
theorem dX1_copyFrom_93 : decode cX1_copyFrom 93 = .ok (.getfield 18, 3) := by decide +kernel
theorem dX1_copyFrom_96 : decode cX1_copyFrom 96 = .ok (.iload_n 2, 1) := by decide +kernel
theorem dX1_copyFrom_97 : decode cX1_copyFrom 97 = .ok (.aload_n 1, 1) := by decide +kernel
theorem dX1_copyFrom_98 : decode cX1_copyFrom 98 = .ok (.iload_n 2, 1) := by decide +kernel
theorem dX1_copyFrom_99 : decode cX1_copyFrom 99 = .ok (.invokevirtual 85, 3) := by decide +kernel
theorem dX1_copyFrom_102 : decode cX1_copyFrom 102 = .ok (.iastore, 1) := by decide +kernel
theorem dX1_copyFrom_103 : decode cX1_copyFrom 103 = .ok (.iinc 2 1, 3) := by decide +kernel
theorem dX1_copyFrom_106 : decode cX1_copyFrom 106 = .ok (.goto (-23), 3) := by decide +kernel
theorem dX1_copyFrom_109 : decode cX1_copyFrom 109 = .ok (.return_, 1) := by decide +kernel
theorem dX2_init_0 : decode cX2_init 0 = .ok (.aload_n 0, 1) := by decide +kernel
theorem dX2_init_1 : decode cX2_init 1 = .ok (.invokespecial 3, 3) := by decide +kernel
theorem dX2_init_4 : decode cX2_init 4 = .ok (.aload_n 0, 1) := by decide +kernel
theorem dX2_init_5 : decode cX2_init 5 = .ok (.bipush 30, 2) := by decide +kernel
theorem dX2_init_7 : decode cX2_init 7 = .ok (.newarray .int, 2) := by decide +kernel
theorem dX2_init_9 : decode cX2_init 9 = .ok (.putfield 9, 3) := by decide +kernel
theorem dX2_init_12 : decode cX2_init 12 = .ok (.aload_n 0, 1) := by decide +kernel
theorem dX2_init_13 : decode cX2_init 13 = .ok (.bipush 30, 2) := by decide +kernel
theorem dX2_init_15 : decode cX2_init 15 = .ok (.newarray .int, 2) := by decide +kernel
theorem dX2_init_17 : decode cX2_init 17 = .ok (.putfield 15, 3) := by decide +kernel
theorem dX2_init_20 : decode cX2_init 20 = .ok (.aload_n 0, 1) := by decide +kernel
theorem dX2_init_21 : decode cX2_init 21 = .ok (.aload_n 1, 1) := by decide +kernel
theorem dX2_init_22 : decode cX2_init 22 = .ok (.putfield 18, 3) := by decide +kernel
theorem dX2_init_25 : decode cX2_init 25 = .ok (.aload_n 0, 1) := by decide +kernel
theorem dX2_init_26 : decode cX2_init 26 = .ok (.aload_n 2, 1) := by decide +kernel
theorem dX2_init_27 : decode cX2_init 27 = .ok (.putfield 22, 3) := by decide +kernel
theorem dX2_init_30 : decode cX2_init 30 = .ok (.aload_n 0, 1) := by decide +kernel
theorem dX2_init_31 : decode cX2_init 31 = .ok (.aload_n 1, 1) := by decide +kernel
theorem dX2_init_32 : decode cX2_init 32 = .ok (.iconst 0, 1) := by decide +kernel
theorem dX2_init_33 : decode cX2_init 33 = .ok (.invokevirtual 26, 3) := by decide +kernel
theorem dX2_init_36 : decode cX2_init 36 = .ok (.putfield 32, 3) := by decide +kernel
theorem dX2_init_39 : decode cX2_init 39 = .ok (.return_, 1) := by decide +kernel
theorem dX2_study_0 : decode cX2_study 0 = .ok (.aload_n 0, 1) := by decide +kernel
theorem dX2_study_1 : decode cX2_study 1 = .ok (.aload_n 1, 1) := by decide +kernel
theorem dX2_study_2 : decode cX2_study 2 = .ok (.putfield 32, 3) := by decide +kernel
theorem dX2_study_5 : decode cX2_study 5 = .ok (.aload_n 0, 1) := by decide +kernel
theorem dX2_study_6 : decode cX2_study 6 = .ok (.getfield 22, 3) := by decide +kernel
theorem dX2_study_9 : decode cX2_study 9 = .ok (.aload_n 1, 1) := by decide +kernel
theorem dX2_study_10 : decode cX2_study 10 = .ok (.invokevirtual 36, 3) := by decide +kernel
theorem dX2_study_13 : decode cX2_study 13 = .ok (.iconst 0, 1) := by decide +kernel
theorem dX2_study_14 : decode cX2_study 14 = .ok (.istore_n 2, 1) := by decide +kernel
theorem dX2_study_15 : decode cX2_study 15 = .ok (.iload_n 2, 1) := by decide +kernel
theorem dX2_study_16 : decode cX2_study 16 = .ok (.aload_n 1, 1) := by decide +kernel
theorem dX2_study_17 : decode cX2_study 17 = .ok (.getfield 42, 3) := by decide +kernel
theorem dX2_study_20 : decode cX2_study 20 = .ok (.if_icmp .ge 41, 3) := by decide +kernel
theorem dX2_study_23 : decode cX2_study 23 = .ok (.iload_n 2, 1) := by decide +kernel
theorem dX2_study_24 : decode cX2_study 24 = .ok (.aload_n 0, 1) := by decide +kernel
theorem dX2_study_25 : decode cX2_study 25 = .ok (.getfield 9, 3) := by decide +kernel
theorem dX2_study_28 : decode cX2_study 28 = .ok (.arraylength, 1) := by decide +kernel
theorem dX2_study_29 : decode cX2_study 29 = .ok (.if_icmp .ge 32, 3) := by decide +kernel
theorem dX2_study_32 : decode cX2_study 32 = .ok (.aload_n 0, 1) := by decide +kernel
theorem dX2_study_33 : decode cX2_study 33 = .ok (.getfield 9, 3) := by decide +kernel
theorem dX2_study_36 : decode cX2_study 36 = .ok (.iload_n 2, 1) := by decide +kernel
theorem dX2_study_37 : decode cX2_study 37 = .ok (.aload_n 1, 1) := by decide +kernel
theorem dX2_study_38 : decode cX2_study 38 = .ok (.iload_n 2, 1) := by decide +kernel
theorem dX2_study_39 : decode cX2_study 39 = .ok (.invokevirtual 48, 3) := by decide +kernel
theorem dX2_study_42 : decode cX2_study 42 = .ok (.ifCond .eq 11, 3) := by decide +kernel
theorem dX2_study_45 : decode cX2_study 45 = .ok (.aload_n 0, 1) := by decide +kernel
theorem dX2_study_46 : decode cX2_study 46 = .ok (.iload_n 2, 1) := by decide +kernel
theorem dX2_study_47 : decode cX2_study 47 = .ok (.invokevirtual 52, 3) := by decide +kernel
theorem dX2_study_50 : decode cX2_study 50 = .ok (.goto 4, 3) := by decide +kernel
theorem dX2_study_53 : decode cX2_study 53 = .ok (.iconst 0, 1) := by decide +kernel
theorem dX2_study_54 : decode cX2_study 54 = .ok (.iastore, 1) := by decide +kernel
theorem dX2_study_55 : decode cX2_study 55 = .ok (.iinc 2 1, 3) := by decide +kernel
theorem dX2_study_58 : decode cX2_study 58 = .ok (.goto (-43), 3) := by decide +kernel
theorem dX2_study_61 : decode cX2_study 61 = .ok (.return_, 1) := by decide +kernel
theorem dX2_sortAt_0 : decode cX2_sortAt 0 = .ok (.iload_n 1, 1) := by decide +kernel
theorem dX2_sortAt_1 : decode cX2_sortAt 1 = .ok (.ifCond .lt 21, 3) := by decide +kernel
theorem dX2_sortAt_4 : decode cX2_sortAt 4 = .ok (.iload_n 1, 1) := by decide +kernel
theorem dX2_sortAt_5 : decode cX2_sortAt 5 = .ok (.aload_n 0, 1) := by decide +kernel
theorem dX2_sortAt_6 : decode cX2_sortAt 6 = .ok (.getfield 9, 3) := by decide +kernel
theorem dX2_sortAt_9 : decode cX2_sortAt 9 = .ok (.arraylength, 1) := by decide +kernel
theorem dX2_sortAt_10 : decode cX2_sortAt 10 = .ok (.if_icmp .ge 12, 3) := by decide +kernel
theorem dX2_sortAt_13 : decode cX2_sortAt 13 = .ok (.aload_n 0, 1) := by decide +kernel
theorem dX2_sortAt_14 : decode cX2_sortAt 14 = .ok (.getfield 9, 3) := by decide +kernel
theorem dX2_sortAt_17 : decode cX2_sortAt 17 = .ok (.iload_n 1, 1) := by decide +kernel
theorem dX2_sortAt_18 : decode cX2_sortAt 18 = .ok (.iaload, 1) := by decide +kernel
theorem dX2_sortAt_19 : decode cX2_sortAt 19 = .ok (.goto 4, 3) := by decide +kernel
theorem dX2_sortAt_22 : decode cX2_sortAt 22 = .ok (.iconst 0, 1) := by decide +kernel
theorem dX2_sortAt_23 : decode cX2_sortAt 23 = .ok (.ireturn, 1) := by decide +kernel
theorem dX2_plain_0 : decode cX2_plain 0 = .ok (.aload_n 0, 1) := by decide +kernel
theorem dX2_plain_1 : decode cX2_plain 1 = .ok (.aload_n 0, 1) := by decide +kernel
theorem dX2_plain_2 : decode cX2_plain 2 = .ok (.getfield 18, 3) := by decide +kernel
theorem dX2_plain_5 : decode cX2_plain 5 = .ok (.iconst 2, 1) := by decide +kernel
theorem dX2_plain_6 : decode cX2_plain 6 = .ok (.invokevirtual 56, 3) := by decide +kernel
theorem dX2_plain_9 : decode cX2_plain 9 = .ok (.invokevirtual 59, 3) := by decide +kernel
theorem dX2_plain_12 : decode cX2_plain 12 = .ok (.ireturn, 1) := by decide +kernel
theorem dX2_closer_0 : decode cX2_closer 0 = .ok (.aload_n 0, 1) := by decide +kernel
theorem dX2_closer_1 : decode cX2_closer 1 = .ok (.iconst 1, 1) := by decide +kernel
theorem dX2_closer_2 : decode cX2_closer 2 = .ok (.invokevirtual 59, 3) := by decide +kernel
theorem dX2_closer_5 : decode cX2_closer 5 = .ok (.istore_n 1, 1) := by decide +kernel
theorem dX2_closer_6 : decode cX2_closer 6 = .ok (.iconst 0, 1) := by decide +kernel
theorem dX2_closer_7 : decode cX2_closer 7 = .ok (.istore_n 2, 1) := by decide +kernel
theorem dX2_closer_8 : decode cX2_closer 8 = .ok (.iload_n 2, 1) := by decide +kernel
theorem dX2_closer_9 : decode cX2_closer 9 = .ok (.aload_n 0, 1) := by decide +kernel
theorem dX2_closer_10 : decode cX2_closer 10 = .ok (.getfield 32, 3) := by decide +kernel
theorem dX2_closer_13 : decode cX2_closer 13 = .ok (.getfield 42, 3) := by decide +kernel
theorem dX2_closer_16 : decode cX2_closer 16 = .ok (.if_icmp .ge 39, 3) := by decide +kernel
theorem dX2_closer_19 : decode cX2_closer 19 = .ok (.aload_n 0, 1) := by decide +kernel
theorem dX2_closer_20 : decode cX2_closer 20 = .ok (.iload_n 2, 1) := by decide +kernel
theorem dX2_closer_21 : decode cX2_closer 21 = .ok (.invokevirtual 62, 3) := by decide +kernel
theorem dX2_closer_24 : decode cX2_closer 24 = .ok (.invokestatic 65, 3) := by decide +kernel
theorem dX2_closer_27 : decode cX2_closer 27 = .ok (.istore_n 3, 1) := by decide +kernel
theorem dX2_closer_28 : decode cX2_closer 28 = .ok (.iload_n 1, 1) := by decide +kernel
theorem dX2_closer_29 : decode cX2_closer 29 = .ok (.iload_n 3, 1) := by decide +kernel
theorem dX2_closer_30 : decode cX2_closer 30 = .ok (.aload_n 0, 1) := by decide +kernel
theorem dX2_closer_31 : decode cX2_closer 31 = .ok (.getfield 18, 3) := by decide +kernel
theorem dX2_closer_34 : decode cX2_closer 34 = .ok (.iconst 2, 1) := by decide +kernel
theorem dX2_closer_35 : decode cX2_closer 35 = .ok (.invokevirtual 56, 3) := by decide +kernel
theorem dX2_closer_38 : decode cX2_closer 38 = .ok (.iconst 1, 1) := by decide +kernel
theorem dX2_closer_39 : decode cX2_closer 39 = .ok (.isub, 1) := by decide +kernel
theorem dX2_closer_40 : decode cX2_closer 40 = .ok (.imul, 1) := by decide +kernel
theorem dX2_closer_41 : decode cX2_closer 41 = .ok (.aload_n 0, 1) := by decide +kernel
theorem dX2_closer_42 : decode cX2_closer 42 = .ok (.iload_n 2, 1) := by decide +kernel
theorem dX2_closer_43 : decode cX2_closer 43 = .ok (.invokevirtual 70, 3) := by decide +kernel
theorem dX2_closer_46 : decode cX2_closer 46 = .ok (.imul, 1) := by decide +kernel
theorem dX2_closer_47 : decode cX2_closer 47 = .ok (.iadd, 1) := by decide +kernel
theorem dX2_closer_48 : decode cX2_closer 48 = .ok (.istore_n 1, 1) := by decide +kernel
theorem dX2_closer_49 : decode cX2_closer 49 = .ok (.iinc 2 1, 3) := by decide +kernel
theorem dX2_closer_52 : decode cX2_closer 52 = .ok (.goto (-44), 3) := by decide +kernel
theorem dX2_closer_55 : decode cX2_closer 55 = .ok (.iload_n 1, 1) := by decide +kernel
theorem dX2_closer_56 : decode cX2_closer 56 = .ok (.ireturn, 1) := by decide +kernel
theorem dX2_sortOf_0 : decode cX2_sortOf 0 = .ok (.aload_n 0, 1) := by decide +kernel
theorem dX2_sortOf_1 : decode cX2_sortOf 1 = .ok (.getfield 32, 3) := by decide +kernel
theorem dX2_sortOf_4 : decode cX2_sortOf 4 = .ok (.iload_n 1, 1) := by decide +kernel
theorem dX2_sortOf_5 : decode cX2_sortOf 5 = .ok (.invokevirtual 73, 3) := by decide +kernel
theorem dX2_sortOf_8 : decode cX2_sortOf 8 = .ok (.istore_n 2, 1) := by decide +kernel
theorem dX2_sortOf_9 : decode cX2_sortOf 9 = .ok (.aload_n 0, 1) := by decide +kernel
theorem dX2_sortOf_10 : decode cX2_sortOf 10 = .ok (.getfield 18, 3) := by decide +kernel
theorem dX2_sortOf_13 : decode cX2_sortOf 13 = .ok (.iload_n 2, 1) := by decide +kernel
theorem dX2_sortOf_14 : decode cX2_sortOf 14 = .ok (.invokevirtual 76, 3) := by decide +kernel
theorem dX2_sortOf_17 : decode cX2_sortOf 17 = .ok (.istore_n 3, 1) := by decide +kernel
theorem dX2_sortOf_18 : decode cX2_sortOf 18 = .ok (.aload_n 0, 1) := by decide +kernel
theorem dX2_sortOf_19 : decode cX2_sortOf 19 = .ok (.getfield 18, 3) := by decide +kernel
theorem dX2_sortOf_22 : decode cX2_sortOf 22 = .ok (.iload_n 2, 1) := by decide +kernel
theorem dX2_sortOf_23 : decode cX2_sortOf 23 = .ok (.invokevirtual 79, 3) := by decide +kernel
theorem dX2_sortOf_26 : decode cX2_sortOf 26 = .ok (.ifCond .ne 16, 3) := by decide +kernel
theorem dX2_sortOf_29 : decode cX2_sortOf 29 = .ok (.aload_n 0, 1) := by decide +kernel
theorem dX2_sortOf_30 : decode cX2_sortOf 30 = .ok (.getfield 22, 3) := by decide +kernel
theorem dX2_sortOf_33 : decode cX2_sortOf 33 = .ok (.iload_n 1, 1) := by decide +kernel
theorem dX2_sortOf_34 : decode cX2_sortOf 34 = .ok (.iload_n 2, 1) := by decide +kernel
theorem dX2_sortOf_35 : decode cX2_sortOf 35 = .ok (.invokevirtual 82, 3) := by decide +kernel
theorem dX2_sortOf_38 : decode cX2_sortOf 38 = .ok (.iload_n 3, 1) := by decide +kernel
theorem dX2_sortOf_39 : decode cX2_sortOf 39 = .ok (.if_icmp .ge 5, 3) := by decide +kernel
theorem dX2_sortOf_42 : decode cX2_sortOf 42 = .ok (.iconst 0, 1) := by decide +kernel
theorem dX2_sortOf_43 : decode cX2_sortOf 43 = .ok (.ireturn, 1) := by decide +kernel
theorem dX2_sortOf_44 : decode cX2_sortOf 44 = .ok (.aload_n 0, 1) := by decide +kernel
theorem dX2_sortOf_45 : decode cX2_sortOf 45 = .ok (.getfield 22, 3) := by decide +kernel
theorem dX2_sortOf_48 : decode cX2_sortOf 48 = .ok (.iload_n 1, 1) := by decide +kernel
theorem dX2_sortOf_49 : decode cX2_sortOf 49 = .ok (.iload_n 2, 1) := by decide +kernel
theorem dX2_sortOf_50 : decode cX2_sortOf 50 = .ok (.invokevirtual 86, 3) := by decide +kernel
theorem dX2_sortOf_53 : decode cX2_sortOf 53 = .ok (.iload_n 3, 1) := by decide +kernel
theorem dX2_sortOf_54 : decode cX2_sortOf 54 = .ok (.if_icmp .ne 5, 3) := by decide +kernel
theorem dX2_sortOf_57 : decode cX2_sortOf 57 = .ok (.iconst 1, 1) := by decide +kernel
theorem dX2_sortOf_58 : decode cX2_sortOf 58 = .ok (.ireturn, 1) := by decide +kernel
theorem dX2_sortOf_59 : decode cX2_sortOf 59 = .ok (.aload_n 0, 1) := by decide +kernel
theorem dX2_sortOf_60 : decode cX2_sortOf 60 = .ok (.iload_n 1, 1) := by decide +kernel
theorem dX2_sortOf_61 : decode cX2_sortOf 61 = .ok (.invokevirtual 89, 3) := by decide +kernel
theorem dX2_sortOf_64 : decode cX2_sortOf 64 = .ok (.ifCond .ge 7, 3) := by decide +kernel
theorem dX2_sortOf_67 : decode cX2_sortOf 67 = .ok (.iconst 3, 1) := by decide +kernel
theorem dX2_sortOf_68 : decode cX2_sortOf 68 = .ok (.goto 4, 3) := by decide +kernel
theorem dX2_sortOf_71 : decode cX2_sortOf 71 = .ok (.iconst 2, 1) := by decide +kernel
theorem dX2_sortOf_72 : decode cX2_sortOf 72 = .ok (.ireturn, 1) := by decide +kernel
theorem dX2_loopThatKeeps_0 : decode cX2_loopThatKeeps 0 = .ok (.aload_n 0, 1) := by decide +kernel
theorem dX2_loopThatKeeps_1 : decode cX2_loopThatKeeps 1 = .ok (.getfield 18, 3) := by decide +kernel
theorem dX2_loopThatKeeps_4 : decode cX2_loopThatKeeps 4 = .ok (.aload_n 0, 1) := by decide +kernel
theorem dX2_loopThatKeeps_5 : decode cX2_loopThatKeeps 5 = .ok (.getfield 32, 3) := by decide +kernel
theorem dX2_loopThatKeeps_8 : decode cX2_loopThatKeeps 8 = .ok (.iload_n 1, 1) := by decide +kernel
theorem dX2_loopThatKeeps_9 : decode cX2_loopThatKeeps 9 = .ok (.invokevirtual 73, 3) := by decide +kernel
theorem dX2_loopThatKeeps_12 : decode cX2_loopThatKeeps 12 = .ok (.invokevirtual 92, 3) := by decide +kernel
theorem dX2_loopThatKeeps_15 : decode cX2_loopThatKeeps 15 = .ok (.istore_n 2, 1) := by decide +kernel
theorem dX2_loopThatKeeps_16 : decode cX2_loopThatKeeps 16 = .ok (.aload_n 0, 1) := by decide +kernel
theorem dX2_loopThatKeeps_17 : decode cX2_loopThatKeeps 17 = .ok (.getfield 18, 3) := by decide +kernel
theorem dX2_loopThatKeeps_20 : decode cX2_loopThatKeeps 20 = .ok (.aload_n 0, 1) := by decide +kernel
theorem dX2_loopThatKeeps_21 : decode cX2_loopThatKeeps 21 = .ok (.getfield 32, 3) := by decide +kernel
theorem dX2_loopThatKeeps_24 : decode cX2_loopThatKeeps 24 = .ok (.iload_n 1, 1) := by decide +kernel
theorem dX2_loopThatKeeps_25 : decode cX2_loopThatKeeps 25 = .ok (.invokevirtual 73, 3) := by decide +kernel
theorem dX2_loopThatKeeps_28 : decode cX2_loopThatKeeps 28 = .ok (.invokevirtual 76, 3) := by decide +kernel
theorem dX2_loopThatKeeps_31 : decode cX2_loopThatKeeps 31 = .ok (.istore_n 3, 1) := by decide +kernel
theorem dX2_loopThatKeeps_32 : decode cX2_loopThatKeeps 32 = .ok (.iconst 0, 1) := by decide +kernel
theorem dX2_loopThatKeeps_33 : decode cX2_loopThatKeeps 33 = .ok (.istore 4, 2) := by decide +kernel
theorem dX2_loopThatKeeps_35 : decode cX2_loopThatKeeps 35 = .ok (.iload 4, 2) := by decide +kernel
theorem dX2_loopThatKeeps_37 : decode cX2_loopThatKeeps 37 = .ok (.iload_n 1, 1) := by decide +kernel
theorem dX2_loopThatKeeps_38 : decode cX2_loopThatKeeps 38 = .ok (.if_icmp .ge 43, 3) := by decide +kernel
theorem dX2_loopThatKeeps_41 : decode cX2_loopThatKeeps 41 = .ok (.aload_n 0, 1) := by decide +kernel
theorem dX2_loopThatKeeps_42 : decode cX2_loopThatKeeps 42 = .ok (.getfield 32, 3) := by decide +kernel
theorem dX2_loopThatKeeps_45 : decode cX2_loopThatKeeps 45 = .ok (.iload 4, 2) := by decide +kernel
theorem dX2_loopThatKeeps_47 : decode cX2_loopThatKeeps 47 = .ok (.iload_n 1, 1) := by decide +kernel
theorem dX2_loopThatKeeps_48 : decode cX2_loopThatKeeps 48 = .ok (.invokevirtual 95, 3) := by decide +kernel
theorem dX2_loopThatKeeps_51 : decode cX2_loopThatKeeps 51 = .ok (.ifCond .eq 24, 3) := by decide +kernel
theorem dX2_loopThatKeeps_54 : decode cX2_loopThatKeeps 54 = .ok (.aload_n 0, 1) := by decide +kernel
theorem dX2_loopThatKeeps_55 : decode cX2_loopThatKeeps 55 = .ok (.getfield 32, 3) := by decide +kernel
theorem dX2_loopThatKeeps_58 : decode cX2_loopThatKeeps 58 = .ok (.iload 4, 2) := by decide +kernel
theorem dX2_loopThatKeeps_60 : decode cX2_loopThatKeeps 60 = .ok (.invokevirtual 99, 3) := by decide +kernel
theorem dX2_loopThatKeeps_63 : decode cX2_loopThatKeeps 63 = .ok (.iload_n 2, 1) := by decide +kernel
theorem dX2_loopThatKeeps_64 : decode cX2_loopThatKeeps 64 = .ok (.iand, 1) := by decide +kernel
theorem dX2_loopThatKeeps_65 : decode cX2_loopThatKeeps 65 = .ok (.invokestatic 65, 3) := by decide +kernel
theorem dX2_loopThatKeeps_68 : decode cX2_loopThatKeeps 68 = .ok (.iload_n 3, 1) := by decide +kernel
theorem dX2_loopThatKeeps_69 : decode cX2_loopThatKeeps 69 = .ok (.if_icmp .gt 6, 3) := by decide +kernel
theorem dX2_loopThatKeeps_72 : decode cX2_loopThatKeeps 72 = .ok (.iload 4, 2) := by decide +kernel
theorem dX2_loopThatKeeps_74 : decode cX2_loopThatKeeps 74 = .ok (.ireturn, 1) := by decide +kernel
theorem dX2_loopThatKeeps_75 : decode cX2_loopThatKeeps 75 = .ok (.iinc 4 1, 3) := by decide +kernel
theorem dX2_loopThatKeeps_78 : decode cX2_loopThatKeeps 78 = .ok (.goto (-43), 3) := by decide +kernel
theorem dX2_loopThatKeeps_81 : decode cX2_loopThatKeeps 81 = .ok (.iconst (-1), 1) := by decide +kernel
theorem dX2_loopThatKeeps_82 : decode cX2_loopThatKeeps 82 = .ok (.ireturn, 1) := by decide +kernel
theorem dX2_onceLinesOf_0 : decode cX2_onceLinesOf 0 = .ok (.iconst 0, 1) := by decide +kernel
theorem dX2_onceLinesOf_1 : decode cX2_onceLinesOf 1 = .ok (.istore_n 2, 1) := by decide +kernel
theorem dX2_onceLinesOf_2 : decode cX2_onceLinesOf 2 = .ok (.iload_n 1, 1) := by decide +kernel
theorem dX2_onceLinesOf_3 : decode cX2_onceLinesOf 3 = .ok (.aload_n 0, 1) := by decide +kernel
theorem dX2_onceLinesOf_4 : decode cX2_onceLinesOf 4 = .ok (.getfield 32, 3) := by decide +kernel
theorem dX2_onceLinesOf_7 : decode cX2_onceLinesOf 7 = .ok (.iload_n 1, 1) := by decide +kernel
theorem dX2_onceLinesOf_8 : decode cX2_onceLinesOf 8 = .ok (.invokevirtual 102, 3) := by decide +kernel
theorem dX2_onceLinesOf_11 : decode cX2_onceLinesOf 11 = .ok (.iadd, 1) := by decide +kernel
theorem dX2_onceLinesOf_12 : decode cX2_onceLinesOf 12 = .ok (.istore_n 3, 1) := by decide +kernel
theorem dX2_onceLinesOf_13 : decode cX2_onceLinesOf 13 = .ok (.iload_n 1, 1) := by decide +kernel
theorem dX2_onceLinesOf_14 : decode cX2_onceLinesOf 14 = .ok (.iconst 1, 1) := by decide +kernel
theorem dX2_onceLinesOf_15 : decode cX2_onceLinesOf 15 = .ok (.iadd, 1) := by decide +kernel
theorem dX2_onceLinesOf_16 : decode cX2_onceLinesOf 16 = .ok (.istore 4, 2) := by decide +kernel
theorem dX2_onceLinesOf_18 : decode cX2_onceLinesOf 18 = .ok (.iload 4, 2) := by decide +kernel
theorem dX2_onceLinesOf_20 : decode cX2_onceLinesOf 20 = .ok (.iload_n 3, 1) := by decide +kernel
theorem dX2_onceLinesOf_21 : decode cX2_onceLinesOf 21 = .ok (.if_icmp .ge 43, 3) := by decide +kernel
theorem dX2_onceLinesOf_24 : decode cX2_onceLinesOf 24 = .ok (.aload_n 0, 1) := by decide +kernel
theorem dX2_onceLinesOf_25 : decode cX2_onceLinesOf 25 = .ok (.iload 4, 2) := by decide +kernel
theorem dX2_onceLinesOf_27 : decode cX2_onceLinesOf 27 = .ok (.invokevirtual 105, 3) := by decide +kernel
theorem dX2_onceLinesOf_30 : decode cX2_onceLinesOf 30 = .ok (.iconst 2, 1) := by decide +kernel
theorem dX2_onceLinesOf_31 : decode cX2_onceLinesOf 31 = .ok (.if_icmp .ne 27, 3) := by decide +kernel
theorem dX2_onceLinesOf_34 : decode cX2_onceLinesOf 34 = .ok (.aload_n 0, 1) := by decide +kernel
theorem dX2_onceLinesOf_35 : decode cX2_onceLinesOf 35 = .ok (.iload 4, 2) := by decide +kernel
theorem dX2_onceLinesOf_37 : decode cX2_onceLinesOf 37 = .ok (.invokevirtual 89, 3) := by decide +kernel
theorem dX2_onceLinesOf_40 : decode cX2_onceLinesOf 40 = .ok (.iload_n 1, 1) := by decide +kernel
theorem dX2_onceLinesOf_41 : decode cX2_onceLinesOf 41 = .ok (.if_icmp .ne 17, 3) := by decide +kernel
theorem dX2_onceLinesOf_44 : decode cX2_onceLinesOf 44 = .ok (.iload_n 2, 1) := by decide +kernel
theorem dX2_onceLinesOf_45 : decode cX2_onceLinesOf 45 = .ok (.iconst 1, 1) := by decide +kernel
theorem dX2_onceLinesOf_46 : decode cX2_onceLinesOf 46 = .ok (.aload_n 0, 1) := by decide +kernel
theorem dX2_onceLinesOf_47 : decode cX2_onceLinesOf 47 = .ok (.getfield 32, 3) := by decide +kernel
theorem dX2_onceLinesOf_50 : decode cX2_onceLinesOf 50 = .ok (.iload 4, 2) := by decide +kernel
theorem dX2_onceLinesOf_52 : decode cX2_onceLinesOf 52 = .ok (.invokevirtual 73, 3) := by decide +kernel
theorem dX2_onceLinesOf_55 : decode cX2_onceLinesOf 55 = .ok (.ishl, 1) := by decide +kernel
theorem dX2_onceLinesOf_56 : decode cX2_onceLinesOf 56 = .ok (.ior, 1) := by decide +kernel
theorem dX2_onceLinesOf_57 : decode cX2_onceLinesOf 57 = .ok (.istore_n 2, 1) := by decide +kernel
theorem dX2_onceLinesOf_58 : decode cX2_onceLinesOf 58 = .ok (.iinc 4 1, 3) := by decide +kernel
theorem dX2_onceLinesOf_61 : decode cX2_onceLinesOf 61 = .ok (.goto (-43), 3) := by decide +kernel
theorem dX2_onceLinesOf_64 : decode cX2_onceLinesOf 64 = .ok (.iload_n 2, 1) := by decide +kernel
theorem dX2_onceLinesOf_65 : decode cX2_onceLinesOf 65 = .ok (.ireturn, 1) := by decide +kernel
theorem dX2_timesComeTo_0 : decode cX2_timesComeTo 0 = .ok (.iconst 1, 1) := by decide +kernel
theorem dX2_timesComeTo_1 : decode cX2_timesComeTo 1 = .ok (.istore_n 2, 1) := by decide +kernel
theorem dX2_timesComeTo_2 : decode cX2_timesComeTo 2 = .ok (.iconst 0, 1) := by decide +kernel
theorem dX2_timesComeTo_3 : decode cX2_timesComeTo 3 = .ok (.istore_n 3, 1) := by decide +kernel
theorem dX2_timesComeTo_4 : decode cX2_timesComeTo 4 = .ok (.iload_n 3, 1) := by decide +kernel
theorem dX2_timesComeTo_5 : decode cX2_timesComeTo 5 = .ok (.iload_n 1, 1) := by decide +kernel
theorem dX2_timesComeTo_6 : decode cX2_timesComeTo 6 = .ok (.if_icmp .ge 32, 3) := by decide +kernel
theorem dX2_timesComeTo_9 : decode cX2_timesComeTo 9 = .ok (.aload_n 0, 1) := by decide +kernel
theorem dX2_timesComeTo_10 : decode cX2_timesComeTo 10 = .ok (.getfield 32, 3) := by decide +kernel
theorem dX2_timesComeTo_13 : decode cX2_timesComeTo 13 = .ok (.iload_n 3, 1) := by decide +kernel
theorem dX2_timesComeTo_14 : decode cX2_timesComeTo 14 = .ok (.iload_n 1, 1) := by decide +kernel
theorem dX2_timesComeTo_15 : decode cX2_timesComeTo 15 = .ok (.invokevirtual 95, 3) := by decide +kernel
theorem dX2_timesComeTo_18 : decode cX2_timesComeTo 18 = .ok (.ifCond .eq 14, 3) := by decide +kernel
theorem dX2_timesComeTo_21 : decode cX2_timesComeTo 21 = .ok (.iload_n 2, 1) := by decide +kernel
theorem dX2_timesComeTo_22 : decode cX2_timesComeTo 22 = .ok (.aload_n 0, 1) := by decide +kernel
theorem dX2_timesComeTo_23 : decode cX2_timesComeTo 23 = .ok (.getfield 32, 3) := by decide +kernel
theorem dX2_timesComeTo_26 : decode cX2_timesComeTo 26 = .ok (.iload_n 3, 1) := by decide +kernel
theorem dX2_timesComeTo_27 : decode cX2_timesComeTo 27 = .ok (.invokevirtual 108, 3) := by decide +kernel
theorem dX2_timesComeTo_30 : decode cX2_timesComeTo 30 = .ok (.imul, 1) := by decide +kernel
theorem dX2_timesComeTo_31 : decode cX2_timesComeTo 31 = .ok (.istore_n 2, 1) := by decide +kernel
theorem dX2_timesComeTo_32 : decode cX2_timesComeTo 32 = .ok (.iinc 3 1, 3) := by decide +kernel
theorem dX2_timesComeTo_35 : decode cX2_timesComeTo 35 = .ok (.goto (-31), 3) := by decide +kernel
theorem dX2_timesComeTo_38 : decode cX2_timesComeTo 38 = .ok (.iload_n 2, 1) := by decide +kernel
theorem dX2_timesComeTo_39 : decode cX2_timesComeTo 39 = .ok (.ireturn, 1) := by decide +kernel
theorem dX2_costOf_0 : decode cX2_costOf 0 = .ok (.aload_n 0, 1) := by decide +kernel
theorem dX2_costOf_1 : decode cX2_costOf 1 = .ok (.getfield 32, 3) := by decide +kernel
theorem dX2_costOf_4 : decode cX2_costOf 4 = .ok (.getfield 42, 3) := by decide +kernel
theorem dX2_costOf_7 : decode cX2_costOf 7 = .ok (.iconst 1, 1) := by decide +kernel
theorem dX2_costOf_8 : decode cX2_costOf 8 = .ok (.isub, 1) := by decide +kernel
theorem dX2_costOf_9 : decode cX2_costOf 9 = .ok (.istore_n 2, 1) := by decide +kernel
theorem dX2_costOf_10 : decode cX2_costOf 10 = .ok (.iload_n 2, 1) := by decide +kernel
theorem dX2_costOf_11 : decode cX2_costOf 11 = .ok (.ifCond .lt 30, 3) := by decide +kernel
theorem dX2_costOf_14 : decode cX2_costOf 14 = .ok (.iload_n 2, 1) := by decide +kernel
theorem dX2_costOf_15 : decode cX2_costOf 15 = .ok (.aload_n 0, 1) := by decide +kernel
theorem dX2_costOf_16 : decode cX2_costOf 16 = .ok (.getfield 15, 3) := by decide +kernel
theorem dX2_costOf_19 : decode cX2_costOf 19 = .ok (.arraylength, 1) := by decide +kernel
theorem dX2_costOf_20 : decode cX2_costOf 20 = .ok (.if_icmp .ge 15, 3) := by decide +kernel
theorem dX2_costOf_23 : decode cX2_costOf 23 = .ok (.aload_n 0, 1) := by decide +kernel
theorem dX2_costOf_24 : decode cX2_costOf 24 = .ok (.getfield 15, 3) := by decide +kernel
theorem dX2_costOf_27 : decode cX2_costOf 27 = .ok (.iload_n 2, 1) := by decide +kernel
theorem dX2_costOf_28 : decode cX2_costOf 28 = .ok (.aload_n 0, 1) := by decide +kernel
theorem dX2_costOf_29 : decode cX2_costOf 29 = .ok (.iload_n 2, 1) := by decide +kernel
theorem dX2_costOf_30 : decode cX2_costOf 30 = .ok (.iload_n 1, 1) := by decide +kernel
theorem dX2_costOf_31 : decode cX2_costOf 31 = .ok (.invokevirtual 111, 3) := by decide +kernel
theorem dX2_costOf_34 : decode cX2_costOf 34 = .ok (.iastore, 1) := by decide +kernel
theorem dX2_costOf_35 : decode cX2_costOf 35 = .ok (.iinc 2 (-1), 3) := by decide +kernel
theorem dX2_costOf_38 : decode cX2_costOf 38 = .ok (.goto (-28), 3) := by decide +kernel
theorem dX2_costOf_41 : decode cX2_costOf 41 = .ok (.aload_n 0, 1) := by decide +kernel
theorem dX2_costOf_42 : decode cX2_costOf 42 = .ok (.iconst 0, 1) := by decide +kernel
theorem dX2_costOf_43 : decode cX2_costOf 43 = .ok (.invokevirtual 114, 3) := by decide +kernel
theorem dX2_costOf_46 : decode cX2_costOf 46 = .ok (.ireturn, 1) := by decide +kernel
theorem dX2_costOfNode_0 : decode cX2_costOfNode 0 = .ok (.aload_n 0, 1) := by decide +kernel
theorem dX2_costOfNode_1 : decode cX2_costOfNode 1 = .ok (.aload_n 0, 1) := by decide +kernel
theorem dX2_costOfNode_2 : decode cX2_costOfNode 2 = .ok (.getfield 32, 3) := by decide +kernel
theorem dX2_costOfNode_5 : decode cX2_costOfNode 5 = .ok (.iload_n 1, 1) := by decide +kernel
theorem dX2_costOfNode_6 : decode cX2_costOfNode 6 = .ok (.invokevirtual 117, 3) := by decide +kernel
theorem dX2_costOfNode_9 : decode cX2_costOfNode 9 = .ok (.invokevirtual 114, 3) := by decide +kernel
theorem dX2_costOfNode_12 : decode cX2_costOfNode 12 = .ok (.istore_n 3, 1) := by decide +kernel
theorem dX2_costOfNode_13 : decode cX2_costOfNode 13 = .ok (.aload_n 0, 1) := by decide +kernel
theorem dX2_costOfNode_14 : decode cX2_costOfNode 14 = .ok (.aload_n 0, 1) := by decide +kernel
theorem dX2_costOfNode_15 : decode cX2_costOfNode 15 = .ok (.getfield 32, 3) := by decide +kernel
theorem dX2_costOfNode_18 : decode cX2_costOfNode 18 = .ok (.iload_n 1, 1) := by decide +kernel
theorem dX2_costOfNode_19 : decode cX2_costOfNode 19 = .ok (.invokevirtual 120, 3) := by decide +kernel
theorem dX2_costOfNode_22 : decode cX2_costOfNode 22 = .ok (.invokevirtual 114, 3) := by decide +kernel
theorem dX2_costOfNode_25 : decode cX2_costOfNode 25 = .ok (.istore 4, 2) := by decide +kernel
theorem dX2_costOfNode_27 : decode cX2_costOfNode 27 = .ok (.aload_n 0, 1) := by decide +kernel
theorem dX2_costOfNode_28 : decode cX2_costOfNode 28 = .ok (.getfield 32, 3) := by decide +kernel
theorem dX2_costOfNode_31 : decode cX2_costOfNode 31 = .ok (.iload_n 1, 1) := by decide +kernel
theorem dX2_costOfNode_32 : decode cX2_costOfNode 32 = .ok (.invokevirtual 123, 3) := by decide +kernel
theorem dX2_costOfNode_35 : decode cX2_costOfNode 35 = .ok (.lookupswitch 82 #[(45, 80), (59, 57), (63, 62), (98, 69), (99, 69), (100, 69)], 57) := by decide +kernel
theorem dX2_costOfNode_92 : decode cX2_costOfNode 92 = .ok (.iload_n 3, 1) := by decide +kernel
theorem dX2_costOfNode_93 : decode cX2_costOfNode 93 = .ok (.iload 4, 2) := by decide +kernel
theorem dX2_costOfNode_95 : decode cX2_costOfNode 95 = .ok (.iadd, 1) := by decide +kernel
theorem dX2_costOfNode_96 : decode cX2_costOfNode 96 = .ok (.ireturn, 1) := by decide +kernel
theorem dX2_costOfNode_97 : decode cX2_costOfNode 97 = .ok (.iload_n 3, 1) := by decide +kernel
theorem dX2_costOfNode_98 : decode cX2_costOfNode 98 = .ok (.iload 4, 2) := by decide +kernel
theorem dX2_costOfNode_100 : decode cX2_costOfNode 100 = .ok (.invokestatic 126, 3) := by decide +kernel
theorem dX2_costOfNode_103 : decode cX2_costOfNode 103 = .ok (.ireturn, 1) := by decide +kernel
theorem dX2_costOfNode_104 : decode cX2_costOfNode 104 = .ok (.aload_n 0, 1) := by decide +kernel
theorem dX2_costOfNode_105 : decode cX2_costOfNode 105 = .ok (.getfield 32, 3) := by decide +kernel
theorem dX2_costOfNode_108 : decode cX2_costOfNode 108 = .ok (.iload_n 1, 1) := by decide +kernel
theorem dX2_costOfNode_109 : decode cX2_costOfNode 109 = .ok (.invokevirtual 108, 3) := by decide +kernel
theorem dX2_costOfNode_112 : decode cX2_costOfNode 112 = .ok (.iload_n 3, 1) := by decide +kernel
theorem dX2_costOfNode_113 : decode cX2_costOfNode 113 = .ok (.imul, 1) := by decide +kernel
theorem dX2_costOfNode_114 : decode cX2_costOfNode 114 = .ok (.ireturn, 1) := by decide +kernel
theorem dX2_costOfNode_115 : decode cX2_costOfNode 115 = .ok (.iconst 0, 1) := by decide +kernel
theorem dX2_costOfNode_116 : decode cX2_costOfNode 116 = .ok (.ireturn, 1) := by decide +kernel
theorem dX2_costOfNode_117 : decode cX2_costOfNode 117 = .ok (.aload_n 0, 1) := by decide +kernel
theorem dX2_costOfNode_118 : decode cX2_costOfNode 118 = .ok (.aload_n 0, 1) := by decide +kernel
theorem dX2_costOfNode_119 : decode cX2_costOfNode 119 = .ok (.iload_n 1, 1) := by decide +kernel
theorem dX2_costOfNode_120 : decode cX2_costOfNode 120 = .ok (.invokevirtual 105, 3) := by decide +kernel
theorem dX2_costOfNode_123 : decode cX2_costOfNode 123 = .ok (.iload_n 2, 1) := by decide +kernel
theorem dX2_costOfNode_124 : decode cX2_costOfNode 124 = .ok (.invokevirtual 131, 3) := by decide +kernel
theorem dX2_costOfNode_127 : decode cX2_costOfNode 127 = .ok (.ireturn, 1) := by decide +kernel
theorem dX2_costOfFetch_0 : decode cX2_costOfFetch 0 = .ok (.iload_n 1, 1) := by decide +kernel
theorem dX2_costOfFetch_1 : decode cX2_costOfFetch 1 = .ok (.ifCond .ne 5, 3) := by decide +kernel
theorem dX2_costOfFetch_4 : decode cX2_costOfFetch 4 = .ok (.iconst 1, 1) := by decide +kernel
theorem dX2_costOfFetch_5 : decode cX2_costOfFetch 5 = .ok (.ireturn, 1) := by decide +kernel
theorem dX2_costOfFetch_6 : decode cX2_costOfFetch 6 = .ok (.iload_n 1, 1) := by decide +kernel
theorem dX2_costOfFetch_7 : decode cX2_costOfFetch 7 = .ok (.iconst 2, 1) := by decide +kernel
theorem dX2_costOfFetch_8 : decode cX2_costOfFetch 8 = .ok (.if_icmp .ne 7, 3) := by decide +kernel
theorem dX2_costOfFetch_11 : decode cX2_costOfFetch 11 = .ok (.iload_n 2, 1) := by decide +kernel
theorem dX2_costOfFetch_12 : decode cX2_costOfFetch 12 = .ok (.goto 11, 3) := by decide +kernel
theorem dX2_costOfFetch_15 : decode cX2_costOfFetch 15 = .ok (.aload_n 0, 1) := by decide +kernel
theorem dX2_costOfFetch_16 : decode cX2_costOfFetch 16 = .ok (.getfield 18, 3) := by decide +kernel
theorem dX2_costOfFetch_19 : decode cX2_costOfFetch 19 = .ok (.iconst 2, 1) := by decide +kernel
theorem dX2_costOfFetch_20 : decode cX2_costOfFetch 20 = .ok (.invokevirtual 56, 3) := by decide +kernel
theorem dX2_costOfFetch_23 : decode cX2_costOfFetch 23 = .ok (.ireturn, 1) := by decide +kernel
theorem dX2_costAt_0 : decode cX2_costAt 0 = .ok (.aload_n 0, 1) := by decide +kernel
theorem dX2_costAt_1 : decode cX2_costAt 1 = .ok (.getfield 32, 3) := by decide +kernel
theorem dX2_costAt_4 : decode cX2_costAt 4 = .ok (.iload_n 1, 1) := by decide +kernel
theorem dX2_costAt_5 : decode cX2_costAt 5 = .ok (.invokevirtual 134, 3) := by decide +kernel
theorem dX2_costAt_8 : decode cX2_costAt 8 = .ok (.ifCond .eq 21, 3) := by decide +kernel
theorem dX2_costAt_11 : decode cX2_costAt 11 = .ok (.iload_n 1, 1) := by decide +kernel
theorem dX2_costAt_12 : decode cX2_costAt 12 = .ok (.aload_n 0, 1) := by decide +kernel
theorem dX2_costAt_13 : decode cX2_costAt 13 = .ok (.getfield 15, 3) := by decide +kernel
theorem dX2_costAt_16 : decode cX2_costAt 16 = .ok (.arraylength, 1) := by decide +kernel
theorem dX2_costAt_17 : decode cX2_costAt 17 = .ok (.if_icmp .ge 12, 3) := by decide +kernel
theorem dX2_costAt_20 : decode cX2_costAt 20 = .ok (.aload_n 0, 1) := by decide +kernel
theorem dX2_costAt_21 : decode cX2_costAt 21 = .ok (.getfield 15, 3) := by decide +kernel
theorem dX2_costAt_24 : decode cX2_costAt 24 = .ok (.iload_n 1, 1) := by decide +kernel
theorem dX2_costAt_25 : decode cX2_costAt 25 = .ok (.iaload, 1) := by decide +kernel
theorem dX2_costAt_26 : decode cX2_costAt 26 = .ok (.goto 4, 3) := by decide +kernel
theorem dX2_costAt_29 : decode cX2_costAt 29 = .ok (.iconst 0, 1) := by decide +kernel
theorem dX2_costAt_30 : decode cX2_costAt 30 = .ok (.ireturn, 1) := by decide +kernel
theorem dX3_init_0 : decode cX3_init 0 = .ok (.aload_n 0, 1) := by decide +kernel
theorem dX3_init_1 : decode cX3_init 1 = .ok (.invokespecial 3, 3) := by decide +kernel
theorem dX3_init_4 : decode cX3_init 4 = .ok (.aload_n 0, 1) := by decide +kernel
theorem dX3_init_5 : decode cX3_init 5 = .ok (.bipush 30, 2) := by decide +kernel
theorem dX3_init_7 : decode cX3_init 7 = .ok (.newarray .int, 2) := by decide +kernel
theorem dX3_init_9 : decode cX3_init 9 = .ok (.putfield 9, 3) := by decide +kernel
theorem dX3_init_12 : decode cX3_init 12 = .ok (.aload_n 0, 1) := by decide +kernel
theorem dX3_init_13 : decode cX3_init 13 = .ok (.bipush 60, 2) := by decide +kernel
theorem dX3_init_15 : decode cX3_init 15 = .ok (.newarray .int, 2) := by decide +kernel
theorem dX3_init_17 : decode cX3_init 17 = .ok (.putfield 15, 3) := by decide +kernel
theorem dX3_init_20 : decode cX3_init 20 = .ok (.return_, 1) := by decide +kernel
theorem dX3_add_0 : decode cX3_add 0 = .ok (.aload_n 0, 1) := by decide +kernel
theorem dX3_add_1 : decode cX3_add 1 = .ok (.getfield 18, 3) := by decide +kernel
theorem dX3_add_4 : decode cX3_add 4 = .ok (.aload_n 0, 1) := by decide +kernel
theorem dX3_add_5 : decode cX3_add 5 = .ok (.getfield 9, 3) := by decide +kernel
theorem dX3_add_8 : decode cX3_add 8 = .ok (.arraylength, 1) := by decide +kernel
theorem dX3_add_9 : decode cX3_add 9 = .ok (.if_icmp .lt 5, 3) := by decide +kernel
theorem dX3_add_12 : decode cX3_add 12 = .ok (.iconst 0, 1) := by decide +kernel
theorem dX3_add_13 : decode cX3_add 13 = .ok (.ireturn, 1) := by decide +kernel
theorem dX3_add_14 : decode cX3_add 14 = .ok (.aload_n 0, 1) := by decide +kernel
theorem dX3_add_15 : decode cX3_add 15 = .ok (.getfield 9, 3) := by decide +kernel
theorem dX3_add_18 : decode cX3_add 18 = .ok (.aload_n 0, 1) := by decide +kernel
theorem dX3_add_19 : decode cX3_add 19 = .ok (.getfield 18, 3) := by decide +kernel
theorem dX3_add_22 : decode cX3_add 22 = .ok (.iload_n 1, 1) := by decide +kernel
theorem dX3_add_23 : decode cX3_add 23 = .ok (.iastore, 1) := by decide +kernel
theorem dX3_add_24 : decode cX3_add 24 = .ok (.aload_n 0, 1) := by decide +kernel
theorem dX3_add_25 : decode cX3_add 25 = .ok (.dup, 1) := by decide +kernel
theorem dX3_add_26 : decode cX3_add 26 = .ok (.getfield 18, 3) := by decide +kernel
theorem dX3_add_29 : decode cX3_add 29 = .ok (.iconst 1, 1) := by decide +kernel
theorem dX3_add_30 : decode cX3_add 30 = .ok (.iadd, 1) := by decide +kernel
theorem dX3_add_31 : decode cX3_add 31 = .ok (.putfield 18, 3) := by decide +kernel
theorem dX3_add_34 : decode cX3_add 34 = .ok (.iconst 1, 1) := by decide +kernel
theorem dX3_add_35 : decode cX3_add 35 = .ok (.ireturn, 1) := by decide +kernel
theorem dX3_firstFault_0 : decode cX3_firstFault 0 = .ok (.iconst 1, 1) := by decide +kernel
theorem dX3_firstFault_1 : decode cX3_firstFault 1 = .ok (.istore_n 1, 1) := by decide +kernel
theorem dX3_firstFault_2 : decode cX3_firstFault 2 = .ok (.aload_n 0, 1) := by decide +kernel
theorem dX3_firstFault_3 : decode cX3_firstFault 3 = .ok (.getfield 15, 3) := by decide +kernel
theorem dX3_firstFault_6 : decode cX3_firstFault 6 = .ok (.iconst 0, 1) := by decide +kernel
theorem dX3_firstFault_7 : decode cX3_firstFault 7 = .ok (.iconst 0, 1) := by decide +kernel
theorem dX3_firstFault_8 : decode cX3_firstFault 8 = .ok (.iastore, 1) := by decide +kernel
theorem dX3_firstFault_9 : decode cX3_firstFault 9 = .ok (.iconst 0, 1) := by decide +kernel
theorem dX3_firstFault_10 : decode cX3_firstFault 10 = .ok (.istore_n 2, 1) := by decide +kernel
theorem dX3_firstFault_11 : decode cX3_firstFault 11 = .ok (.iload_n 2, 1) := by decide +kernel
theorem dX3_firstFault_12 : decode cX3_firstFault 12 = .ok (.aload_n 0, 1) := by decide +kernel
theorem dX3_firstFault_13 : decode cX3_firstFault 13 = .ok (.getfield 18, 3) := by decide +kernel
theorem dX3_firstFault_16 : decode cX3_firstFault 16 = .ok (.if_icmp .ge 109, 3) := by decide +kernel
theorem dX3_firstFault_19 : decode cX3_firstFault 19 = .ok (.iload_n 2, 1) := by decide +kernel
theorem dX3_firstFault_20 : decode cX3_firstFault 20 = .ok (.aload_n 0, 1) := by decide +kernel
theorem dX3_firstFault_21 : decode cX3_firstFault 21 = .ok (.getfield 9, 3) := by decide +kernel
theorem dX3_firstFault_24 : decode cX3_firstFault 24 = .ok (.arraylength, 1) := by decide +kernel
theorem dX3_firstFault_25 : decode cX3_firstFault 25 = .ok (.if_icmp .ge 100, 3) := by decide +kernel
theorem dX3_firstFault_28 : decode cX3_firstFault 28 = .ok (.iload_n 1, 1) := by decide +kernel
theorem dX3_firstFault_29 : decode cX3_firstFault 29 = .ok (.iconst 1, 1) := by decide +kernel
theorem dX3_firstFault_30 : decode cX3_firstFault 30 = .ok (.if_icmp .lt 12, 3) := by decide +kernel
theorem dX3_firstFault_33 : decode cX3_firstFault 33 = .ok (.iload_n 1, 1) := by decide +kernel
theorem dX3_firstFault_34 : decode cX3_firstFault 34 = .ok (.aload_n 0, 1) := by decide +kernel
theorem dX3_firstFault_35 : decode cX3_firstFault 35 = .ok (.getfield 15, 3) := by decide +kernel
theorem dX3_firstFault_38 : decode cX3_firstFault 38 = .ok (.arraylength, 1) := by decide +kernel
theorem dX3_firstFault_39 : decode cX3_firstFault 39 = .ok (.if_icmp .le 5, 3) := by decide +kernel
theorem dX3_firstFault_42 : decode cX3_firstFault 42 = .ok (.iload_n 2, 1) := by decide +kernel
theorem dX3_firstFault_43 : decode cX3_firstFault 43 = .ok (.ireturn, 1) := by decide +kernel
theorem dX3_firstFault_44 : decode cX3_firstFault 44 = .ok (.iinc 1 (-1), 3) := by decide +kernel
theorem dX3_firstFault_47 : decode cX3_firstFault 47 = .ok (.aload_n 0, 1) := by decide +kernel
theorem dX3_firstFault_48 : decode cX3_firstFault 48 = .ok (.getfield 15, 3) := by decide +kernel
theorem dX3_firstFault_51 : decode cX3_firstFault 51 = .ok (.iload_n 1, 1) := by decide +kernel
theorem dX3_firstFault_52 : decode cX3_firstFault 52 = .ok (.iaload, 1) := by decide +kernel
theorem dX3_firstFault_53 : decode cX3_firstFault 53 = .ok (.istore_n 3, 1) := by decide +kernel
theorem dX3_firstFault_54 : decode cX3_firstFault 54 = .ok (.aload_n 0, 1) := by decide +kernel
theorem dX3_firstFault_55 : decode cX3_firstFault 55 = .ok (.getfield 9, 3) := by decide +kernel
theorem dX3_firstFault_58 : decode cX3_firstFault 58 = .ok (.iload_n 2, 1) := by decide +kernel
theorem dX3_firstFault_59 : decode cX3_firstFault 59 = .ok (.iaload, 1) := by decide +kernel
theorem dX3_firstFault_60 : decode cX3_firstFault 60 = .ok (.invokestatic 22, 3) := by decide +kernel
theorem dX3_firstFault_63 : decode cX3_firstFault 63 = .ok (.istore 4, 2) := by decide +kernel
theorem dX3_firstFault_65 : decode cX3_firstFault 65 = .ok (.iload 4, 2) := by decide +kernel
theorem dX3_firstFault_67 : decode cX3_firstFault 67 = .ok (.ifCond .lt 13, 3) := by decide +kernel
theorem dX3_firstFault_70 : decode cX3_firstFault 70 = .ok (.iload 4, 2) := by decide +kernel
theorem dX3_firstFault_72 : decode cX3_firstFault 72 = .ok (.ifCond .le 10, 3) := by decide +kernel
theorem dX3_firstFault_75 : decode cX3_firstFault 75 = .ok (.iload_n 3, 1) := by decide +kernel
theorem dX3_firstFault_76 : decode cX3_firstFault 76 = .ok (.iconst 4, 1) := by decide +kernel
theorem dX3_firstFault_77 : decode cX3_firstFault 77 = .ok (.if_icmp .lt 5, 3) := by decide +kernel
theorem dX3_firstFault_80 : decode cX3_firstFault 80 = .ok (.iload_n 2, 1) := by decide +kernel
theorem dX3_firstFault_81 : decode cX3_firstFault 81 = .ok (.ireturn, 1) := by decide +kernel
theorem dX3_firstFault_82 : decode cX3_firstFault 82 = .ok (.iconst 0, 1) := by decide +kernel
theorem dX3_firstFault_83 : decode cX3_firstFault 83 = .ok (.istore 5, 2) := by decide +kernel
theorem dX3_firstFault_85 : decode cX3_firstFault 85 = .ok (.iload 5, 2) := by decide +kernel
theorem dX3_firstFault_87 : decode cX3_firstFault 87 = .ok (.iload 4, 2) := by decide +kernel
theorem dX3_firstFault_89 : decode cX3_firstFault 89 = .ok (.if_icmp .ge 30, 3) := by decide +kernel
theorem dX3_firstFault_92 : decode cX3_firstFault 92 = .ok (.iload_n 1, 1) := by decide +kernel
theorem dX3_firstFault_93 : decode cX3_firstFault 93 = .ok (.aload_n 0, 1) := by decide +kernel
theorem dX3_firstFault_94 : decode cX3_firstFault 94 = .ok (.getfield 15, 3) := by decide +kernel
theorem dX3_firstFault_97 : decode cX3_firstFault 97 = .ok (.arraylength, 1) := by decide +kernel
theorem dX3_firstFault_98 : decode cX3_firstFault 98 = .ok (.if_icmp .ge 21, 3) := by decide +kernel
theorem dX3_firstFault_101 : decode cX3_firstFault 101 = .ok (.aload_n 0, 1) := by decide +kernel
theorem dX3_firstFault_102 : decode cX3_firstFault 102 = .ok (.getfield 15, 3) := by decide +kernel
theorem dX3_firstFault_105 : decode cX3_firstFault 105 = .ok (.iload_n 1, 1) := by decide +kernel
theorem dX3_firstFault_106 : decode cX3_firstFault 106 = .ok (.iload_n 3, 1) := by decide +kernel
theorem dX3_firstFault_107 : decode cX3_firstFault 107 = .ok (.iconst 1, 1) := by decide +kernel
theorem dX3_firstFault_108 : decode cX3_firstFault 108 = .ok (.iadd, 1) := by decide +kernel
theorem dX3_firstFault_109 : decode cX3_firstFault 109 = .ok (.iastore, 1) := by decide +kernel
theorem dX3_firstFault_110 : decode cX3_firstFault 110 = .ok (.iinc 1 1, 3) := by decide +kernel
theorem dX3_firstFault_113 : decode cX3_firstFault 113 = .ok (.iinc 5 1, 3) := by decide +kernel
theorem dX3_firstFault_116 : decode cX3_firstFault 116 = .ok (.goto (-31), 3) := by decide +kernel
theorem dX3_firstFault_119 : decode cX3_firstFault 119 = .ok (.iinc 2 1, 3) := by decide +kernel
theorem dX3_firstFault_122 : decode cX3_firstFault 122 = .ok (.goto (-111), 3) := by decide +kernel
theorem dX3_firstFault_125 : decode cX3_firstFault 125 = .ok (.iload_n 1, 1) := by decide +kernel
theorem dX3_firstFault_126 : decode cX3_firstFault 126 = .ok (.ifCond .ne 8, 3) := by decide +kernel
theorem dX3_firstFault_129 : decode cX3_firstFault 129 = .ok (.bipush (-6), 2) := by decide +kernel
theorem dX3_firstFault_131 : decode cX3_firstFault 131 = .ok (.goto 7, 3) := by decide +kernel
theorem dX3_firstFault_134 : decode cX3_firstFault 134 = .ok (.aload_n 0, 1) := by decide +kernel
theorem dX3_firstFault_135 : decode cX3_firstFault 135 = .ok (.getfield 18, 3) := by decide +kernel
theorem dX3_firstFault_138 : decode cX3_firstFault 138 = .ok (.ireturn, 1) := by decide +kernel
theorem dX4_init_0 : decode cX4_init 0 = .ok (.aload_n 0, 1) := by decide +kernel
theorem dX4_init_1 : decode cX4_init 1 = .ok (.invokespecial 3, 3) := by decide +kernel
theorem dX4_init_4 : decode cX4_init 4 = .ok (.aload_n 0, 1) := by decide +kernel
theorem dX4_init_5 : decode cX4_init 5 = .ok (.sipush 625, 3) := by decide +kernel
theorem dX4_init_8 : decode cX4_init 8 = .ok (.newarray .int, 2) := by decide +kernel
theorem dX4_init_10 : decode cX4_init 10 = .ok (.putfield 9, 3) := by decide +kernel
theorem dX4_init_13 : decode cX4_init 13 = .ok (.aload_n 0, 1) := by decide +kernel
theorem dX4_init_14 : decode cX4_init 14 = .ok (.sipush 625, 3) := by decide +kernel
theorem dX4_init_17 : decode cX4_init 17 = .ok (.newarray .int, 2) := by decide +kernel
theorem dX4_init_19 : decode cX4_init 19 = .ok (.putfield 15, 3) := by decide +kernel
theorem dX4_init_22 : decode cX4_init 22 = .ok (.aload_n 0, 1) := by decide +kernel
theorem dX4_init_23 : decode cX4_init 23 = .ok (.sipush 625, 3) := by decide +kernel
theorem dX4_init_26 : decode cX4_init 26 = .ok (.newarray .int, 2) := by decide +kernel
theorem dX4_init_28 : decode cX4_init 28 = .ok (.putfield 18, 3) := by decide +kernel
theorem dX4_init_31 : decode cX4_init 31 = .ok (.return_, 1) := by decide +kernel
theorem dX4_clear_0 : decode cX4_clear 0 = .ok (.iconst 0, 1) := by decide +kernel
theorem dX4_clear_1 : decode cX4_clear 1 = .ok (.istore_n 1, 1) := by decide +kernel
theorem dX4_clear_2 : decode cX4_clear 2 = .ok (.iload_n 1, 1) := by decide +kernel
theorem dX4_clear_3 : decode cX4_clear 3 = .ok (.aload_n 0, 1) := by decide +kernel
theorem dX4_clear_4 : decode cX4_clear 4 = .ok (.getfield 21, 3) := by decide +kernel
theorem dX4_clear_7 : decode cX4_clear 7 = .ok (.if_icmp .ge 41, 3) := by decide +kernel
theorem dX4_clear_10 : decode cX4_clear 10 = .ok (.iload_n 1, 1) := by decide +kernel
theorem dX4_clear_11 : decode cX4_clear 11 = .ok (.sipush 625, 3) := by decide +kernel
theorem dX4_clear_14 : decode cX4_clear 14 = .ok (.if_icmp .ge 34, 3) := by decide +kernel
theorem dX4_clear_17 : decode cX4_clear 17 = .ok (.aload_n 0, 1) := by decide +kernel
theorem dX4_clear_18 : decode cX4_clear 18 = .ok (.getfield 9, 3) := by decide +kernel
theorem dX4_clear_21 : decode cX4_clear 21 = .ok (.iload_n 1, 1) := by decide +kernel
theorem dX4_clear_22 : decode cX4_clear 22 = .ok (.iaload, 1) := by decide +kernel
theorem dX4_clear_23 : decode cX4_clear 23 = .ok (.istore_n 2, 1) := by decide +kernel
theorem dX4_clear_24 : decode cX4_clear 24 = .ok (.iload_n 2, 1) := by decide +kernel
theorem dX4_clear_25 : decode cX4_clear 25 = .ok (.ifCond .lt 17, 3) := by decide +kernel
theorem dX4_clear_28 : decode cX4_clear 28 = .ok (.iload_n 2, 1) := by decide +kernel
theorem dX4_clear_29 : decode cX4_clear 29 = .ok (.sipush 625, 3) := by decide +kernel
theorem dX4_clear_32 : decode cX4_clear 32 = .ok (.if_icmp .ge 10, 3) := by decide +kernel
theorem dX4_clear_35 : decode cX4_clear 35 = .ok (.aload_n 0, 1) := by decide +kernel
theorem dX4_clear_36 : decode cX4_clear 36 = .ok (.getfield 18, 3) := by decide +kernel
theorem dX4_clear_39 : decode cX4_clear 39 = .ok (.iload_n 2, 1) := by decide +kernel
theorem dX4_clear_40 : decode cX4_clear 40 = .ok (.iconst 0, 1) := by decide +kernel
theorem dX4_clear_41 : decode cX4_clear 41 = .ok (.iastore, 1) := by decide +kernel
theorem dX4_clear_42 : decode cX4_clear 42 = .ok (.iinc 1 1, 3) := by decide +kernel
theorem dX4_clear_45 : decode cX4_clear 45 = .ok (.goto (-43), 3) := by decide +kernel
theorem dX4_clear_48 : decode cX4_clear 48 = .ok (.aload_n 0, 1) := by decide +kernel
theorem dX4_clear_49 : decode cX4_clear 49 = .ok (.iconst 0, 1) := by decide +kernel
theorem dX4_clear_50 : decode cX4_clear 50 = .ok (.putfield 21, 3) := by decide +kernel
theorem dX4_clear_53 : decode cX4_clear 53 = .ok (.return_, 1) := by decide +kernel
theorem dX4_add_0 : decode cX4_add 0 = .ok (.iload_n 1, 1) := by decide +kernel
theorem dX4_add_1 : decode cX4_add 1 = .ok (.ifCond .lt 10, 3) := by decide +kernel
theorem dX4_add_4 : decode cX4_add 4 = .ok (.iload_n 1, 1) := by decide +kernel
theorem dX4_add_5 : decode cX4_add 5 = .ok (.sipush 625, 3) := by decide +kernel
theorem dX4_add_8 : decode cX4_add 8 = .ok (.if_icmp .lt 4, 3) := by decide +kernel
theorem dX4_add_11 : decode cX4_add 11 = .ok (.return_, 1) := by decide +kernel
theorem dX4_add_12 : decode cX4_add 12 = .ok (.aload_n 0, 1) := by decide +kernel
theorem dX4_add_13 : decode cX4_add 13 = .ok (.getfield 18, 3) := by decide +kernel
theorem dX4_add_16 : decode cX4_add 16 = .ok (.iload_n 1, 1) := by decide +kernel
theorem dX4_add_17 : decode cX4_add 17 = .ok (.iaload, 1) := by decide +kernel
theorem dX4_add_18 : decode cX4_add 18 = .ok (.iconst 1, 1) := by decide +kernel
theorem dX4_add_19 : decode cX4_add 19 = .ok (.isub, 1) := by decide +kernel
theorem dX4_add_20 : decode cX4_add 20 = .ok (.istore 4, 2) := by decide +kernel
theorem dX4_add_22 : decode cX4_add 22 = .ok (.iload 4, 2) := by decide +kernel
theorem dX4_add_24 : decode cX4_add 24 = .ok (.ifCond .lt 50, 3) := by decide +kernel
theorem dX4_add_27 : decode cX4_add 27 = .ok (.iload 4, 2) := by decide +kernel
theorem dX4_add_29 : decode cX4_add 29 = .ok (.sipush 625, 3) := by decide +kernel
theorem dX4_add_32 : decode cX4_add 32 = .ok (.if_icmp .ge 42, 3) := by decide +kernel
theorem dX4_add_35 : decode cX4_add 35 = .ok (.aload_n 0, 1) := by decide +kernel
theorem dX4_add_36 : decode cX4_add 36 = .ok (.getfield 15, 3) := by decide +kernel
theorem dX4_add_39 : decode cX4_add 39 = .ok (.iload 4, 2) := by decide +kernel
theorem dX4_add_41 : decode cX4_add 41 = .ok (.iload_n 3, 1) := by decide +kernel
theorem dX4_add_42 : decode cX4_add 42 = .ok (.ifCond .eq 17, 3) := by decide +kernel
theorem dX4_add_45 : decode cX4_add 45 = .ok (.aload_n 0, 1) := by decide +kernel
theorem dX4_add_46 : decode cX4_add 46 = .ok (.getfield 15, 3) := by decide +kernel
theorem dX4_add_49 : decode cX4_add 49 = .ok (.iload 4, 2) := by decide +kernel
theorem dX4_add_51 : decode cX4_add 51 = .ok (.iaload, 1) := by decide +kernel
theorem dX4_add_52 : decode cX4_add 52 = .ok (.iload_n 2, 1) := by decide +kernel
theorem dX4_add_53 : decode cX4_add 53 = .ok (.invokestatic 25, 3) := by decide +kernel
theorem dX4_add_56 : decode cX4_add 56 = .ok (.goto 14, 3) := by decide +kernel
theorem dX4_add_59 : decode cX4_add 59 = .ok (.aload_n 0, 1) := by decide +kernel
theorem dX4_add_60 : decode cX4_add 60 = .ok (.getfield 15, 3) := by decide +kernel
theorem dX4_add_63 : decode cX4_add 63 = .ok (.iload 4, 2) := by decide +kernel
theorem dX4_add_65 : decode cX4_add 65 = .ok (.iaload, 1) := by decide +kernel
theorem dX4_add_66 : decode cX4_add 66 = .ok (.iload_n 2, 1) := by decide +kernel
theorem dX4_add_67 : decode cX4_add 67 = .ok (.invokestatic 31, 3) := by decide +kernel
theorem dX4_add_70 : decode cX4_add 70 = .ok (.iastore, 1) := by decide +kernel
theorem dX4_add_71 : decode cX4_add 71 = .ok (.goto 53, 3) := by decide +kernel
theorem dX4_add_74 : decode cX4_add 74 = .ok (.aload_n 0, 1) := by decide +kernel
theorem dX4_add_75 : decode cX4_add 75 = .ok (.getfield 21, 3) := by decide +kernel
theorem dX4_add_78 : decode cX4_add 78 = .ok (.sipush 625, 3) := by decide +kernel
theorem dX4_add_81 : decode cX4_add 81 = .ok (.if_icmp .ge 43, 3) := by decide +kernel
theorem dX4_add_84 : decode cX4_add 84 = .ok (.aload_n 0, 1) := by decide +kernel
theorem dX4_add_85 : decode cX4_add 85 = .ok (.getfield 9, 3) := by decide +kernel
theorem dX4_add_88 : decode cX4_add 88 = .ok (.aload_n 0, 1) := by decide +kernel
theorem dX4_add_89 : decode cX4_add 89 = .ok (.getfield 21, 3) := by decide +kernel
theorem dX4_add_92 : decode cX4_add 92 = .ok (.iload_n 1, 1) := by decide +kernel
theorem dX4_add_93 : decode cX4_add 93 = .ok (.iastore, 1) := by decide +kernel
theorem dX4_add_94 : decode cX4_add 94 = .ok (.aload_n 0, 1) := by decide +kernel
theorem dX4_add_95 : decode cX4_add 95 = .ok (.getfield 15, 3) := by decide +kernel
theorem dX4_add_98 : decode cX4_add 98 = .ok (.aload_n 0, 1) := by decide +kernel
theorem dX4_add_99 : decode cX4_add 99 = .ok (.getfield 21, 3) := by decide +kernel
theorem dX4_add_102 : decode cX4_add 102 = .ok (.iload_n 2, 1) := by decide +kernel
theorem dX4_add_103 : decode cX4_add 103 = .ok (.iastore, 1) := by decide +kernel
theorem dX4_add_104 : decode cX4_add 104 = .ok (.aload_n 0, 1) := by decide +kernel
theorem dX4_add_105 : decode cX4_add 105 = .ok (.dup, 1) := by decide +kernel
theorem dX4_add_106 : decode cX4_add 106 = .ok (.getfield 21, 3) := by decide +kernel
theorem dX4_add_109 : decode cX4_add 109 = .ok (.iconst 1, 1) := by decide +kernel
theorem dX4_add_110 : decode cX4_add 110 = .ok (.iadd, 1) := by decide +kernel
theorem dX4_add_111 : decode cX4_add 111 = .ok (.putfield 21, 3) := by decide +kernel
theorem dX4_add_114 : decode cX4_add 114 = .ok (.aload_n 0, 1) := by decide +kernel
theorem dX4_add_115 : decode cX4_add 115 = .ok (.getfield 18, 3) := by decide +kernel
theorem dX4_add_118 : decode cX4_add 118 = .ok (.iload_n 1, 1) := by decide +kernel
theorem dX4_add_119 : decode cX4_add 119 = .ok (.aload_n 0, 1) := by decide +kernel
theorem dX4_add_120 : decode cX4_add 120 = .ok (.getfield 21, 3) := by decide +kernel
theorem dX4_add_123 : decode cX4_add 123 = .ok (.iastore, 1) := by decide +kernel
theorem dX4_add_124 : decode cX4_add 124 = .ok (.return_, 1) := by decide +kernel
theorem dX4_addAll_0 : decode cX4_addAll 0 = .ok (.iconst 0, 1) := by decide +kernel
theorem dX4_addAll_1 : decode cX4_addAll 1 = .ok (.istore_n 3, 1) := by decide +kernel
theorem dX4_addAll_2 : decode cX4_addAll 2 = .ok (.iload_n 3, 1) := by decide +kernel
theorem dX4_addAll_3 : decode cX4_addAll 3 = .ok (.aload_n 1, 1) := by decide +kernel
theorem dX4_addAll_4 : decode cX4_addAll 4 = .ok (.getfield 21, 3) := by decide +kernel
theorem dX4_addAll_7 : decode cX4_addAll 7 = .ok (.if_icmp .ge 24, 3) := by decide +kernel
theorem dX4_addAll_10 : decode cX4_addAll 10 = .ok (.aload_n 0, 1) := by decide +kernel
theorem dX4_addAll_11 : decode cX4_addAll 11 = .ok (.aload_n 1, 1) := by decide +kernel
theorem dX4_addAll_12 : decode cX4_addAll 12 = .ok (.iload_n 3, 1) := by decide +kernel
theorem dX4_addAll_13 : decode cX4_addAll 13 = .ok (.invokevirtual 34, 3) := by decide +kernel
theorem dX4_addAll_16 : decode cX4_addAll 16 = .ok (.aload_n 1, 1) := by decide +kernel
theorem dX4_addAll_17 : decode cX4_addAll 17 = .ok (.iload_n 3, 1) := by decide +kernel
theorem dX4_addAll_18 : decode cX4_addAll 18 = .ok (.invokevirtual 38, 3) := by decide +kernel
theorem dX4_addAll_21 : decode cX4_addAll 21 = .ok (.iload_n 2, 1) := by decide +kernel
theorem dX4_addAll_22 : decode cX4_addAll 22 = .ok (.invokevirtual 41, 3) := by decide +kernel
theorem dX4_addAll_25 : decode cX4_addAll 25 = .ok (.iinc 3 1, 3) := by decide +kernel
theorem dX4_addAll_28 : decode cX4_addAll 28 = .ok (.goto (-26), 3) := by decide +kernel
theorem dX4_addAll_31 : decode cX4_addAll 31 = .ok (.return_, 1) := by decide +kernel
theorem dX4_shelfAt_0 : decode cX4_shelfAt 0 = .ok (.iload_n 1, 1) := by decide +kernel
theorem dX4_shelfAt_1 : decode cX4_shelfAt 1 = .ok (.ifCond .lt 19, 3) := by decide +kernel
theorem dX4_shelfAt_4 : decode cX4_shelfAt 4 = .ok (.iload_n 1, 1) := by decide +kernel
theorem dX4_shelfAt_5 : decode cX4_shelfAt 5 = .ok (.sipush 625, 3) := by decide +kernel
theorem dX4_shelfAt_8 : decode cX4_shelfAt 8 = .ok (.if_icmp .ge 12, 3) := by decide +kernel
theorem dX4_shelfAt_11 : decode cX4_shelfAt 11 = .ok (.aload_n 0, 1) := by decide +kernel
theorem dX4_shelfAt_12 : decode cX4_shelfAt 12 = .ok (.getfield 9, 3) := by decide +kernel
theorem dX4_shelfAt_15 : decode cX4_shelfAt 15 = .ok (.iload_n 1, 1) := by decide +kernel
theorem dX4_shelfAt_16 : decode cX4_shelfAt 16 = .ok (.iaload, 1) := by decide +kernel
theorem dX4_shelfAt_17 : decode cX4_shelfAt 17 = .ok (.goto 4, 3) := by decide +kernel
theorem dX4_shelfAt_20 : decode cX4_shelfAt 20 = .ok (.iconst 0, 1) := by decide +kernel
theorem dX4_shelfAt_21 : decode cX4_shelfAt 21 = .ok (.ireturn, 1) := by decide +kernel
theorem dX4_costAt_0 : decode cX4_costAt 0 = .ok (.iload_n 1, 1) := by decide +kernel
theorem dX4_costAt_1 : decode cX4_costAt 1 = .ok (.ifCond .lt 19, 3) := by decide +kernel
theorem dX4_costAt_4 : decode cX4_costAt 4 = .ok (.iload_n 1, 1) := by decide +kernel
theorem dX4_costAt_5 : decode cX4_costAt 5 = .ok (.sipush 625, 3) := by decide +kernel
theorem dX4_costAt_8 : decode cX4_costAt 8 = .ok (.if_icmp .ge 12, 3) := by decide +kernel
theorem dX4_costAt_11 : decode cX4_costAt 11 = .ok (.aload_n 0, 1) := by decide +kernel
theorem dX4_costAt_12 : decode cX4_costAt 12 = .ok (.getfield 15, 3) := by decide +kernel
theorem dX4_costAt_15 : decode cX4_costAt 15 = .ok (.iload_n 1, 1) := by decide +kernel
theorem dX4_costAt_16 : decode cX4_costAt 16 = .ok (.iaload, 1) := by decide +kernel
theorem dX4_costAt_17 : decode cX4_costAt 17 = .ok (.goto 4, 3) := by decide +kernel
theorem dX4_costAt_20 : decode cX4_costAt 20 = .ok (.iconst 0, 1) := by decide +kernel
theorem dX4_costAt_21 : decode cX4_costAt 21 = .ok (.ireturn, 1) := by decide +kernel
theorem dX5_init_0 : decode cX5_init 0 = .ok (.aload_n 0, 1) := by decide +kernel
theorem dX5_init_1 : decode cX5_init 1 = .ok (.invokespecial 3, 3) := by decide +kernel
theorem dX5_init_4 : decode cX5_init 4 = .ok (.aload_n 0, 1) := by decide +kernel
theorem dX5_init_5 : decode cX5_init 5 = .ok (.bipush 20, 2) := by decide +kernel
theorem dX5_init_7 : decode cX5_init 7 = .ok (.newarray .int, 2) := by decide +kernel
theorem dX5_init_9 : decode cX5_init 9 = .ok (.putfield 9, 3) := by decide +kernel
theorem dX5_init_12 : decode cX5_init 12 = .ok (.aload_n 0, 1) := by decide +kernel
theorem dX5_init_13 : decode cX5_init 13 = .ok (.sipush 625, 3) := by decide +kernel
theorem dX5_init_16 : decode cX5_init 16 = .ok (.newarray .int, 2) := by decide +kernel
theorem dX5_init_18 : decode cX5_init 18 = .ok (.putfield 15, 3) := by decide +kernel
theorem dX5_init_21 : decode cX5_init 21 = .ok (.aload_n 0, 1) := by decide +kernel
theorem dX5_init_22 : decode cX5_init 22 = .ok (.iconst 5, 1) := by decide +kernel
theorem dX5_init_23 : decode cX5_init 23 = .ok (.sipush 625, 3) := by decide +kernel
theorem dX5_init_26 : decode cX5_init 26 = .ok (.multianewarray 18 2, 4) := by decide +kernel
theorem dX5_init_30 : decode cX5_init 30 = .ok (.putfield 20, 3) := by decide +kernel
theorem dX5_init_33 : decode cX5_init 33 = .ok (.aload_n 0, 1) := by decide +kernel
theorem dX5_init_34 : decode cX5_init 34 = .ok (.bipush 20, 2) := by decide +kernel
theorem dX5_init_36 : decode cX5_init 36 = .ok (.sipush 625, 3) := by decide +kernel
theorem dX5_init_39 : decode cX5_init 39 = .ok (.multianewarray 18 2, 4) := by decide +kernel
theorem dX5_init_43 : decode cX5_init 43 = .ok (.putfield 23, 3) := by decide +kernel
theorem dX5_init_46 : decode cX5_init 46 = .ok (.aload_n 0, 1) := by decide +kernel
theorem dX5_init_47 : decode cX5_init 47 = .ok (.aload_n 1, 1) := by decide +kernel
theorem dX5_init_48 : decode cX5_init 48 = .ok (.putfield 26, 3) := by decide +kernel
theorem dX5_init_51 : decode cX5_init 51 = .ok (.aload_n 0, 1) := by decide +kernel
theorem dX5_init_52 : decode cX5_init 52 = .ok (.aload_n 2, 1) := by decide +kernel
theorem dX5_init_53 : decode cX5_init 53 = .ok (.putfield 30, 3) := by decide +kernel
theorem dX5_init_56 : decode cX5_init 56 = .ok (.aload_n 0, 1) := by decide +kernel
theorem dX5_init_57 : decode cX5_init 57 = .ok (.aload_n 1, 1) := by decide +kernel
theorem dX5_init_58 : decode cX5_init 58 = .ok (.iconst 0, 1) := by decide +kernel
theorem dX5_init_59 : decode cX5_init 59 = .ok (.invokevirtual 34, 3) := by decide +kernel
theorem dX5_init_62 : decode cX5_init 62 = .ok (.putfield 40, 3) := by decide +kernel
theorem dX5_init_65 : decode cX5_init 65 = .ok (.return_, 1) := by decide +kernel
theorem dX5_find_0 : decode cX5_find 0 = .ok (.aload_n 0, 1) := by decide +kernel
theorem dX5_find_1 : decode cX5_find 1 = .ok (.aload_n 1, 1) := by decide +kernel
theorem dX5_find_2 : decode cX5_find 2 = .ok (.putfield 40, 3) := by decide +kernel
theorem dX5_find_5 : decode cX5_find 5 = .ok (.aload_n 0, 1) := by decide +kernel
theorem dX5_find_6 : decode cX5_find 6 = .ok (.aload_n 0, 1) := by decide +kernel
theorem dX5_find_7 : decode cX5_find 7 = .ok (.getfield 26, 3) := by decide +kernel
theorem dX5_find_10 : decode cX5_find 10 = .ok (.iconst 2, 1) := by decide +kernel
theorem dX5_find_11 : decode cX5_find 11 = .ok (.invokevirtual 44, 3) := by decide +kernel
theorem dX5_find_14 : decode cX5_find 14 = .ok (.putfield 48, 3) := by decide +kernel
theorem dX5_find_17 : decode cX5_find 17 = .ok (.aload_n 0, 1) := by decide +kernel
theorem dX5_find_18 : decode cX5_find 18 = .ok (.iconst 0, 1) := by decide +kernel
theorem dX5_find_19 : decode cX5_find 19 = .ok (.putfield 52, 3) := by decide +kernel
theorem dX5_find_22 : decode cX5_find 22 = .ok (.aload_n 0, 1) := by decide +kernel
theorem dX5_find_23 : decode cX5_find 23 = .ok (.iconst 0, 1) := by decide +kernel
theorem dX5_find_24 : decode cX5_find 24 = .ok (.putfield 55, 3) := by decide +kernel
theorem dX5_find_27 : decode cX5_find 27 = .ok (.aload_n 0, 1) := by decide +kernel
theorem dX5_find_28 : decode cX5_find 28 = .ok (.getfield 30, 3) := by decide +kernel
theorem dX5_find_31 : decode cX5_find 31 = .ok (.aload_n 0, 1) := by decide +kernel
theorem dX5_find_32 : decode cX5_find 32 = .ok (.getfield 26, 3) := by decide +kernel
theorem dX5_find_35 : decode cX5_find 35 = .ok (.aload_n 0, 1) := by decide +kernel
theorem dX5_find_36 : decode cX5_find 36 = .ok (.getfield 26, 3) := by decide +kernel
theorem dX5_find_39 : decode cX5_find 39 = .ok (.iconst 3, 1) := by decide +kernel
theorem dX5_find_40 : decode cX5_find 40 = .ok (.invokevirtual 44, 3) := by decide +kernel
theorem dX5_find_43 : decode cX5_find 43 = .ok (.aload_n 1, 1) := by decide +kernel
theorem dX5_find_44 : decode cX5_find 44 = .ok (.invokevirtual 58, 3) := by decide +kernel
theorem dX5_find_47 : decode cX5_find 47 = .ok (.invokevirtual 64, 3) := by decide +kernel
theorem dX5_find_50 : decode cX5_find 50 = .ok (.iconst 0, 1) := by decide +kernel
theorem dX5_find_51 : decode cX5_find 51 = .ok (.istore_n 2, 1) := by decide +kernel
theorem dX5_find_52 : decode cX5_find 52 = .ok (.iload_n 2, 1) := by decide +kernel
theorem dX5_find_53 : decode cX5_find 53 = .ok (.aload_n 0, 1) := by decide +kernel
theorem dX5_find_54 : decode cX5_find 54 = .ok (.getfield 30, 3) := by decide +kernel
theorem dX5_find_57 : decode cX5_find 57 = .ok (.getfield 70, 3) := by decide +kernel
theorem dX5_find_60 : decode cX5_find 60 = .ok (.if_icmp .ge 25, 3) := by decide +kernel
theorem dX5_find_63 : decode cX5_find 63 = .ok (.iload_n 2, 1) := by decide +kernel
theorem dX5_find_64 : decode cX5_find 64 = .ok (.aload_n 0, 1) := by decide +kernel
theorem dX5_find_65 : decode cX5_find 65 = .ok (.getfield 15, 3) := by decide +kernel
theorem dX5_find_68 : decode cX5_find 68 = .ok (.arraylength, 1) := by decide +kernel
theorem dX5_find_69 : decode cX5_find 69 = .ok (.if_icmp .ge 16, 3) := by decide +kernel
theorem dX5_find_72 : decode cX5_find 72 = .ok (.aload_n 0, 1) := by decide +kernel
theorem dX5_find_73 : decode cX5_find 73 = .ok (.getfield 15, 3) := by decide +kernel
theorem dX5_find_76 : decode cX5_find 76 = .ok (.iload_n 2, 1) := by decide +kernel
theorem dX5_find_77 : decode cX5_find 77 = .ok (.iconst 0, 1) := by decide +kernel
theorem dX5_find_78 : decode cX5_find 78 = .ok (.iastore, 1) := by decide +kernel
theorem dX5_find_79 : decode cX5_find 79 = .ok (.iinc 2 1, 3) := by decide +kernel
theorem dX5_find_82 : decode cX5_find 82 = .ok (.goto (-30), 3) := by decide +kernel
theorem dX5_find_85 : decode cX5_find 85 = .ok (.aload_n 0, 1) := by decide +kernel
theorem dX5_find_86 : decode cX5_find 86 = .ok (.iconst 0, 1) := by decide +kernel
theorem dX5_find_87 : decode cX5_find 87 = .ok (.iconst 0, 1) := by decide +kernel
theorem dX5_find_88 : decode cX5_find 88 = .ok (.aload_n 0, 1) := by decide +kernel
theorem dX5_find_89 : decode cX5_find 89 = .ok (.getfield 15, 3) := by decide +kernel
theorem dX5_find_92 : decode cX5_find 92 = .ok (.invokevirtual 71, 3) := by decide +kernel
theorem dX5_find_95 : decode cX5_find 95 = .ok (.return_, 1) := by decide +kernel
theorem dX5_digitAt_0 : decode cX5_digitAt 0 = .ok (.iload_n 1, 1) := by decide +kernel
theorem dX5_digitAt_1 : decode cX5_digitAt 1 = .ok (.ifCond .lt 29, 3) := by decide +kernel
theorem dX5_digitAt_4 : decode cX5_digitAt 4 = .ok (.iload_n 1, 1) := by decide +kernel
theorem dX5_digitAt_5 : decode cX5_digitAt 5 = .ok (.aload_n 0, 1) := by decide +kernel
theorem dX5_digitAt_6 : decode cX5_digitAt 6 = .ok (.getfield 52, 3) := by decide +kernel
theorem dX5_digitAt_9 : decode cX5_digitAt 9 = .ok (.if_icmp .ge 21, 3) := by decide +kernel
theorem dX5_digitAt_12 : decode cX5_digitAt 12 = .ok (.iload_n 1, 1) := by decide +kernel
theorem dX5_digitAt_13 : decode cX5_digitAt 13 = .ok (.aload_n 0, 1) := by decide +kernel
theorem dX5_digitAt_14 : decode cX5_digitAt 14 = .ok (.getfield 9, 3) := by decide +kernel
theorem dX5_digitAt_17 : decode cX5_digitAt 17 = .ok (.arraylength, 1) := by decide +kernel
theorem dX5_digitAt_18 : decode cX5_digitAt 18 = .ok (.if_icmp .ge 12, 3) := by decide +kernel
theorem dX5_digitAt_21 : decode cX5_digitAt 21 = .ok (.aload_n 0, 1) := by decide +kernel
theorem dX5_digitAt_22 : decode cX5_digitAt 22 = .ok (.getfield 9, 3) := by decide +kernel
theorem dX5_digitAt_25 : decode cX5_digitAt 25 = .ok (.iload_n 1, 1) := by decide +kernel
theorem dX5_digitAt_26 : decode cX5_digitAt 26 = .ok (.iaload, 1) := by decide +kernel
theorem dX5_digitAt_27 : decode cX5_digitAt 27 = .ok (.goto 5, 3) := by decide +kernel
theorem dX5_digitAt_30 : decode cX5_digitAt 30 = .ok (.bipush (-6), 2) := by decide +kernel
theorem dX5_digitAt_32 : decode cX5_digitAt 32 = .ok (.ireturn, 1) := by decide +kernel
theorem dX5_put_0 : decode cX5_put 0 = .ok (.aload_n 0, 1) := by decide +kernel
theorem dX5_put_1 : decode cX5_put 1 = .ok (.getfield 52, 3) := by decide +kernel
theorem dX5_put_4 : decode cX5_put 4 = .ok (.aload_n 0, 1) := by decide +kernel
theorem dX5_put_5 : decode cX5_put 5 = .ok (.getfield 9, 3) := by decide +kernel
theorem dX5_put_8 : decode cX5_put 8 = .ok (.arraylength, 1) := by decide +kernel
theorem dX5_put_9 : decode cX5_put 9 = .ok (.if_icmp .ge 13, 3) := by decide +kernel
theorem dX5_put_12 : decode cX5_put 12 = .ok (.aload_n 0, 1) := by decide +kernel
theorem dX5_put_13 : decode cX5_put 13 = .ok (.getfield 9, 3) := by decide +kernel
theorem dX5_put_16 : decode cX5_put 16 = .ok (.aload_n 0, 1) := by decide +kernel
theorem dX5_put_17 : decode cX5_put 17 = .ok (.getfield 52, 3) := by decide +kernel
theorem dX5_put_20 : decode cX5_put 20 = .ok (.iload_n 1, 1) := by decide +kernel
theorem dX5_put_21 : decode cX5_put 21 = .ok (.iastore, 1) := by decide +kernel
theorem dX5_put_22 : decode cX5_put 22 = .ok (.aload_n 0, 1) := by decide +kernel
theorem dX5_put_23 : decode cX5_put 23 = .ok (.dup, 1) := by decide +kernel
theorem dX5_put_24 : decode cX5_put 24 = .ok (.getfield 52, 3) := by decide +kernel
theorem dX5_put_27 : decode cX5_put 27 = .ok (.iconst 1, 1) := by decide +kernel
theorem dX5_put_28 : decode cX5_put 28 = .ok (.iadd, 1) := by decide +kernel
theorem dX5_put_29 : decode cX5_put 29 = .ok (.putfield 52, 3) := by decide +kernel
theorem dX5_put_32 : decode cX5_put 32 = .ok (.return_, 1) := by decide +kernel
theorem dX5_walk_0 : decode cX5_walk 0 = .ok (.iload_n 2, 1) := by decide +kernel
theorem dX5_walk_1 : decode cX5_walk 1 = .ok (.iconst 4, 1) := by decide +kernel
theorem dX5_walk_2 : decode cX5_walk 2 = .ok (.if_icmp .gt 12, 3) := by decide +kernel
theorem dX5_walk_5 : decode cX5_walk 5 = .ok (.aload_n 0, 1) := by decide +kernel
theorem dX5_walk_6 : decode cX5_walk 6 = .ok (.getfield 52, 3) := by decide +kernel
theorem dX5_walk_9 : decode cX5_walk 9 = .ok (.bipush 20, 2) := by decide +kernel
theorem dX5_walk_11 : decode cX5_walk 11 = .ok (.if_icmp .le 4, 3) := by decide +kernel
theorem dX5_walk_14 : decode cX5_walk 14 = .ok (.return_, 1) := by decide +kernel
theorem dX5_walk_15 : decode cX5_walk 15 = .ok (.aload_n 0, 1) := by decide +kernel
theorem dX5_walk_16 : decode cX5_walk 16 = .ok (.getfield 40, 3) := by decide +kernel
theorem dX5_walk_19 : decode cX5_walk 19 = .ok (.iload_n 1, 1) := by decide +kernel
theorem dX5_walk_20 : decode cX5_walk 20 = .ok (.invokevirtual 75, 3) := by decide +kernel
theorem dX5_walk_23 : decode cX5_walk 23 = .ok (.lookupswitch 90 #[(45, 87), (59, 57), (63, 67), (98, 77), (99, 77), (100, 77)], 57) := by decide +kernel
theorem dX5_walk_80 : decode cX5_walk 80 = .ok (.aload_n 0, 1) := by decide +kernel
theorem dX5_walk_81 : decode cX5_walk 81 = .ok (.iload_n 1, 1) := by decide +kernel
theorem dX5_walk_82 : decode cX5_walk 82 = .ok (.iload_n 2, 1) := by decide +kernel
theorem dX5_walk_83 : decode cX5_walk 83 = .ok (.aload_n 3, 1) := by decide +kernel
theorem dX5_walk_84 : decode cX5_walk 84 = .ok (.invokevirtual 78, 3) := by decide +kernel
theorem dX5_walk_87 : decode cX5_walk 87 = .ok (.goto 51, 3) := by decide +kernel
theorem dX5_walk_90 : decode cX5_walk 90 = .ok (.aload_n 0, 1) := by decide +kernel
theorem dX5_walk_91 : decode cX5_walk 91 = .ok (.iload_n 1, 1) := by decide +kernel
theorem dX5_walk_92 : decode cX5_walk 92 = .ok (.iload_n 2, 1) := by decide +kernel
theorem dX5_walk_93 : decode cX5_walk 93 = .ok (.aload_n 3, 1) := by decide +kernel
theorem dX5_walk_94 : decode cX5_walk 94 = .ok (.invokevirtual 81, 3) := by decide +kernel
theorem dX5_walk_97 : decode cX5_walk 97 = .ok (.goto 41, 3) := by decide +kernel
theorem dX5_walk_100 : decode cX5_walk 100 = .ok (.aload_n 0, 1) := by decide +kernel
theorem dX5_walk_101 : decode cX5_walk 101 = .ok (.iload_n 1, 1) := by decide +kernel
theorem dX5_walk_102 : decode cX5_walk 102 = .ok (.iload_n 2, 1) := by decide +kernel
theorem dX5_walk_103 : decode cX5_walk 103 = .ok (.aload_n 3, 1) := by decide +kernel
theorem dX5_walk_104 : decode cX5_walk 104 = .ok (.invokevirtual 84, 3) := by decide +kernel
theorem dX5_walk_107 : decode cX5_walk 107 = .ok (.goto 31, 3) := by decide +kernel
theorem dX5_walk_110 : decode cX5_walk 110 = .ok (.goto 28, 3) := by decide +kernel
theorem dX5_walk_113 : decode cX5_walk 113 = .ok (.aload_n 0, 1) := by decide +kernel
theorem dX5_walk_114 : decode cX5_walk 114 = .ok (.aload_n 0, 1) := by decide +kernel
theorem dX5_walk_115 : decode cX5_walk 115 = .ok (.getfield 30, 3) := by decide +kernel
theorem dX5_walk_118 : decode cX5_walk 118 = .ok (.aload_n 0, 1) := by decide +kernel
theorem dX5_walk_119 : decode cX5_walk 119 = .ok (.getfield 40, 3) := by decide +kernel
theorem dX5_walk_122 : decode cX5_walk 122 = .ok (.iload_n 1, 1) := by decide +kernel
theorem dX5_walk_123 : decode cX5_walk 123 = .ok (.invokevirtual 87, 3) := by decide +kernel
theorem dX5_walk_126 : decode cX5_walk 126 = .ok (.aload_n 0, 1) := by decide +kernel
theorem dX5_walk_127 : decode cX5_walk 127 = .ok (.getfield 55, 3) := by decide +kernel
theorem dX5_walk_130 : decode cX5_walk 130 = .ok (.invokevirtual 90, 3) := by decide +kernel
theorem dX5_walk_133 : decode cX5_walk 133 = .ok (.iconst 1, 1) := by decide +kernel
theorem dX5_walk_134 : decode cX5_walk 134 = .ok (.ishr, 1) := by decide +kernel
theorem dX5_walk_135 : decode cX5_walk 135 = .ok (.putfield 55, 3) := by decide +kernel
theorem dX5_walk_138 : decode cX5_walk 138 = .ok (.return_, 1) := by decide +kernel
theorem dX5_walkBoth_0 : decode cX5_walkBoth 0 = .ok (.aload_n 0, 1) := by decide +kernel
theorem dX5_walkBoth_1 : decode cX5_walkBoth 1 = .ok (.iload_n 2, 1) := by decide +kernel
theorem dX5_walkBoth_2 : decode cX5_walkBoth 2 = .ok (.iconst 0, 1) := by decide +kernel
theorem dX5_walkBoth_3 : decode cX5_walkBoth 3 = .ok (.aload_n 3, 1) := by decide +kernel
theorem dX5_walkBoth_4 : decode cX5_walkBoth 4 = .ok (.invokevirtual 94, 3) := by decide +kernel
theorem dX5_walkBoth_7 : decode cX5_walkBoth 7 = .ok (.astore 4, 2) := by decide +kernel
theorem dX5_walkBoth_9 : decode cX5_walkBoth 9 = .ok (.aload_n 0, 1) := by decide +kernel
theorem dX5_walkBoth_10 : decode cX5_walkBoth 10 = .ok (.aload_n 0, 1) := by decide +kernel
theorem dX5_walkBoth_11 : decode cX5_walkBoth 11 = .ok (.getfield 40, 3) := by decide +kernel
theorem dX5_walkBoth_14 : decode cX5_walkBoth 14 = .ok (.iload_n 1, 1) := by decide +kernel
theorem dX5_walkBoth_15 : decode cX5_walkBoth 15 = .ok (.invokevirtual 98, 3) := by decide +kernel
theorem dX5_walkBoth_18 : decode cX5_walkBoth 18 = .ok (.iload_n 2, 1) := by decide +kernel
theorem dX5_walkBoth_19 : decode cX5_walkBoth 19 = .ok (.iconst 1, 1) := by decide +kernel
theorem dX5_walkBoth_20 : decode cX5_walkBoth 20 = .ok (.iadd, 1) := by decide +kernel
theorem dX5_walkBoth_21 : decode cX5_walkBoth 21 = .ok (.aload_n 3, 1) := by decide +kernel
theorem dX5_walkBoth_22 : decode cX5_walkBoth 22 = .ok (.aload 4, 2) := by decide +kernel
theorem dX5_walkBoth_24 : decode cX5_walkBoth 24 = .ok (.invokevirtual 101, 3) := by decide +kernel
theorem dX5_walkBoth_27 : decode cX5_walkBoth 27 = .ok (.aload_n 0, 1) := by decide +kernel
theorem dX5_walkBoth_28 : decode cX5_walkBoth 28 = .ok (.aload_n 0, 1) := by decide +kernel
theorem dX5_walkBoth_29 : decode cX5_walkBoth 29 = .ok (.getfield 40, 3) := by decide +kernel
theorem dX5_walkBoth_32 : decode cX5_walkBoth 32 = .ok (.iload_n 1, 1) := by decide +kernel
theorem dX5_walkBoth_33 : decode cX5_walkBoth 33 = .ok (.invokevirtual 105, 3) := by decide +kernel
theorem dX5_walkBoth_36 : decode cX5_walkBoth 36 = .ok (.iload_n 2, 1) := by decide +kernel
theorem dX5_walkBoth_37 : decode cX5_walkBoth 37 = .ok (.iconst 1, 1) := by decide +kernel
theorem dX5_walkBoth_38 : decode cX5_walkBoth 38 = .ok (.iadd, 1) := by decide +kernel
theorem dX5_walkBoth_39 : decode cX5_walkBoth 39 = .ok (.aload 4, 2) := by decide +kernel
theorem dX5_walkBoth_41 : decode cX5_walkBoth 41 = .ok (.invokevirtual 71, 3) := by decide +kernel
theorem dX5_walkBoth_44 : decode cX5_walkBoth 44 = .ok (.aload_n 0, 1) := by decide +kernel
theorem dX5_walkBoth_45 : decode cX5_walkBoth 45 = .ok (.aload_n 0, 1) := by decide +kernel
theorem dX5_walkBoth_46 : decode cX5_walkBoth 46 = .ok (.getfield 40, 3) := by decide +kernel
theorem dX5_walkBoth_49 : decode cX5_walkBoth 49 = .ok (.iload_n 1, 1) := by decide +kernel
theorem dX5_walkBoth_50 : decode cX5_walkBoth 50 = .ok (.invokevirtual 98, 3) := by decide +kernel
theorem dX5_walkBoth_53 : decode cX5_walkBoth 53 = .ok (.iload_n 2, 1) := by decide +kernel
theorem dX5_walkBoth_54 : decode cX5_walkBoth 54 = .ok (.iconst 1, 1) := by decide +kernel
theorem dX5_walkBoth_55 : decode cX5_walkBoth 55 = .ok (.iadd, 1) := by decide +kernel
theorem dX5_walkBoth_56 : decode cX5_walkBoth 56 = .ok (.aload_n 3, 1) := by decide +kernel
theorem dX5_walkBoth_57 : decode cX5_walkBoth 57 = .ok (.invokevirtual 71, 3) := by decide +kernel
theorem dX5_walkBoth_60 : decode cX5_walkBoth 60 = .ok (.return_, 1) := by decide +kernel
theorem dX5_walkOne_0 : decode cX5_walkOne 0 = .ok (.aload_n 0, 1) := by decide +kernel
theorem dX5_walkOne_1 : decode cX5_walkOne 1 = .ok (.iload_n 2, 1) := by decide +kernel
theorem dX5_walkOne_2 : decode cX5_walkOne 2 = .ok (.iconst 0, 1) := by decide +kernel
theorem dX5_walkOne_3 : decode cX5_walkOne 3 = .ok (.aload_n 3, 1) := by decide +kernel
theorem dX5_walkOne_4 : decode cX5_walkOne 4 = .ok (.invokevirtual 94, 3) := by decide +kernel
theorem dX5_walkOne_7 : decode cX5_walkOne 7 = .ok (.astore 4, 2) := by decide +kernel
theorem dX5_walkOne_9 : decode cX5_walkOne 9 = .ok (.aload_n 0, 1) := by decide +kernel
theorem dX5_walkOne_10 : decode cX5_walkOne 10 = .ok (.iload_n 2, 1) := by decide +kernel
theorem dX5_walkOne_11 : decode cX5_walkOne 11 = .ok (.iconst 1, 1) := by decide +kernel
theorem dX5_walkOne_12 : decode cX5_walkOne 12 = .ok (.aload_n 3, 1) := by decide +kernel
theorem dX5_walkOne_13 : decode cX5_walkOne 13 = .ok (.invokevirtual 94, 3) := by decide +kernel
theorem dX5_walkOne_16 : decode cX5_walkOne 16 = .ok (.astore 5, 2) := by decide +kernel
theorem dX5_walkOne_18 : decode cX5_walkOne 18 = .ok (.aload_n 0, 1) := by decide +kernel
theorem dX5_walkOne_19 : decode cX5_walkOne 19 = .ok (.aload_n 0, 1) := by decide +kernel
theorem dX5_walkOne_20 : decode cX5_walkOne 20 = .ok (.getfield 40, 3) := by decide +kernel
theorem dX5_walkOne_23 : decode cX5_walkOne 23 = .ok (.iload_n 1, 1) := by decide +kernel
theorem dX5_walkOne_24 : decode cX5_walkOne 24 = .ok (.invokevirtual 105, 3) := by decide +kernel
theorem dX5_walkOne_27 : decode cX5_walkOne 27 = .ok (.iload_n 2, 1) := by decide +kernel
theorem dX5_walkOne_28 : decode cX5_walkOne 28 = .ok (.iconst 1, 1) := by decide +kernel
theorem dX5_walkOne_29 : decode cX5_walkOne 29 = .ok (.iadd, 1) := by decide +kernel
theorem dX5_walkOne_30 : decode cX5_walkOne 30 = .ok (.aload_n 3, 1) := by decide +kernel
theorem dX5_walkOne_31 : decode cX5_walkOne 31 = .ok (.aload 4, 2) := by decide +kernel
theorem dX5_walkOne_33 : decode cX5_walkOne 33 = .ok (.invokevirtual 101, 3) := by decide +kernel
theorem dX5_walkOne_36 : decode cX5_walkOne 36 = .ok (.aload_n 0, 1) := by decide +kernel
theorem dX5_walkOne_37 : decode cX5_walkOne 37 = .ok (.aload_n 0, 1) := by decide +kernel
theorem dX5_walkOne_38 : decode cX5_walkOne 38 = .ok (.getfield 40, 3) := by decide +kernel
theorem dX5_walkOne_41 : decode cX5_walkOne 41 = .ok (.iload_n 1, 1) := by decide +kernel
theorem dX5_walkOne_42 : decode cX5_walkOne 42 = .ok (.invokevirtual 98, 3) := by decide +kernel
theorem dX5_walkOne_45 : decode cX5_walkOne 45 = .ok (.iload_n 2, 1) := by decide +kernel
theorem dX5_walkOne_46 : decode cX5_walkOne 46 = .ok (.iconst 1, 1) := by decide +kernel
theorem dX5_walkOne_47 : decode cX5_walkOne 47 = .ok (.iadd, 1) := by decide +kernel
theorem dX5_walkOne_48 : decode cX5_walkOne 48 = .ok (.aload_n 3, 1) := by decide +kernel
theorem dX5_walkOne_49 : decode cX5_walkOne 49 = .ok (.aload 5, 2) := by decide +kernel
theorem dX5_walkOne_51 : decode cX5_walkOne 51 = .ok (.invokevirtual 101, 3) := by decide +kernel
theorem dX5_walkOne_54 : decode cX5_walkOne 54 = .ok (.aload_n 0, 1) := by decide +kernel
theorem dX5_walkOne_55 : decode cX5_walkOne 55 = .ok (.aload 4, 2) := by decide +kernel
theorem dX5_walkOne_57 : decode cX5_walkOne 57 = .ok (.invokevirtual 108, 3) := by decide +kernel
theorem dX5_walkOne_60 : decode cX5_walkOne 60 = .ok (.aload_n 0, 1) := by decide +kernel
theorem dX5_walkOne_61 : decode cX5_walkOne 61 = .ok (.aload 5, 2) := by decide +kernel
theorem dX5_walkOne_63 : decode cX5_walkOne 63 = .ok (.invokevirtual 108, 3) := by decide +kernel
theorem dX5_walkOne_66 : decode cX5_walkOne 66 = .ok (.if_icmp .lt 7, 3) := by decide +kernel
theorem dX5_walkOne_69 : decode cX5_walkOne 69 = .ok (.iconst 1, 1) := by decide +kernel
theorem dX5_walkOne_70 : decode cX5_walkOne 70 = .ok (.goto 4, 3) := by decide +kernel
theorem dX5_walkOne_73 : decode cX5_walkOne 73 = .ok (.iconst 0, 1) := by decide +kernel
theorem dX5_walkOne_74 : decode cX5_walkOne 74 = .ok (.istore 6, 2) := by decide +kernel
theorem dX5_walkOne_76 : decode cX5_walkOne 76 = .ok (.aload_n 0, 1) := by decide +kernel
theorem dX5_walkOne_77 : decode cX5_walkOne 77 = .ok (.iload 6, 2) := by decide +kernel
theorem dX5_walkOne_79 : decode cX5_walkOne 79 = .ok (.ifCond .eq 7, 3) := by decide +kernel
theorem dX5_walkOne_82 : decode cX5_walkOne 82 = .ok (.iconst 0, 1) := by decide +kernel
theorem dX5_walkOne_83 : decode cX5_walkOne 83 = .ok (.goto 4, 3) := by decide +kernel
theorem dX5_walkOne_86 : decode cX5_walkOne 86 = .ok (.iconst 1, 1) := by decide +kernel
theorem dX5_walkOne_87 : decode cX5_walkOne 87 = .ok (.invokevirtual 112, 3) := by decide +kernel
theorem dX5_walkOne_90 : decode cX5_walkOne 90 = .ok (.aload_n 0, 1) := by decide +kernel
theorem dX5_walkOne_91 : decode cX5_walkOne 91 = .ok (.iload 6, 2) := by decide +kernel
theorem dX5_walkOne_93 : decode cX5_walkOne 93 = .ok (.ifCond .eq 14, 3) := by decide +kernel
theorem dX5_walkOne_96 : decode cX5_walkOne 96 = .ok (.aload_n 0, 1) := by decide +kernel
theorem dX5_walkOne_97 : decode cX5_walkOne 97 = .ok (.getfield 40, 3) := by decide +kernel
theorem dX5_walkOne_100 : decode cX5_walkOne 100 = .ok (.iload_n 1, 1) := by decide +kernel
theorem dX5_walkOne_101 : decode cX5_walkOne 101 = .ok (.invokevirtual 105, 3) := by decide +kernel
theorem dX5_walkOne_104 : decode cX5_walkOne 104 = .ok (.goto 11, 3) := by decide +kernel
theorem dX5_walkOne_107 : decode cX5_walkOne 107 = .ok (.aload_n 0, 1) := by decide +kernel
theorem dX5_walkOne_108 : decode cX5_walkOne 108 = .ok (.getfield 40, 3) := by decide +kernel
theorem dX5_walkOne_111 : decode cX5_walkOne 111 = .ok (.iload_n 1, 1) := by decide +kernel
theorem dX5_walkOne_112 : decode cX5_walkOne 112 = .ok (.invokevirtual 98, 3) := by decide +kernel
theorem dX5_walkOne_115 : decode cX5_walkOne 115 = .ok (.iload_n 2, 1) := by decide +kernel
theorem dX5_walkOne_116 : decode cX5_walkOne 116 = .ok (.iconst 1, 1) := by decide +kernel
theorem dX5_walkOne_117 : decode cX5_walkOne 117 = .ok (.iadd, 1) := by decide +kernel
theorem dX5_walkOne_118 : decode cX5_walkOne 118 = .ok (.aload_n 3, 1) := by decide +kernel
theorem dX5_walkOne_119 : decode cX5_walkOne 119 = .ok (.invokevirtual 71, 3) := by decide +kernel
theorem dX5_walkOne_122 : decode cX5_walkOne 122 = .ok (.return_, 1) := by decide +kernel
theorem dX5_walkLoop_0 : decode cX5_walkLoop 0 = .ok (.aload_n 0, 1) := by decide +kernel
theorem dX5_walkLoop_1 : decode cX5_walkLoop 1 = .ok (.getfield 40, 3) := by decide +kernel
theorem dX5_walkLoop_4 : decode cX5_walkLoop 4 = .ok (.iload_n 1, 1) := by decide +kernel
theorem dX5_walkLoop_5 : decode cX5_walkLoop 5 = .ok (.invokevirtual 105, 3) := by decide +kernel
theorem dX5_walkLoop_8 : decode cX5_walkLoop 8 = .ok (.istore 4, 2) := by decide +kernel
theorem dX5_walkLoop_10 : decode cX5_walkLoop 10 = .ok (.aload_n 0, 1) := by decide +kernel
theorem dX5_walkLoop_11 : decode cX5_walkLoop 11 = .ok (.getfield 40, 3) := by decide +kernel
theorem dX5_walkLoop_14 : decode cX5_walkLoop 14 = .ok (.iload_n 1, 1) := by decide +kernel
theorem dX5_walkLoop_15 : decode cX5_walkLoop 15 = .ok (.invokevirtual 116, 3) := by decide +kernel
theorem dX5_walkLoop_18 : decode cX5_walkLoop 18 = .ok (.istore 5, 2) := by decide +kernel
theorem dX5_walkLoop_20 : decode cX5_walkLoop 20 = .ok (.iconst 0, 1) := by decide +kernel
theorem dX5_walkLoop_21 : decode cX5_walkLoop 21 = .ok (.istore 6, 2) := by decide +kernel
theorem dX5_walkLoop_23 : decode cX5_walkLoop 23 = .ok (.aload_n 0, 1) := by decide +kernel
theorem dX5_walkLoop_24 : decode cX5_walkLoop 24 = .ok (.aload_n 3, 1) := by decide +kernel
theorem dX5_walkLoop_25 : decode cX5_walkLoop 25 = .ok (.invokevirtual 108, 3) := by decide +kernel
theorem dX5_walkLoop_28 : decode cX5_walkLoop 28 = .ok (.istore 7, 2) := by decide +kernel
theorem dX5_walkLoop_30 : decode cX5_walkLoop 30 = .ok (.aload_n 3, 1) := by decide +kernel
theorem dX5_walkLoop_31 : decode cX5_walkLoop 31 = .ok (.astore 8, 2) := by decide +kernel
theorem dX5_walkLoop_33 : decode cX5_walkLoop 33 = .ok (.iconst 0, 1) := by decide +kernel
theorem dX5_walkLoop_34 : decode cX5_walkLoop 34 = .ok (.istore 9, 2) := by decide +kernel
theorem dX5_walkLoop_36 : decode cX5_walkLoop 36 = .ok (.iload 9, 2) := by decide +kernel
theorem dX5_walkLoop_38 : decode cX5_walkLoop 38 = .ok (.iload 5, 2) := by decide +kernel
theorem dX5_walkLoop_40 : decode cX5_walkLoop 40 = .ok (.if_icmp .ge 61, 3) := by decide +kernel
theorem dX5_walkLoop_43 : decode cX5_walkLoop 43 = .ok (.aload_n 0, 1) := by decide +kernel
theorem dX5_walkLoop_44 : decode cX5_walkLoop 44 = .ok (.iload_n 2, 1) := by decide +kernel
theorem dX5_walkLoop_45 : decode cX5_walkLoop 45 = .ok (.iload 9, 2) := by decide +kernel
theorem dX5_walkLoop_47 : decode cX5_walkLoop 47 = .ok (.aload_n 3, 1) := by decide +kernel
theorem dX5_walkLoop_48 : decode cX5_walkLoop 48 = .ok (.invokevirtual 94, 3) := by decide +kernel
theorem dX5_walkLoop_51 : decode cX5_walkLoop 51 = .ok (.astore 10, 2) := by decide +kernel
theorem dX5_walkLoop_53 : decode cX5_walkLoop 53 = .ok (.aload_n 0, 1) := by decide +kernel
theorem dX5_walkLoop_54 : decode cX5_walkLoop 54 = .ok (.iload 4, 2) := by decide +kernel
theorem dX5_walkLoop_56 : decode cX5_walkLoop 56 = .ok (.iload_n 2, 1) := by decide +kernel
theorem dX5_walkLoop_57 : decode cX5_walkLoop 57 = .ok (.iconst 1, 1) := by decide +kernel
theorem dX5_walkLoop_58 : decode cX5_walkLoop 58 = .ok (.iadd, 1) := by decide +kernel
theorem dX5_walkLoop_59 : decode cX5_walkLoop 59 = .ok (.aload 8, 2) := by decide +kernel
theorem dX5_walkLoop_61 : decode cX5_walkLoop 61 = .ok (.aload 10, 2) := by decide +kernel
theorem dX5_walkLoop_63 : decode cX5_walkLoop 63 = .ok (.invokevirtual 101, 3) := by decide +kernel
theorem dX5_walkLoop_66 : decode cX5_walkLoop 66 = .ok (.aload_n 0, 1) := by decide +kernel
theorem dX5_walkLoop_67 : decode cX5_walkLoop 67 = .ok (.aload 10, 2) := by decide +kernel
theorem dX5_walkLoop_69 : decode cX5_walkLoop 69 = .ok (.invokevirtual 108, 3) := by decide +kernel
theorem dX5_walkLoop_72 : decode cX5_walkLoop 72 = .ok (.iload 7, 2) := by decide +kernel
theorem dX5_walkLoop_74 : decode cX5_walkLoop 74 = .ok (.if_icmp .le 17, 3) := by decide +kernel
theorem dX5_walkLoop_77 : decode cX5_walkLoop 77 = .ok (.aload_n 0, 1) := by decide +kernel
theorem dX5_walkLoop_78 : decode cX5_walkLoop 78 = .ok (.aload 10, 2) := by decide +kernel
theorem dX5_walkLoop_80 : decode cX5_walkLoop 80 = .ok (.invokevirtual 108, 3) := by decide +kernel
theorem dX5_walkLoop_83 : decode cX5_walkLoop 83 = .ok (.istore 7, 2) := by decide +kernel
theorem dX5_walkLoop_85 : decode cX5_walkLoop 85 = .ok (.iload 9, 2) := by decide +kernel
theorem dX5_walkLoop_87 : decode cX5_walkLoop 87 = .ok (.iconst 1, 1) := by decide +kernel
theorem dX5_walkLoop_88 : decode cX5_walkLoop 88 = .ok (.iadd, 1) := by decide +kernel
theorem dX5_walkLoop_89 : decode cX5_walkLoop 89 = .ok (.istore 6, 2) := by decide +kernel
theorem dX5_walkLoop_91 : decode cX5_walkLoop 91 = .ok (.aload 10, 2) := by decide +kernel
theorem dX5_walkLoop_93 : decode cX5_walkLoop 93 = .ok (.astore 8, 2) := by decide +kernel
theorem dX5_walkLoop_95 : decode cX5_walkLoop 95 = .ok (.iinc 9 1, 3) := by decide +kernel
theorem dX5_walkLoop_98 : decode cX5_walkLoop 98 = .ok (.goto (-62), 3) := by decide +kernel
theorem dX5_walkLoop_101 : decode cX5_walkLoop 101 = .ok (.aload_n 0, 1) := by decide +kernel
theorem dX5_walkLoop_102 : decode cX5_walkLoop 102 = .ok (.iload 6, 2) := by decide +kernel
theorem dX5_walkLoop_104 : decode cX5_walkLoop 104 = .ok (.invokevirtual 112, 3) := by decide +kernel
theorem dX5_walkLoop_107 : decode cX5_walkLoop 107 = .ok (.iload 6, 2) := by decide +kernel
theorem dX5_walkLoop_109 : decode cX5_walkLoop 109 = .ok (.iconst 1, 1) := by decide +kernel
theorem dX5_walkLoop_110 : decode cX5_walkLoop 110 = .ok (.isub, 1) := by decide +kernel
theorem dX5_walkLoop_111 : decode cX5_walkLoop 111 = .ok (.istore 9, 2) := by decide +kernel
theorem dX5_walkLoop_113 : decode cX5_walkLoop 113 = .ok (.iload 9, 2) := by decide +kernel
theorem dX5_walkLoop_115 : decode cX5_walkLoop 115 = .ok (.ifCond .lt 37, 3) := by decide +kernel
theorem dX5_walkLoop_118 : decode cX5_walkLoop 118 = .ok (.aload_n 0, 1) := by decide +kernel
theorem dX5_walkLoop_119 : decode cX5_walkLoop 119 = .ok (.iload 4, 2) := by decide +kernel
theorem dX5_walkLoop_121 : decode cX5_walkLoop 121 = .ok (.iload_n 2, 1) := by decide +kernel
theorem dX5_walkLoop_122 : decode cX5_walkLoop 122 = .ok (.iconst 1, 1) := by decide +kernel
theorem dX5_walkLoop_123 : decode cX5_walkLoop 123 = .ok (.iadd, 1) := by decide +kernel
theorem dX5_walkLoop_124 : decode cX5_walkLoop 124 = .ok (.iload 9, 2) := by decide +kernel
theorem dX5_walkLoop_126 : decode cX5_walkLoop 126 = .ok (.ifCond .ne 7, 3) := by decide +kernel
theorem dX5_walkLoop_129 : decode cX5_walkLoop 129 = .ok (.aload_n 3, 1) := by decide +kernel
theorem dX5_walkLoop_130 : decode cX5_walkLoop 130 = .ok (.goto 13, 3) := by decide +kernel
theorem dX5_walkLoop_133 : decode cX5_walkLoop 133 = .ok (.aload_n 0, 1) := by decide +kernel
theorem dX5_walkLoop_134 : decode cX5_walkLoop 134 = .ok (.iload_n 2, 1) := by decide +kernel
theorem dX5_walkLoop_135 : decode cX5_walkLoop 135 = .ok (.iload 9, 2) := by decide +kernel
theorem dX5_walkLoop_137 : decode cX5_walkLoop 137 = .ok (.iconst 1, 1) := by decide +kernel
theorem dX5_walkLoop_138 : decode cX5_walkLoop 138 = .ok (.isub, 1) := by decide +kernel
theorem dX5_walkLoop_139 : decode cX5_walkLoop 139 = .ok (.aload_n 3, 1) := by decide +kernel
theorem dX5_walkLoop_140 : decode cX5_walkLoop 140 = .ok (.invokevirtual 94, 3) := by decide +kernel
theorem dX5_walkLoop_143 : decode cX5_walkLoop 143 = .ok (.invokevirtual 71, 3) := by decide +kernel
theorem dX5_walkLoop_146 : decode cX5_walkLoop 146 = .ok (.iinc 9 (-1), 3) := by decide +kernel
theorem dX5_walkLoop_149 : decode cX5_walkLoop 149 = .ok (.goto (-36), 3) := by decide +kernel
theorem dX5_walkLoop_152 : decode cX5_walkLoop 152 = .ok (.return_, 1) := by decide +kernel
theorem dX5_aheadRow_0 : decode cX5_aheadRow 0 = .ok (.iconst 4, 1) := by decide +kernel
theorem dX5_aheadRow_1 : decode cX5_aheadRow 1 = .ok (.iload_n 1, 1) := by decide +kernel
theorem dX5_aheadRow_2 : decode cX5_aheadRow 2 = .ok (.imul, 1) := by decide +kernel
theorem dX5_aheadRow_3 : decode cX5_aheadRow 3 = .ok (.iload_n 2, 1) := by decide +kernel
theorem dX5_aheadRow_4 : decode cX5_aheadRow 4 = .ok (.iadd, 1) := by decide +kernel
theorem dX5_aheadRow_5 : decode cX5_aheadRow 5 = .ok (.istore 4, 2) := by decide +kernel
theorem dX5_aheadRow_7 : decode cX5_aheadRow 7 = .ok (.iload_n 2, 1) := by decide +kernel
theorem dX5_aheadRow_8 : decode cX5_aheadRow 8 = .ok (.iconst 4, 1) := by decide +kernel
theorem dX5_aheadRow_9 : decode cX5_aheadRow 9 = .ok (.if_icmp .ge 28, 3) := by decide +kernel
theorem dX5_aheadRow_12 : decode cX5_aheadRow 12 = .ok (.iload 4, 2) := by decide +kernel
theorem dX5_aheadRow_14 : decode cX5_aheadRow 14 = .ok (.ifCond .lt 23, 3) := by decide +kernel
theorem dX5_aheadRow_17 : decode cX5_aheadRow 17 = .ok (.iload 4, 2) := by decide +kernel
theorem dX5_aheadRow_19 : decode cX5_aheadRow 19 = .ok (.aload_n 0, 1) := by decide +kernel
theorem dX5_aheadRow_20 : decode cX5_aheadRow 20 = .ok (.getfield 23, 3) := by decide +kernel
theorem dX5_aheadRow_23 : decode cX5_aheadRow 23 = .ok (.arraylength, 1) := by decide +kernel
theorem dX5_aheadRow_24 : decode cX5_aheadRow 24 = .ok (.if_icmp .ge 13, 3) := by decide +kernel
theorem dX5_aheadRow_27 : decode cX5_aheadRow 27 = .ok (.aload_n 0, 1) := by decide +kernel
theorem dX5_aheadRow_28 : decode cX5_aheadRow 28 = .ok (.getfield 23, 3) := by decide +kernel
theorem dX5_aheadRow_31 : decode cX5_aheadRow 31 = .ok (.iload 4, 2) := by decide +kernel
theorem dX5_aheadRow_33 : decode cX5_aheadRow 33 = .ok (.aaload, 1) := by decide +kernel
theorem dX5_aheadRow_34 : decode cX5_aheadRow 34 = .ok (.goto 4, 3) := by decide +kernel
theorem dX5_aheadRow_37 : decode cX5_aheadRow 37 = .ok (.aload_n 3, 1) := by decide +kernel
theorem dX5_aheadRow_38 : decode cX5_aheadRow 38 = .ok (.areturn, 1) := by decide +kernel
theorem dX5_costHere_0 : decode cX5_costHere 0 = .ok (.aload_n 0, 1) := by decide +kernel
theorem dX5_costHere_1 : decode cX5_costHere 1 = .ok (.getfield 55, 3) := by decide +kernel
theorem dX5_costHere_4 : decode cX5_costHere 4 = .ok (.ifCond .lt 21, 3) := by decide +kernel
theorem dX5_costHere_7 : decode cX5_costHere 7 = .ok (.aload_n 0, 1) := by decide +kernel
theorem dX5_costHere_8 : decode cX5_costHere 8 = .ok (.getfield 55, 3) := by decide +kernel
theorem dX5_costHere_11 : decode cX5_costHere 11 = .ok (.aload_n 1, 1) := by decide +kernel
theorem dX5_costHere_12 : decode cX5_costHere 12 = .ok (.arraylength, 1) := by decide +kernel
theorem dX5_costHere_13 : decode cX5_costHere 13 = .ok (.if_icmp .ge 12, 3) := by decide +kernel
theorem dX5_costHere_16 : decode cX5_costHere 16 = .ok (.aload_n 1, 1) := by decide +kernel
theorem dX5_costHere_17 : decode cX5_costHere 17 = .ok (.aload_n 0, 1) := by decide +kernel
theorem dX5_costHere_18 : decode cX5_costHere 18 = .ok (.getfield 55, 3) := by decide +kernel
theorem dX5_costHere_21 : decode cX5_costHere 21 = .ok (.iaload, 1) := by decide +kernel
theorem dX5_costHere_22 : decode cX5_costHere 22 = .ok (.goto 4, 3) := by decide +kernel
theorem dX5_costHere_25 : decode cX5_costHere 25 = .ok (.iconst 0, 1) := by decide +kernel
theorem dX5_costHere_26 : decode cX5_costHere 26 = .ok (.ireturn, 1) := by decide +kernel
theorem dX5_look_0 : decode cX5_look 0 = .ok (.iload_n 2, 1) := by decide +kernel
theorem dX5_look_1 : decode cX5_look 1 = .ok (.iconst 4, 1) := by decide +kernel
theorem dX5_look_2 : decode cX5_look 2 = .ok (.if_icmp .gt 12, 3) := by decide +kernel
theorem dX5_look_5 : decode cX5_look 5 = .ok (.iload_n 2, 1) := by decide +kernel
theorem dX5_look_6 : decode cX5_look 6 = .ok (.aload_n 0, 1) := by decide +kernel
theorem dX5_look_7 : decode cX5_look 7 = .ok (.getfield 20, 3) := by decide +kernel
theorem dX5_look_10 : decode cX5_look 10 = .ok (.arraylength, 1) := by decide +kernel
theorem dX5_look_11 : decode cX5_look 11 = .ok (.if_icmp .lt 4, 3) := by decide +kernel
theorem dX5_look_14 : decode cX5_look 14 = .ok (.return_, 1) := by decide +kernel
theorem dX5_look_15 : decode cX5_look 15 = .ok (.aload_n 0, 1) := by decide +kernel
theorem dX5_look_16 : decode cX5_look 16 = .ok (.getfield 20, 3) := by decide +kernel
theorem dX5_look_19 : decode cX5_look 19 = .ok (.iload_n 2, 1) := by decide +kernel
theorem dX5_look_20 : decode cX5_look 20 = .ok (.aaload, 1) := by decide +kernel
theorem dX5_look_21 : decode cX5_look 21 = .ok (.astore 5, 2) := by decide +kernel
theorem dX5_look_23 : decode cX5_look 23 = .ok (.aload_n 0, 1) := by decide +kernel
theorem dX5_look_24 : decode cX5_look 24 = .ok (.getfield 40, 3) := by decide +kernel
theorem dX5_look_27 : decode cX5_look 27 = .ok (.iload_n 1, 1) := by decide +kernel
theorem dX5_look_28 : decode cX5_look 28 = .ok (.invokevirtual 105, 3) := by decide +kernel
theorem dX5_look_31 : decode cX5_look 31 = .ok (.istore 6, 2) := by decide +kernel
theorem dX5_look_33 : decode cX5_look 33 = .ok (.aload_n 0, 1) := by decide +kernel
theorem dX5_look_34 : decode cX5_look 34 = .ok (.getfield 40, 3) := by decide +kernel
theorem dX5_look_37 : decode cX5_look 37 = .ok (.iload_n 1, 1) := by decide +kernel
theorem dX5_look_38 : decode cX5_look 38 = .ok (.invokevirtual 98, 3) := by decide +kernel
theorem dX5_look_41 : decode cX5_look 41 = .ok (.istore 7, 2) := by decide +kernel
theorem dX5_look_43 : decode cX5_look 43 = .ok (.aload_n 0, 1) := by decide +kernel
theorem dX5_look_44 : decode cX5_look 44 = .ok (.getfield 40, 3) := by decide +kernel
theorem dX5_look_47 : decode cX5_look 47 = .ok (.iload_n 1, 1) := by decide +kernel
theorem dX5_look_48 : decode cX5_look 48 = .ok (.invokevirtual 75, 3) := by decide +kernel
theorem dX5_look_51 : decode cX5_look 51 = .ok (.lookupswitch 142 #[(45, 132), (59, 57), (63, 85), (98, 120), (99, 120), (100, 120)], 57) := by decide +kernel
theorem dX5_look_108 : decode cX5_look 108 = .ok (.aload_n 0, 1) := by decide +kernel
theorem dX5_look_109 : decode cX5_look 109 = .ok (.iload 7, 2) := by decide +kernel
theorem dX5_look_111 : decode cX5_look 111 = .ok (.iload_n 2, 1) := by decide +kernel
theorem dX5_look_112 : decode cX5_look 112 = .ok (.iconst 1, 1) := by decide +kernel
theorem dX5_look_113 : decode cX5_look 113 = .ok (.iadd, 1) := by decide +kernel
theorem dX5_look_114 : decode cX5_look 114 = .ok (.aload_n 3, 1) := by decide +kernel
theorem dX5_look_115 : decode cX5_look 115 = .ok (.aload 5, 2) := by decide +kernel
theorem dX5_look_117 : decode cX5_look 117 = .ok (.invokevirtual 101, 3) := by decide +kernel
theorem dX5_look_120 : decode cX5_look 120 = .ok (.aload_n 0, 1) := by decide +kernel
theorem dX5_look_121 : decode cX5_look 121 = .ok (.iload 6, 2) := by decide +kernel
theorem dX5_look_123 : decode cX5_look 123 = .ok (.iload_n 2, 1) := by decide +kernel
theorem dX5_look_124 : decode cX5_look 124 = .ok (.iconst 1, 1) := by decide +kernel
theorem dX5_look_125 : decode cX5_look 125 = .ok (.iadd, 1) := by decide +kernel
theorem dX5_look_126 : decode cX5_look 126 = .ok (.aload 5, 2) := by decide +kernel
theorem dX5_look_128 : decode cX5_look 128 = .ok (.aload 4, 2) := by decide +kernel
theorem dX5_look_130 : decode cX5_look 130 = .ok (.invokevirtual 101, 3) := by decide +kernel
theorem dX5_look_133 : decode cX5_look 133 = .ok (.goto 75, 3) := by decide +kernel
theorem dX5_look_136 : decode cX5_look 136 = .ok (.aload_n 0, 1) := by decide +kernel
theorem dX5_look_137 : decode cX5_look 137 = .ok (.iload 6, 2) := by decide +kernel
theorem dX5_look_139 : decode cX5_look 139 = .ok (.iload_n 2, 1) := by decide +kernel
theorem dX5_look_140 : decode cX5_look 140 = .ok (.iconst 1, 1) := by decide +kernel
theorem dX5_look_141 : decode cX5_look 141 = .ok (.iadd, 1) := by decide +kernel
theorem dX5_look_142 : decode cX5_look 142 = .ok (.aload_n 3, 1) := by decide +kernel
theorem dX5_look_143 : decode cX5_look 143 = .ok (.aload 4, 2) := by decide +kernel
theorem dX5_look_145 : decode cX5_look 145 = .ok (.invokevirtual 101, 3) := by decide +kernel
theorem dX5_look_148 : decode cX5_look 148 = .ok (.aload_n 0, 1) := by decide +kernel
theorem dX5_look_149 : decode cX5_look 149 = .ok (.iload 7, 2) := by decide +kernel
theorem dX5_look_151 : decode cX5_look 151 = .ok (.iload_n 2, 1) := by decide +kernel
theorem dX5_look_152 : decode cX5_look 152 = .ok (.iconst 1, 1) := by decide +kernel
theorem dX5_look_153 : decode cX5_look 153 = .ok (.iadd, 1) := by decide +kernel
theorem dX5_look_154 : decode cX5_look 154 = .ok (.aload_n 3, 1) := by decide +kernel
theorem dX5_look_155 : decode cX5_look 155 = .ok (.aload 5, 2) := by decide +kernel
theorem dX5_look_157 : decode cX5_look 157 = .ok (.invokevirtual 101, 3) := by decide +kernel
theorem dX5_look_160 : decode cX5_look 160 = .ok (.aload_n 0, 1) := by decide +kernel
theorem dX5_look_161 : decode cX5_look 161 = .ok (.aload 4, 2) := by decide +kernel
theorem dX5_look_163 : decode cX5_look 163 = .ok (.aload 5, 2) := by decide +kernel
theorem dX5_look_165 : decode cX5_look 165 = .ok (.invokevirtual 119, 3) := by decide +kernel
theorem dX5_look_168 : decode cX5_look 168 = .ok (.goto 40, 3) := by decide +kernel
theorem dX5_look_171 : decode cX5_look 171 = .ok (.aload_n 0, 1) := by decide +kernel
theorem dX5_look_172 : decode cX5_look 172 = .ok (.iload_n 1, 1) := by decide +kernel
theorem dX5_look_173 : decode cX5_look 173 = .ok (.iload_n 2, 1) := by decide +kernel
theorem dX5_look_174 : decode cX5_look 174 = .ok (.aload_n 3, 1) := by decide +kernel
theorem dX5_look_175 : decode cX5_look 175 = .ok (.aload 4, 2) := by decide +kernel
theorem dX5_look_177 : decode cX5_look 177 = .ok (.invokevirtual 123, 3) := by decide +kernel
theorem dX5_look_180 : decode cX5_look 180 = .ok (.goto 28, 3) := by decide +kernel
theorem dX5_look_183 : decode cX5_look 183 = .ok (.aload_n 0, 1) := by decide +kernel
theorem dX5_look_184 : decode cX5_look 184 = .ok (.aload_n 3, 1) := by decide +kernel
theorem dX5_look_185 : decode cX5_look 185 = .ok (.aload 4, 2) := by decide +kernel
theorem dX5_look_187 : decode cX5_look 187 = .ok (.invokevirtual 126, 3) := by decide +kernel
theorem dX5_look_190 : decode cX5_look 190 = .ok (.goto 18, 3) := by decide +kernel
theorem dX5_look_193 : decode cX5_look 193 = .ok (.aload_n 0, 1) := by decide +kernel
theorem dX5_look_194 : decode cX5_look 194 = .ok (.aload_n 0, 1) := by decide +kernel
theorem dX5_look_195 : decode cX5_look 195 = .ok (.getfield 40, 3) := by decide +kernel
theorem dX5_look_198 : decode cX5_look 198 = .ok (.iload_n 1, 1) := by decide +kernel
theorem dX5_look_199 : decode cX5_look 199 = .ok (.invokevirtual 87, 3) := by decide +kernel
theorem dX5_look_202 : decode cX5_look 202 = .ok (.aload_n 3, 1) := by decide +kernel
theorem dX5_look_203 : decode cX5_look 203 = .ok (.aload 4, 2) := by decide +kernel
theorem dX5_look_205 : decode cX5_look 205 = .ok (.invokevirtual 129, 3) := by decide +kernel
theorem dX5_look_208 : decode cX5_look 208 = .ok (.return_, 1) := by decide +kernel
theorem dX5_lookLoop_0 : decode cX5_lookLoop 0 = .ok (.aload_n 0, 1) := by decide +kernel
theorem dX5_lookLoop_1 : decode cX5_lookLoop 1 = .ok (.getfield 20, 3) := by decide +kernel
theorem dX5_lookLoop_4 : decode cX5_lookLoop 4 = .ok (.iload_n 2, 1) := by decide +kernel
theorem dX5_lookLoop_5 : decode cX5_lookLoop 5 = .ok (.aaload, 1) := by decide +kernel
theorem dX5_lookLoop_6 : decode cX5_lookLoop 6 = .ok (.astore 5, 2) := by decide +kernel
theorem dX5_lookLoop_8 : decode cX5_lookLoop 8 = .ok (.aload_n 0, 1) := by decide +kernel
theorem dX5_lookLoop_9 : decode cX5_lookLoop 9 = .ok (.getfield 40, 3) := by decide +kernel
theorem dX5_lookLoop_12 : decode cX5_lookLoop 12 = .ok (.iload_n 1, 1) := by decide +kernel
theorem dX5_lookLoop_13 : decode cX5_lookLoop 13 = .ok (.invokevirtual 116, 3) := by decide +kernel
theorem dX5_lookLoop_16 : decode cX5_lookLoop 16 = .ok (.istore 6, 2) := by decide +kernel
theorem dX5_lookLoop_18 : decode cX5_lookLoop 18 = .ok (.aload_n 0, 1) := by decide +kernel
theorem dX5_lookLoop_19 : decode cX5_lookLoop 19 = .ok (.aload_n 3, 1) := by decide +kernel
theorem dX5_lookLoop_20 : decode cX5_lookLoop 20 = .ok (.aload 4, 2) := by decide +kernel
theorem dX5_lookLoop_22 : decode cX5_lookLoop 22 = .ok (.invokevirtual 126, 3) := by decide +kernel
theorem dX5_lookLoop_25 : decode cX5_lookLoop 25 = .ok (.iconst 0, 1) := by decide +kernel
theorem dX5_lookLoop_26 : decode cX5_lookLoop 26 = .ok (.istore 7, 2) := by decide +kernel
theorem dX5_lookLoop_28 : decode cX5_lookLoop 28 = .ok (.iload 7, 2) := by decide +kernel
theorem dX5_lookLoop_30 : decode cX5_lookLoop 30 = .ok (.iload 6, 2) := by decide +kernel
theorem dX5_lookLoop_32 : decode cX5_lookLoop 32 = .ok (.if_icmp .ge 36, 3) := by decide +kernel
theorem dX5_lookLoop_35 : decode cX5_lookLoop 35 = .ok (.aload_n 0, 1) := by decide +kernel
theorem dX5_lookLoop_36 : decode cX5_lookLoop 36 = .ok (.aload_n 0, 1) := by decide +kernel
theorem dX5_lookLoop_37 : decode cX5_lookLoop 37 = .ok (.getfield 40, 3) := by decide +kernel
theorem dX5_lookLoop_40 : decode cX5_lookLoop 40 = .ok (.iload_n 1, 1) := by decide +kernel
theorem dX5_lookLoop_41 : decode cX5_lookLoop 41 = .ok (.invokevirtual 105, 3) := by decide +kernel
theorem dX5_lookLoop_44 : decode cX5_lookLoop 44 = .ok (.iload_n 2, 1) := by decide +kernel
theorem dX5_lookLoop_45 : decode cX5_lookLoop 45 = .ok (.iconst 1, 1) := by decide +kernel
theorem dX5_lookLoop_46 : decode cX5_lookLoop 46 = .ok (.iadd, 1) := by decide +kernel
theorem dX5_lookLoop_47 : decode cX5_lookLoop 47 = .ok (.aload 4, 2) := by decide +kernel
theorem dX5_lookLoop_49 : decode cX5_lookLoop 49 = .ok (.aload 5, 2) := by decide +kernel
theorem dX5_lookLoop_51 : decode cX5_lookLoop 51 = .ok (.invokevirtual 101, 3) := by decide +kernel
theorem dX5_lookLoop_54 : decode cX5_lookLoop 54 = .ok (.aload_n 0, 1) := by decide +kernel
theorem dX5_lookLoop_55 : decode cX5_lookLoop 55 = .ok (.aload 4, 2) := by decide +kernel
theorem dX5_lookLoop_57 : decode cX5_lookLoop 57 = .ok (.aload 5, 2) := by decide +kernel
theorem dX5_lookLoop_59 : decode cX5_lookLoop 59 = .ok (.invokevirtual 119, 3) := by decide +kernel
theorem dX5_lookLoop_62 : decode cX5_lookLoop 62 = .ok (.iinc 7 1, 3) := by decide +kernel
theorem dX5_lookLoop_65 : decode cX5_lookLoop 65 = .ok (.goto (-37), 3) := by decide +kernel
theorem dX5_lookLoop_68 : decode cX5_lookLoop 68 = .ok (.return_, 1) := by decide +kernel
theorem dX5_lookFetch_0 : decode cX5_lookFetch 0 = .ok (.iconst 0, 1) := by decide +kernel
theorem dX5_lookFetch_1 : decode cX5_lookFetch 1 = .ok (.istore 4, 2) := by decide +kernel
theorem dX5_lookFetch_3 : decode cX5_lookFetch 3 = .ok (.iload 4, 2) := by decide +kernel
theorem dX5_lookFetch_5 : decode cX5_lookFetch 5 = .ok (.aload_n 0, 1) := by decide +kernel
theorem dX5_lookFetch_6 : decode cX5_lookFetch 6 = .ok (.getfield 30, 3) := by decide +kernel
theorem dX5_lookFetch_9 : decode cX5_lookFetch 9 = .ok (.getfield 70, 3) := by decide +kernel
theorem dX5_lookFetch_12 : decode cX5_lookFetch 12 = .ok (.if_icmp .ge 71, 3) := by decide +kernel
theorem dX5_lookFetch_15 : decode cX5_lookFetch 15 = .ok (.iload 4, 2) := by decide +kernel
theorem dX5_lookFetch_17 : decode cX5_lookFetch 17 = .ok (.aload_n 3, 1) := by decide +kernel
theorem dX5_lookFetch_18 : decode cX5_lookFetch 18 = .ok (.arraylength, 1) := by decide +kernel
theorem dX5_lookFetch_19 : decode cX5_lookFetch 19 = .ok (.if_icmp .ge 64, 3) := by decide +kernel
theorem dX5_lookFetch_22 : decode cX5_lookFetch 22 = .ok (.aload_n 0, 1) := by decide +kernel
theorem dX5_lookFetch_23 : decode cX5_lookFetch 23 = .ok (.getfield 30, 3) := by decide +kernel
theorem dX5_lookFetch_26 : decode cX5_lookFetch 26 = .ok (.iload_n 1, 1) := by decide +kernel
theorem dX5_lookFetch_27 : decode cX5_lookFetch 27 = .ok (.iload 4, 2) := by decide +kernel
theorem dX5_lookFetch_29 : decode cX5_lookFetch 29 = .ok (.invokevirtual 90, 3) := by decide +kernel
theorem dX5_lookFetch_32 : decode cX5_lookFetch 32 = .ok (.istore 5, 2) := by decide +kernel
theorem dX5_lookFetch_34 : decode cX5_lookFetch 34 = .ok (.iload 5, 2) := by decide +kernel
theorem dX5_lookFetch_36 : decode cX5_lookFetch 36 = .ok (.iconst 1, 1) := by decide +kernel
theorem dX5_lookFetch_37 : decode cX5_lookFetch 37 = .ok (.ishr, 1) := by decide +kernel
theorem dX5_lookFetch_38 : decode cX5_lookFetch 38 = .ok (.istore 6, 2) := by decide +kernel
theorem dX5_lookFetch_40 : decode cX5_lookFetch 40 = .ok (.iload 6, 2) := by decide +kernel
theorem dX5_lookFetch_42 : decode cX5_lookFetch 42 = .ok (.ifCond .lt 35, 3) := by decide +kernel
theorem dX5_lookFetch_45 : decode cX5_lookFetch 45 = .ok (.iload 6, 2) := by decide +kernel
theorem dX5_lookFetch_47 : decode cX5_lookFetch 47 = .ok (.aload_n 2, 1) := by decide +kernel
theorem dX5_lookFetch_48 : decode cX5_lookFetch 48 = .ok (.arraylength, 1) := by decide +kernel
theorem dX5_lookFetch_49 : decode cX5_lookFetch 49 = .ok (.if_icmp .ge 28, 3) := by decide +kernel
theorem dX5_lookFetch_52 : decode cX5_lookFetch 52 = .ok (.aload_n 3, 1) := by decide +kernel
theorem dX5_lookFetch_53 : decode cX5_lookFetch 53 = .ok (.iload 4, 2) := by decide +kernel
theorem dX5_lookFetch_55 : decode cX5_lookFetch 55 = .ok (.aload_n 2, 1) := by decide +kernel
theorem dX5_lookFetch_56 : decode cX5_lookFetch 56 = .ok (.iload 6, 2) := by decide +kernel
theorem dX5_lookFetch_58 : decode cX5_lookFetch 58 = .ok (.iaload, 1) := by decide +kernel
theorem dX5_lookFetch_59 : decode cX5_lookFetch 59 = .ok (.iload 5, 2) := by decide +kernel
theorem dX5_lookFetch_61 : decode cX5_lookFetch 61 = .ok (.iconst 1, 1) := by decide +kernel
theorem dX5_lookFetch_62 : decode cX5_lookFetch 62 = .ok (.iand, 1) := by decide +kernel
theorem dX5_lookFetch_63 : decode cX5_lookFetch 63 = .ok (.iconst 1, 1) := by decide +kernel
theorem dX5_lookFetch_64 : decode cX5_lookFetch 64 = .ok (.if_icmp .ne 7, 3) := by decide +kernel
theorem dX5_lookFetch_67 : decode cX5_lookFetch 67 = .ok (.iconst 1, 1) := by decide +kernel
theorem dX5_lookFetch_68 : decode cX5_lookFetch 68 = .ok (.goto 7, 3) := by decide +kernel
theorem dX5_lookFetch_71 : decode cX5_lookFetch 71 = .ok (.aload_n 0, 1) := by decide +kernel
theorem dX5_lookFetch_72 : decode cX5_lookFetch 72 = .ok (.getfield 48, 3) := by decide +kernel
theorem dX5_lookFetch_75 : decode cX5_lookFetch 75 = .ok (.iadd, 1) := by decide +kernel
theorem dX5_lookFetch_76 : decode cX5_lookFetch 76 = .ok (.iastore, 1) := by decide +kernel
theorem dX5_lookFetch_77 : decode cX5_lookFetch 77 = .ok (.iinc 4 1, 3) := by decide +kernel
theorem dX5_lookFetch_80 : decode cX5_lookFetch 80 = .ok (.goto (-77), 3) := by decide +kernel
theorem dX5_lookFetch_83 : decode cX5_lookFetch 83 = .ok (.return_, 1) := by decide +kernel
theorem dX5_raise_0 : decode cX5_raise 0 = .ok (.iconst 0, 1) := by decide +kernel
theorem dX5_raise_1 : decode cX5_raise 1 = .ok (.istore_n 3, 1) := by decide +kernel
theorem dX5_raise_2 : decode cX5_raise 2 = .ok (.iload_n 3, 1) := by decide +kernel
theorem dX5_raise_3 : decode cX5_raise 3 = .ok (.aload_n 0, 1) := by decide +kernel
theorem dX5_raise_4 : decode cX5_raise 4 = .ok (.getfield 30, 3) := by decide +kernel
theorem dX5_raise_7 : decode cX5_raise 7 = .ok (.getfield 70, 3) := by decide +kernel
theorem dX5_raise_10 : decode cX5_raise 10 = .ok (.if_icmp .ge 33, 3) := by decide +kernel
theorem dX5_raise_13 : decode cX5_raise 13 = .ok (.iload_n 3, 1) := by decide +kernel
theorem dX5_raise_14 : decode cX5_raise 14 = .ok (.aload_n 1, 1) := by decide +kernel
theorem dX5_raise_15 : decode cX5_raise 15 = .ok (.arraylength, 1) := by decide +kernel
theorem dX5_raise_16 : decode cX5_raise 16 = .ok (.if_icmp .ge 27, 3) := by decide +kernel
theorem dX5_raise_19 : decode cX5_raise 19 = .ok (.iload_n 3, 1) := by decide +kernel
theorem dX5_raise_20 : decode cX5_raise 20 = .ok (.aload_n 2, 1) := by decide +kernel
theorem dX5_raise_21 : decode cX5_raise 21 = .ok (.arraylength, 1) := by decide +kernel
theorem dX5_raise_22 : decode cX5_raise 22 = .ok (.if_icmp .ge 21, 3) := by decide +kernel
theorem dX5_raise_25 : decode cX5_raise 25 = .ok (.aload_n 1, 1) := by decide +kernel
theorem dX5_raise_26 : decode cX5_raise 26 = .ok (.iload_n 3, 1) := by decide +kernel
theorem dX5_raise_27 : decode cX5_raise 27 = .ok (.aload_n 1, 1) := by decide +kernel
theorem dX5_raise_28 : decode cX5_raise 28 = .ok (.iload_n 3, 1) := by decide +kernel
theorem dX5_raise_29 : decode cX5_raise 29 = .ok (.iaload, 1) := by decide +kernel
theorem dX5_raise_30 : decode cX5_raise 30 = .ok (.aload_n 2, 1) := by decide +kernel
theorem dX5_raise_31 : decode cX5_raise 31 = .ok (.iload_n 3, 1) := by decide +kernel
theorem dX5_raise_32 : decode cX5_raise 32 = .ok (.iaload, 1) := by decide +kernel
theorem dX5_raise_33 : decode cX5_raise 33 = .ok (.invokestatic 133, 3) := by decide +kernel
theorem dX5_raise_36 : decode cX5_raise 36 = .ok (.iastore, 1) := by decide +kernel
theorem dX5_raise_37 : decode cX5_raise 37 = .ok (.iinc 3 1, 3) := by decide +kernel
theorem dX5_raise_40 : decode cX5_raise 40 = .ok (.goto (-38), 3) := by decide +kernel
theorem dX5_raise_43 : decode cX5_raise 43 = .ok (.return_, 1) := by decide +kernel
theorem dX5_copy_0 : decode cX5_copy 0 = .ok (.iconst 0, 1) := by decide +kernel
theorem dX5_copy_1 : decode cX5_copy 1 = .ok (.istore_n 3, 1) := by decide +kernel
theorem dX5_copy_2 : decode cX5_copy 2 = .ok (.iload_n 3, 1) := by decide +kernel
theorem dX5_copy_3 : decode cX5_copy 3 = .ok (.aload_n 0, 1) := by decide +kernel
theorem dX5_copy_4 : decode cX5_copy 4 = .ok (.getfield 30, 3) := by decide +kernel
theorem dX5_copy_7 : decode cX5_copy 7 = .ok (.getfield 70, 3) := by decide +kernel
theorem dX5_copy_10 : decode cX5_copy 10 = .ok (.if_icmp .ge 27, 3) := by decide +kernel
theorem dX5_copy_13 : decode cX5_copy 13 = .ok (.iload_n 3, 1) := by decide +kernel
theorem dX5_copy_14 : decode cX5_copy 14 = .ok (.aload_n 2, 1) := by decide +kernel
theorem dX5_copy_15 : decode cX5_copy 15 = .ok (.arraylength, 1) := by decide +kernel
theorem dX5_copy_16 : decode cX5_copy 16 = .ok (.if_icmp .ge 21, 3) := by decide +kernel
theorem dX5_copy_19 : decode cX5_copy 19 = .ok (.iload_n 3, 1) := by decide +kernel
theorem dX5_copy_20 : decode cX5_copy 20 = .ok (.aload_n 1, 1) := by decide +kernel
theorem dX5_copy_21 : decode cX5_copy 21 = .ok (.arraylength, 1) := by decide +kernel
theorem dX5_copy_22 : decode cX5_copy 22 = .ok (.if_icmp .ge 15, 3) := by decide +kernel
theorem dX5_copy_25 : decode cX5_copy 25 = .ok (.aload_n 2, 1) := by decide +kernel
theorem dX5_copy_26 : decode cX5_copy 26 = .ok (.iload_n 3, 1) := by decide +kernel
theorem dX5_copy_27 : decode cX5_copy 27 = .ok (.aload_n 1, 1) := by decide +kernel
theorem dX5_copy_28 : decode cX5_copy 28 = .ok (.iload_n 3, 1) := by decide +kernel
theorem dX5_copy_29 : decode cX5_copy 29 = .ok (.iaload, 1) := by decide +kernel
theorem dX5_copy_30 : decode cX5_copy 30 = .ok (.iastore, 1) := by decide +kernel
theorem dX5_copy_31 : decode cX5_copy 31 = .ok (.iinc 3 1, 3) := by decide +kernel
theorem dX5_copy_34 : decode cX5_copy 34 = .ok (.goto (-32), 3) := by decide +kernel
theorem dX5_copy_37 : decode cX5_copy 37 = .ok (.return_, 1) := by decide +kernel
theorem dX6_init_0 : decode cX6_init 0 = .ok (.aload_n 0, 1) := by decide +kernel
theorem dX6_init_1 : decode cX6_init 1 = .ok (.invokespecial 3, 3) := by decide +kernel
theorem dX6_init_4 : decode cX6_init 4 = .ok (.aload_n 0, 1) := by decide +kernel
theorem dX6_init_5 : decode cX6_init 5 = .ok (.aload_n 1, 1) := by decide +kernel
theorem dX6_init_6 : decode cX6_init 6 = .ok (.putfield 9, 3) := by decide +kernel
theorem dX6_init_9 : decode cX6_init 9 = .ok (.aload_n 0, 1) := by decide +kernel
theorem dX6_init_10 : decode cX6_init 10 = .ok (.aload_n 2, 1) := by decide +kernel
theorem dX6_init_11 : decode cX6_init 11 = .ok (.putfield 15, 3) := by decide +kernel
theorem dX6_init_14 : decode cX6_init 14 = .ok (.aload_n 0, 1) := by decide +kernel
theorem dX6_init_15 : decode cX6_init 15 = .ok (.aload_n 1, 1) := by decide +kernel
theorem dX6_init_16 : decode cX6_init 16 = .ok (.iconst 0, 1) := by decide +kernel
theorem dX6_init_17 : decode cX6_init 17 = .ok (.invokevirtual 19, 3) := by decide +kernel
theorem dX6_init_20 : decode cX6_init 20 = .ok (.putfield 25, 3) := by decide +kernel
theorem dX6_init_23 : decode cX6_init 23 = .ok (.return_, 1) := by decide +kernel
theorem dX6_goThrough_0 : decode cX6_goThrough 0 = .ok (.aload_n 0, 1) := by decide +kernel
theorem dX6_goThrough_1 : decode cX6_goThrough 1 = .ok (.aload_n 1, 1) := by decide +kernel
theorem dX6_goThrough_2 : decode cX6_goThrough 2 = .ok (.putfield 25, 3) := by decide +kernel
theorem dX6_goThrough_5 : decode cX6_goThrough 5 = .ok (.aload_n 0, 1) := by decide +kernel
theorem dX6_goThrough_6 : decode cX6_goThrough 6 = .ok (.iconst 0, 1) := by decide +kernel
theorem dX6_goThrough_7 : decode cX6_goThrough 7 = .ok (.putfield 29, 3) := by decide +kernel
theorem dX6_goThrough_10 : decode cX6_goThrough 10 = .ok (.aload_n 0, 1) := by decide +kernel
theorem dX6_goThrough_11 : decode cX6_goThrough 11 = .ok (.iconst 0, 1) := by decide +kernel
theorem dX6_goThrough_12 : decode cX6_goThrough 12 = .ok (.putfield 33, 3) := by decide +kernel
theorem dX6_goThrough_15 : decode cX6_goThrough 15 = .ok (.aload_n 0, 1) := by decide +kernel
theorem dX6_goThrough_16 : decode cX6_goThrough 16 = .ok (.iconst 0, 1) := by decide +kernel
theorem dX6_goThrough_17 : decode cX6_goThrough 17 = .ok (.putfield 36, 3) := by decide +kernel
theorem dX6_goThrough_20 : decode cX6_goThrough 20 = .ok (.aload_n 0, 1) := by decide +kernel
theorem dX6_goThrough_21 : decode cX6_goThrough 21 = .ok (.iconst 0, 1) := by decide +kernel
theorem dX6_goThrough_22 : decode cX6_goThrough 22 = .ok (.putfield 39, 3) := by decide +kernel
theorem dX6_goThrough_25 : decode cX6_goThrough 25 = .ok (.aload_n 0, 1) := by decide +kernel
theorem dX6_goThrough_26 : decode cX6_goThrough 26 = .ok (.iconst 0, 1) := by decide +kernel
theorem dX6_goThrough_27 : decode cX6_goThrough 27 = .ok (.putfield 42, 3) := by decide +kernel
theorem dX6_goThrough_30 : decode cX6_goThrough 30 = .ok (.aload_n 0, 1) := by decide +kernel
theorem dX6_goThrough_31 : decode cX6_goThrough 31 = .ok (.getfield 15, 3) := by decide +kernel
theorem dX6_goThrough_34 : decode cX6_goThrough 34 = .ok (.aload_n 0, 1) := by decide +kernel
theorem dX6_goThrough_35 : decode cX6_goThrough 35 = .ok (.getfield 9, 3) := by decide +kernel
theorem dX6_goThrough_38 : decode cX6_goThrough 38 = .ok (.aload_n 0, 1) := by decide +kernel
theorem dX6_goThrough_39 : decode cX6_goThrough 39 = .ok (.getfield 9, 3) := by decide +kernel
theorem dX6_goThrough_42 : decode cX6_goThrough 42 = .ok (.iconst 3, 1) := by decide +kernel
theorem dX6_goThrough_43 : decode cX6_goThrough 43 = .ok (.invokevirtual 45, 3) := by decide +kernel
theorem dX6_goThrough_46 : decode cX6_goThrough 46 = .ok (.aload_n 1, 1) := by decide +kernel
theorem dX6_goThrough_47 : decode cX6_goThrough 47 = .ok (.invokevirtual 49, 3) := by decide +kernel
theorem dX6_goThrough_50 : decode cX6_goThrough 50 = .ok (.invokevirtual 55, 3) := by decide +kernel
theorem dX6_goThrough_53 : decode cX6_goThrough 53 = .ok (.aload_n 0, 1) := by decide +kernel
theorem dX6_goThrough_54 : decode cX6_goThrough 54 = .ok (.iconst 0, 1) := by decide +kernel
theorem dX6_goThrough_55 : decode cX6_goThrough 55 = .ok (.iconst 0, 1) := by decide +kernel
theorem dX6_goThrough_56 : decode cX6_goThrough 56 = .ok (.invokevirtual 61, 3) := by decide +kernel
theorem dX6_goThrough_59 : decode cX6_goThrough 59 = .ok (.return_, 1) := by decide +kernel
theorem dX6_linesThere_0 : decode cX6_linesThere 0 = .ok (.aload_n 0, 1) := by decide +kernel
theorem dX6_linesThere_1 : decode cX6_linesThere 1 = .ok (.getfield 15, 3) := by decide +kernel
theorem dX6_linesThere_4 : decode cX6_linesThere 4 = .ok (.aload_n 0, 1) := by decide +kernel
theorem dX6_linesThere_5 : decode cX6_linesThere 5 = .ok (.getfield 42, 3) := by decide +kernel
theorem dX6_linesThere_8 : decode cX6_linesThere 8 = .ok (.invokevirtual 65, 3) := by decide +kernel
theorem dX6_linesThere_11 : decode cX6_linesThere 11 = .ok (.ireturn, 1) := by decide +kernel
theorem dX6_go_0 : decode cX6_go 0 = .ok (.iload_n 2, 1) := by decide +kernel
theorem dX6_go_1 : decode cX6_go 1 = .ok (.iconst 4, 1) := by decide +kernel
theorem dX6_go_2 : decode cX6_go 2 = .ok (.if_icmp .le 4, 3) := by decide +kernel
theorem dX6_go_5 : decode cX6_go 5 = .ok (.return_, 1) := by decide +kernel
theorem dX6_go_6 : decode cX6_go 6 = .ok (.aload_n 0, 1) := by decide +kernel
theorem dX6_go_7 : decode cX6_go 7 = .ok (.getfield 25, 3) := by decide +kernel
theorem dX6_go_10 : decode cX6_go 10 = .ok (.iload_n 1, 1) := by decide +kernel
theorem dX6_go_11 : decode cX6_go 11 = .ok (.invokevirtual 68, 3) := by decide +kernel
theorem dX6_go_14 : decode cX6_go 14 = .ok (.istore_n 3, 1) := by decide +kernel
theorem dX6_go_15 : decode cX6_go 15 = .ok (.aload_n 0, 1) := by decide +kernel
theorem dX6_go_16 : decode cX6_go 16 = .ok (.getfield 25, 3) := by decide +kernel
theorem dX6_go_19 : decode cX6_go 19 = .ok (.iload_n 1, 1) := by decide +kernel
theorem dX6_go_20 : decode cX6_go 20 = .ok (.invokevirtual 71, 3) := by decide +kernel
theorem dX6_go_23 : decode cX6_go 23 = .ok (.istore 4, 2) := by decide +kernel
theorem dX6_go_25 : decode cX6_go 25 = .ok (.aload_n 0, 1) := by decide +kernel
theorem dX6_go_26 : decode cX6_go 26 = .ok (.getfield 25, 3) := by decide +kernel
theorem dX6_go_29 : decode cX6_go 29 = .ok (.iload_n 1, 1) := by decide +kernel
theorem dX6_go_30 : decode cX6_go 30 = .ok (.invokevirtual 74, 3) := by decide +kernel
theorem dX6_go_33 : decode cX6_go 33 = .ok (.invokestatic 77, 3) := by decide +kernel
theorem dX6_go_36 : decode cX6_go 36 = .ok (.lookupswitch 129 #[(1, 28), (2, 71)], 28) := by decide +kernel
theorem dX6_go_64 : decode cX6_go 64 = .ok (.aload_n 0, 1) := by decide +kernel
theorem dX6_go_65 : decode cX6_go 65 = .ok (.aload_n 0, 1) := by decide +kernel
theorem dX6_go_66 : decode cX6_go 66 = .ok (.getfield 25, 3) := by decide +kernel
theorem dX6_go_69 : decode cX6_go 69 = .ok (.iload_n 1, 1) := by decide +kernel
theorem dX6_go_70 : decode cX6_go 70 = .ok (.invokevirtual 80, 3) := by decide +kernel
theorem dX6_go_73 : decode cX6_go 73 = .ok (.iconst 1, 1) := by decide +kernel
theorem dX6_go_74 : decode cX6_go 74 = .ok (.iadd, 1) := by decide +kernel
theorem dX6_go_75 : decode cX6_go 75 = .ok (.invokevirtual 83, 3) := by decide +kernel
theorem dX6_go_78 : decode cX6_go 78 = .ok (.istore 5, 2) := by decide +kernel
theorem dX6_go_80 : decode cX6_go 80 = .ok (.iconst 0, 1) := by decide +kernel
theorem dX6_go_81 : decode cX6_go 81 = .ok (.istore 6, 2) := by decide +kernel
theorem dX6_go_83 : decode cX6_go 83 = .ok (.iload 6, 2) := by decide +kernel
theorem dX6_go_85 : decode cX6_go 85 = .ok (.iload 5, 2) := by decide +kernel
theorem dX6_go_87 : decode cX6_go 87 = .ok (.if_icmp .ge 17, 3) := by decide +kernel
theorem dX6_go_90 : decode cX6_go 90 = .ok (.aload_n 0, 1) := by decide +kernel
theorem dX6_go_91 : decode cX6_go 91 = .ok (.iload_n 3, 1) := by decide +kernel
theorem dX6_go_92 : decode cX6_go 92 = .ok (.iload_n 2, 1) := by decide +kernel
theorem dX6_go_93 : decode cX6_go 93 = .ok (.iconst 1, 1) := by decide +kernel
theorem dX6_go_94 : decode cX6_go 94 = .ok (.iadd, 1) := by decide +kernel
theorem dX6_go_95 : decode cX6_go 95 = .ok (.invokevirtual 61, 3) := by decide +kernel
theorem dX6_go_98 : decode cX6_go 98 = .ok (.iinc 6 1, 3) := by decide +kernel
theorem dX6_go_101 : decode cX6_go 101 = .ok (.goto (-18), 3) := by decide +kernel
theorem dX6_go_104 : decode cX6_go 104 = .ok (.goto 84, 3) := by decide +kernel
theorem dX6_go_107 : decode cX6_go 107 = .ok (.aload_n 0, 1) := by decide +kernel
theorem dX6_go_108 : decode cX6_go 108 = .ok (.getfield 25, 3) := by decide +kernel
theorem dX6_go_111 : decode cX6_go 111 = .ok (.iload_n 1, 1) := by decide +kernel
theorem dX6_go_112 : decode cX6_go 112 = .ok (.invokevirtual 74, 3) := by decide +kernel
theorem dX6_go_115 : decode cX6_go 115 = .ok (.bipush 63, 2) := by decide +kernel
theorem dX6_go_117 : decode cX6_go 117 = .ok (.if_icmp .ne 28, 3) := by decide +kernel
theorem dX6_go_120 : decode cX6_go 120 = .ok (.aload_n 0, 1) := by decide +kernel
theorem dX6_go_121 : decode cX6_go 121 = .ok (.aload_n 0, 1) := by decide +kernel
theorem dX6_go_122 : decode cX6_go 122 = .ok (.invokevirtual 86, 3) := by decide +kernel
theorem dX6_go_125 : decode cX6_go 125 = .ok (.iconst 2, 1) := by decide +kernel
theorem dX6_go_126 : decode cX6_go 126 = .ok (.irem, 1) := by decide +kernel
theorem dX6_go_127 : decode cX6_go 127 = .ok (.ifCond .ne 7, 3) := by decide +kernel
theorem dX6_go_130 : decode cX6_go 130 = .ok (.iload_n 3, 1) := by decide +kernel
theorem dX6_go_131 : decode cX6_go 131 = .ok (.goto 5, 3) := by decide +kernel
theorem dX6_go_134 : decode cX6_go 134 = .ok (.iload 4, 2) := by decide +kernel
theorem dX6_go_136 : decode cX6_go 136 = .ok (.iload_n 2, 1) := by decide +kernel
theorem dX6_go_137 : decode cX6_go 137 = .ok (.iconst 1, 1) := by decide +kernel
theorem dX6_go_138 : decode cX6_go 138 = .ok (.iadd, 1) := by decide +kernel
theorem dX6_go_139 : decode cX6_go 139 = .ok (.invokevirtual 61, 3) := by decide +kernel
theorem dX6_go_142 : decode cX6_go 142 = .ok (.goto 46, 3) := by decide +kernel
theorem dX6_go_145 : decode cX6_go 145 = .ok (.aload_n 0, 1) := by decide +kernel
theorem dX6_go_146 : decode cX6_go 146 = .ok (.iload_n 3, 1) := by decide +kernel
theorem dX6_go_147 : decode cX6_go 147 = .ok (.iload_n 2, 1) := by decide +kernel
theorem dX6_go_148 : decode cX6_go 148 = .ok (.iconst 1, 1) := by decide +kernel
theorem dX6_go_149 : decode cX6_go 149 = .ok (.iadd, 1) := by decide +kernel
theorem dX6_go_150 : decode cX6_go 150 = .ok (.invokevirtual 61, 3) := by decide +kernel
theorem dX6_go_153 : decode cX6_go 153 = .ok (.aload_n 0, 1) := by decide +kernel
theorem dX6_go_154 : decode cX6_go 154 = .ok (.iload 4, 2) := by decide +kernel
theorem dX6_go_156 : decode cX6_go 156 = .ok (.iload_n 2, 1) := by decide +kernel
theorem dX6_go_157 : decode cX6_go 157 = .ok (.iconst 1, 1) := by decide +kernel
theorem dX6_go_158 : decode cX6_go 158 = .ok (.iadd, 1) := by decide +kernel
theorem dX6_go_159 : decode cX6_go 159 = .ok (.invokevirtual 61, 3) := by decide +kernel
theorem dX6_go_162 : decode cX6_go 162 = .ok (.goto 26, 3) := by decide +kernel
theorem dX6_go_165 : decode cX6_go 165 = .ok (.aload_n 0, 1) := by decide +kernel
theorem dX6_go_166 : decode cX6_go 166 = .ok (.getfield 25, 3) := by decide +kernel
theorem dX6_go_169 : decode cX6_go 169 = .ok (.iload_n 1, 1) := by decide +kernel
theorem dX6_go_170 : decode cX6_go 170 = .ok (.invokevirtual 89, 3) := by decide +kernel
theorem dX6_go_173 : decode cX6_go 173 = .ok (.ifCond .eq 15, 3) := by decide +kernel
theorem dX6_go_176 : decode cX6_go 176 = .ok (.aload_n 0, 1) := by decide +kernel
theorem dX6_go_177 : decode cX6_go 177 = .ok (.aload_n 0, 1) := by decide +kernel
theorem dX6_go_178 : decode cX6_go 178 = .ok (.getfield 25, 3) := by decide +kernel
theorem dX6_go_181 : decode cX6_go 181 = .ok (.iload_n 1, 1) := by decide +kernel
theorem dX6_go_182 : decode cX6_go 182 = .ok (.invokevirtual 93, 3) := by decide +kernel
theorem dX6_go_185 : decode cX6_go 185 = .ok (.invokevirtual 96, 3) := by decide +kernel
theorem dX6_go_188 : decode cX6_go 188 = .ok (.return_, 1) := by decide +kernel
theorem dX6_howOften_0 : decode cX6_howOften 0 = .ok (.aload_n 0, 1) := by decide +kernel
theorem dX6_howOften_1 : decode cX6_howOften 1 = .ok (.invokevirtual 86, 3) := by decide +kernel
theorem dX6_howOften_4 : decode cX6_howOften 4 = .ok (.istore_n 2, 1) := by decide +kernel
theorem dX6_howOften_5 : decode cX6_howOften 5 = .ok (.iload_n 1, 1) := by decide +kernel
theorem dX6_howOften_6 : decode cX6_howOften 6 = .ok (.ifCond .le 9, 3) := by decide +kernel
theorem dX6_howOften_9 : decode cX6_howOften 9 = .ok (.iload_n 2, 1) := by decide +kernel
theorem dX6_howOften_10 : decode cX6_howOften 10 = .ok (.iload_n 1, 1) := by decide +kernel
theorem dX6_howOften_11 : decode cX6_howOften 11 = .ok (.irem, 1) := by decide +kernel
theorem dX6_howOften_12 : decode cX6_howOften 12 = .ok (.goto 4, 3) := by decide +kernel
theorem dX6_howOften_15 : decode cX6_howOften 15 = .ok (.iconst 0, 1) := by decide +kernel
theorem dX6_howOften_16 : decode cX6_howOften 16 = .ok (.ireturn, 1) := by decide +kernel
theorem dX6_nextDigit_0 : decode cX6_nextDigit 0 = .ok (.aload_n 0, 1) := by decide +kernel
theorem dX6_nextDigit_1 : decode cX6_nextDigit 1 = .ok (.getfield 9, 3) := by decide +kernel
theorem dX6_nextDigit_4 : decode cX6_nextDigit 4 = .ok (.aload_n 0, 1) := by decide +kernel
theorem dX6_nextDigit_5 : decode cX6_nextDigit 5 = .ok (.getfield 39, 3) := by decide +kernel
theorem dX6_nextDigit_8 : decode cX6_nextDigit 8 = .ok (.invokevirtual 100, 3) := by decide +kernel
theorem dX6_nextDigit_11 : decode cX6_nextDigit 11 = .ok (.istore_n 1, 1) := by decide +kernel
theorem dX6_nextDigit_12 : decode cX6_nextDigit 12 = .ok (.aload_n 0, 1) := by decide +kernel
theorem dX6_nextDigit_13 : decode cX6_nextDigit 13 = .ok (.dup, 1) := by decide +kernel
theorem dX6_nextDigit_14 : decode cX6_nextDigit 14 = .ok (.getfield 39, 3) := by decide +kernel
theorem dX6_nextDigit_17 : decode cX6_nextDigit 17 = .ok (.iconst 1, 1) := by decide +kernel
theorem dX6_nextDigit_18 : decode cX6_nextDigit 18 = .ok (.iadd, 1) := by decide +kernel
theorem dX6_nextDigit_19 : decode cX6_nextDigit 19 = .ok (.putfield 39, 3) := by decide +kernel
theorem dX6_nextDigit_22 : decode cX6_nextDigit 22 = .ok (.iload_n 1, 1) := by decide +kernel
theorem dX6_nextDigit_23 : decode cX6_nextDigit 23 = .ok (.ireturn, 1) := by decide +kernel
theorem dX6_fetch_0 : decode cX6_fetch 0 = .ok (.aload_n 0, 1) := by decide +kernel
theorem dX6_fetch_1 : decode cX6_fetch 1 = .ok (.getfield 15, 3) := by decide +kernel
theorem dX6_fetch_4 : decode cX6_fetch 4 = .ok (.iload_n 1, 1) := by decide +kernel
theorem dX6_fetch_5 : decode cX6_fetch 5 = .ok (.aload_n 0, 1) := by decide +kernel
theorem dX6_fetch_6 : decode cX6_fetch 6 = .ok (.getfield 42, 3) := by decide +kernel
theorem dX6_fetch_9 : decode cX6_fetch 9 = .ok (.invokevirtual 103, 3) := by decide +kernel
theorem dX6_fetch_12 : decode cX6_fetch 12 = .ok (.istore_n 2, 1) := by decide +kernel
theorem dX6_fetch_13 : decode cX6_fetch 13 = .ok (.iload_n 2, 1) := by decide +kernel
theorem dX6_fetch_14 : decode cX6_fetch 14 = .ok (.iconst 1, 1) := by decide +kernel
theorem dX6_fetch_15 : decode cX6_fetch 15 = .ok (.iand, 1) := by decide +kernel
theorem dX6_fetch_16 : decode cX6_fetch 16 = .ok (.iconst 1, 1) := by decide +kernel
theorem dX6_fetch_17 : decode cX6_fetch 17 = .ok (.if_icmp .ne 7, 3) := by decide +kernel
theorem dX6_fetch_20 : decode cX6_fetch 20 = .ok (.iconst 1, 1) := by decide +kernel
theorem dX6_fetch_21 : decode cX6_fetch 21 = .ok (.goto 4, 3) := by decide +kernel
theorem dX6_fetch_24 : decode cX6_fetch 24 = .ok (.iconst 0, 1) := by decide +kernel
theorem dX6_fetch_25 : decode cX6_fetch 25 = .ok (.istore_n 3, 1) := by decide +kernel
theorem dX6_fetch_26 : decode cX6_fetch 26 = .ok (.aload_n 0, 1) := by decide +kernel
theorem dX6_fetch_27 : decode cX6_fetch 27 = .ok (.dup, 1) := by decide +kernel
theorem dX6_fetch_28 : decode cX6_fetch 28 = .ok (.getfield 33, 3) := by decide +kernel
theorem dX6_fetch_31 : decode cX6_fetch 31 = .ok (.iconst 1, 1) := by decide +kernel
theorem dX6_fetch_32 : decode cX6_fetch 32 = .ok (.iadd, 1) := by decide +kernel
theorem dX6_fetch_33 : decode cX6_fetch 33 = .ok (.putfield 33, 3) := by decide +kernel
theorem dX6_fetch_36 : decode cX6_fetch 36 = .ok (.aload_n 0, 1) := by decide +kernel
theorem dX6_fetch_37 : decode cX6_fetch 37 = .ok (.dup, 1) := by decide +kernel
theorem dX6_fetch_38 : decode cX6_fetch 38 = .ok (.getfield 36, 3) := by decide +kernel
theorem dX6_fetch_41 : decode cX6_fetch 41 = .ok (.iload_n 3, 1) := by decide +kernel
theorem dX6_fetch_42 : decode cX6_fetch 42 = .ok (.ifCond .eq 7, 3) := by decide +kernel
theorem dX6_fetch_45 : decode cX6_fetch 45 = .ok (.iconst 0, 1) := by decide +kernel
theorem dX6_fetch_46 : decode cX6_fetch 46 = .ok (.goto 4, 3) := by decide +kernel
theorem dX6_fetch_49 : decode cX6_fetch 49 = .ok (.iconst 1, 1) := by decide +kernel
theorem dX6_fetch_50 : decode cX6_fetch 50 = .ok (.iadd, 1) := by decide +kernel
theorem dX6_fetch_51 : decode cX6_fetch 51 = .ok (.putfield 36, 3) := by decide +kernel
theorem dX6_fetch_54 : decode cX6_fetch 54 = .ok (.aload_n 0, 1) := by decide +kernel
theorem dX6_fetch_55 : decode cX6_fetch 55 = .ok (.dup, 1) := by decide +kernel
theorem dX6_fetch_56 : decode cX6_fetch 56 = .ok (.getfield 29, 3) := by decide +kernel
theorem dX6_fetch_59 : decode cX6_fetch 59 = .ok (.iload_n 3, 1) := by decide +kernel
theorem dX6_fetch_60 : decode cX6_fetch 60 = .ok (.ifCond .eq 7, 3) := by decide +kernel
theorem dX6_fetch_63 : decode cX6_fetch 63 = .ok (.iconst 1, 1) := by decide +kernel
theorem dX6_fetch_64 : decode cX6_fetch 64 = .ok (.goto 11, 3) := by decide +kernel
theorem dX6_fetch_67 : decode cX6_fetch 67 = .ok (.aload_n 0, 1) := by decide +kernel
theorem dX6_fetch_68 : decode cX6_fetch 68 = .ok (.getfield 9, 3) := by decide +kernel
theorem dX6_fetch_71 : decode cX6_fetch 71 = .ok (.iconst 2, 1) := by decide +kernel
theorem dX6_fetch_72 : decode cX6_fetch 72 = .ok (.invokevirtual 45, 3) := by decide +kernel
theorem dX6_fetch_75 : decode cX6_fetch 75 = .ok (.iadd, 1) := by decide +kernel
theorem dX6_fetch_76 : decode cX6_fetch 76 = .ok (.putfield 29, 3) := by decide +kernel
theorem dX6_fetch_79 : decode cX6_fetch 79 = .ok (.aload_n 0, 1) := by decide +kernel
theorem dX6_fetch_80 : decode cX6_fetch 80 = .ok (.iload_n 2, 1) := by decide +kernel
theorem dX6_fetch_81 : decode cX6_fetch 81 = .ok (.iconst 1, 1) := by decide +kernel
theorem dX6_fetch_82 : decode cX6_fetch 82 = .ok (.ishr, 1) := by decide +kernel
theorem dX6_fetch_83 : decode cX6_fetch 83 = .ok (.putfield 42, 3) := by decide +kernel
theorem dX6_fetch_86 : decode cX6_fetch 86 = .ok (.return_, 1) := by decide +kernel
theorem dX7_init_0 : decode cX7_init 0 = .ok (.aload_n 0, 1) := by decide +kernel
theorem dX7_init_1 : decode cX7_init 1 = .ok (.invokespecial 3, 3) := by decide +kernel
theorem dX7_init_4 : decode cX7_init 4 = .ok (.aload_n 0, 1) := by decide +kernel
theorem dX7_init_5 : decode cX7_init 5 = .ok (.bipush 8, 2) := by decide +kernel
theorem dX7_init_7 : decode cX7_init 7 = .ok (.newarray .int, 2) := by decide +kernel
theorem dX7_init_9 : decode cX7_init 9 = .ok (.putfield 9, 3) := by decide +kernel
theorem dX7_init_12 : decode cX7_init 12 = .ok (.aload_n 0, 1) := by decide +kernel
theorem dX7_init_13 : decode cX7_init 13 = .ok (.bipush 8, 2) := by decide +kernel
theorem dX7_init_15 : decode cX7_init 15 = .ok (.newarray .int, 2) := by decide +kernel
theorem dX7_init_17 : decode cX7_init 17 = .ok (.putfield 15, 3) := by decide +kernel
theorem dX7_init_20 : decode cX7_init 20 = .ok (.aload_n 0, 1) := by decide +kernel
theorem dX7_init_21 : decode cX7_init 21 = .ok (.iconst 4, 1) := by decide +kernel
theorem dX7_init_22 : decode cX7_init 22 = .ok (.newarray .int, 2) := by decide +kernel
theorem dX7_init_24 : decode cX7_init 24 = .ok (.putfield 18, 3) := by decide +kernel
theorem dX7_init_27 : decode cX7_init 27 = .ok (.aload_n 0, 1) := by decide +kernel
theorem dX7_init_28 : decode cX7_init 28 = .ok (.iconst 4, 1) := by decide +kernel
theorem dX7_init_29 : decode cX7_init 29 = .ok (.newarray .int, 2) := by decide +kernel
theorem dX7_init_31 : decode cX7_init 31 = .ok (.putfield 21, 3) := by decide +kernel
theorem dX7_init_34 : decode cX7_init 34 = .ok (.aload_n 0, 1) := by decide +kernel
theorem dX7_init_35 : decode cX7_init 35 = .ok (.iconst 4, 1) := by decide +kernel
theorem dX7_init_36 : decode cX7_init 36 = .ok (.newarray .int, 2) := by decide +kernel
theorem dX7_init_38 : decode cX7_init 38 = .ok (.putfield 24, 3) := by decide +kernel
theorem dX7_init_41 : decode cX7_init 41 = .ok (.aload_n 0, 1) := by decide +kernel
theorem dX7_init_42 : decode cX7_init 42 = .ok (.iconst 4, 1) := by decide +kernel
theorem dX7_init_43 : decode cX7_init 43 = .ok (.newarray .int, 2) := by decide +kernel
theorem dX7_init_45 : decode cX7_init 45 = .ok (.putfield 27, 3) := by decide +kernel
theorem dX7_init_48 : decode cX7_init 48 = .ok (.aload_n 0, 1) := by decide +kernel
theorem dX7_init_49 : decode cX7_init 49 = .ok (.bipush 8, 2) := by decide +kernel
theorem dX7_init_51 : decode cX7_init 51 = .ok (.bipush 65, 2) := by decide +kernel
theorem dX7_init_53 : decode cX7_init 53 = .ok (.multianewarray 30 2, 4) := by decide +kernel
theorem dX7_init_57 : decode cX7_init 57 = .ok (.putfield 32, 3) := by decide +kernel
theorem dX7_init_60 : decode cX7_init 60 = .ok (.return_, 1) := by decide +kernel
theorem dX7_lay_0 : decode cX7_lay 0 = .ok (.aload_n 0, 1) := by decide +kernel
theorem dX7_lay_1 : decode cX7_lay 1 = .ok (.iload_n 2, 1) := by decide +kernel
theorem dX7_lay_2 : decode cX7_lay 2 = .ok (.putfield 35, 3) := by decide +kernel
theorem dX7_lay_5 : decode cX7_lay 5 = .ok (.aload_n 0, 1) := by decide +kernel
theorem dX7_lay_6 : decode cX7_lay 6 = .ok (.iload_n 3, 1) := by decide +kernel
theorem dX7_lay_7 : decode cX7_lay 7 = .ok (.putfield 39, 3) := by decide +kernel
theorem dX7_lay_10 : decode cX7_lay 10 = .ok (.iconst 0, 1) := by decide +kernel
theorem dX7_lay_11 : decode cX7_lay 11 = .ok (.istore 4, 2) := by decide +kernel
theorem dX7_lay_13 : decode cX7_lay 13 = .ok (.iload 4, 2) := by decide +kernel
theorem dX7_lay_15 : decode cX7_lay 15 = .ok (.iconst 4, 1) := by decide +kernel
theorem dX7_lay_16 : decode cX7_lay 16 = .ok (.if_icmp .ge 29, 3) := by decide +kernel
theorem dX7_lay_19 : decode cX7_lay 19 = .ok (.aload_n 0, 1) := by decide +kernel
theorem dX7_lay_20 : decode cX7_lay 20 = .ok (.getfield 18, 3) := by decide +kernel
theorem dX7_lay_23 : decode cX7_lay 23 = .ok (.iload 4, 2) := by decide +kernel
theorem dX7_lay_25 : decode cX7_lay 25 = .ok (.aload_n 1, 1) := by decide +kernel
theorem dX7_lay_26 : decode cX7_lay 26 = .ok (.iconst 1, 1) := by decide +kernel
theorem dX7_lay_27 : decode cX7_lay 27 = .ok (.invokevirtual 42, 3) := by decide +kernel
theorem dX7_lay_30 : decode cX7_lay 30 = .ok (.iastore, 1) := by decide +kernel
theorem dX7_lay_31 : decode cX7_lay 31 = .ok (.aload_n 0, 1) := by decide +kernel
theorem dX7_lay_32 : decode cX7_lay 32 = .ok (.getfield 21, 3) := by decide +kernel
theorem dX7_lay_35 : decode cX7_lay 35 = .ok (.iload 4, 2) := by decide +kernel
theorem dX7_lay_37 : decode cX7_lay 37 = .ok (.iconst 0, 1) := by decide +kernel
theorem dX7_lay_38 : decode cX7_lay 38 = .ok (.iastore, 1) := by decide +kernel
theorem dX7_lay_39 : decode cX7_lay 39 = .ok (.iinc 4 1, 3) := by decide +kernel
theorem dX7_lay_42 : decode cX7_lay 42 = .ok (.goto (-29), 3) := by decide +kernel
theorem dX7_lay_45 : decode cX7_lay 45 = .ok (.iconst 0, 1) := by decide +kernel
theorem dX7_lay_46 : decode cX7_lay 46 = .ok (.istore 4, 2) := by decide +kernel
theorem dX7_lay_48 : decode cX7_lay 48 = .ok (.iload 4, 2) := by decide +kernel
theorem dX7_lay_50 : decode cX7_lay 50 = .ok (.bipush 8, 2) := by decide +kernel
theorem dX7_lay_52 : decode cX7_lay 52 = .ok (.if_icmp .ge 25, 3) := by decide +kernel
theorem dX7_lay_55 : decode cX7_lay 55 = .ok (.aload_n 0, 1) := by decide +kernel
theorem dX7_lay_56 : decode cX7_lay 56 = .ok (.iload 4, 2) := by decide +kernel
theorem dX7_lay_58 : decode cX7_lay 58 = .ok (.iload 4, 2) := by decide +kernel
theorem dX7_lay_60 : decode cX7_lay 60 = .ok (.aload_n 1, 1) := by decide +kernel
theorem dX7_lay_61 : decode cX7_lay 61 = .ok (.iconst 0, 1) := by decide +kernel
theorem dX7_lay_62 : decode cX7_lay 62 = .ok (.invokevirtual 42, 3) := by decide +kernel
theorem dX7_lay_65 : decode cX7_lay 65 = .ok (.invokestatic 48, 3) := by decide +kernel
theorem dX7_lay_68 : decode cX7_lay 68 = .ok (.invokevirtual 52, 3) := by decide +kernel
theorem dX7_lay_71 : decode cX7_lay 71 = .ok (.iinc 4 1, 3) := by decide +kernel
theorem dX7_lay_74 : decode cX7_lay 74 = .ok (.goto (-26), 3) := by decide +kernel
theorem dX7_lay_77 : decode cX7_lay 77 = .ok (.aload_n 0, 1) := by decide +kernel
theorem dX7_lay_78 : decode cX7_lay 78 = .ok (.iconst 1, 1) := by decide +kernel
theorem dX7_lay_79 : decode cX7_lay 79 = .ok (.putfield 56, 3) := by decide +kernel
theorem dX7_lay_82 : decode cX7_lay 82 = .ok (.iconst 0, 1) := by decide +kernel
theorem dX7_lay_83 : decode cX7_lay 83 = .ok (.istore 4, 2) := by decide +kernel
theorem dX7_lay_85 : decode cX7_lay 85 = .ok (.iload 4, 2) := by decide +kernel
theorem dX7_lay_87 : decode cX7_lay 87 = .ok (.iconst 4, 1) := by decide +kernel
theorem dX7_lay_88 : decode cX7_lay 88 = .ok (.if_icmp .ge 60, 3) := by decide +kernel
theorem dX7_lay_91 : decode cX7_lay 91 = .ok (.aload_n 0, 1) := by decide +kernel
theorem dX7_lay_92 : decode cX7_lay 92 = .ok (.getfield 27, 3) := by decide +kernel
theorem dX7_lay_95 : decode cX7_lay 95 = .ok (.iload 4, 2) := by decide +kernel
theorem dX7_lay_97 : decode cX7_lay 97 = .ok (.aload_n 0, 1) := by decide +kernel
theorem dX7_lay_98 : decode cX7_lay 98 = .ok (.getfield 56, 3) := by decide +kernel
theorem dX7_lay_101 : decode cX7_lay 101 = .ok (.iastore, 1) := by decide +kernel
theorem dX7_lay_102 : decode cX7_lay 102 = .ok (.aload_n 0, 1) := by decide +kernel
theorem dX7_lay_103 : decode cX7_lay 103 = .ok (.getfield 24, 3) := by decide +kernel
theorem dX7_lay_106 : decode cX7_lay 106 = .ok (.iload 4, 2) := by decide +kernel
theorem dX7_lay_108 : decode cX7_lay 108 = .ok (.aload_n 0, 1) := by decide +kernel
theorem dX7_lay_109 : decode cX7_lay 109 = .ok (.getfield 18, 3) := by decide +kernel
theorem dX7_lay_112 : decode cX7_lay 112 = .ok (.iload 4, 2) := by decide +kernel
theorem dX7_lay_114 : decode cX7_lay 114 = .ok (.iaload, 1) := by decide +kernel
theorem dX7_lay_115 : decode cX7_lay 115 = .ok (.aload_n 0, 1) := by decide +kernel
theorem dX7_lay_116 : decode cX7_lay 116 = .ok (.getfield 21, 3) := by decide +kernel
theorem dX7_lay_119 : decode cX7_lay 119 = .ok (.iload 4, 2) := by decide +kernel
theorem dX7_lay_121 : decode cX7_lay 121 = .ok (.iaload, 1) := by decide +kernel
theorem dX7_lay_122 : decode cX7_lay 122 = .ok (.invokestatic 59, 3) := by decide +kernel
theorem dX7_lay_125 : decode cX7_lay 125 = .ok (.iastore, 1) := by decide +kernel
theorem dX7_lay_126 : decode cX7_lay 126 = .ok (.aload_n 0, 1) := by decide +kernel
theorem dX7_lay_127 : decode cX7_lay 127 = .ok (.dup, 1) := by decide +kernel
theorem dX7_lay_128 : decode cX7_lay 128 = .ok (.getfield 56, 3) := by decide +kernel
theorem dX7_lay_131 : decode cX7_lay 131 = .ok (.aload_n 0, 1) := by decide +kernel
theorem dX7_lay_132 : decode cX7_lay 132 = .ok (.getfield 24, 3) := by decide +kernel
theorem dX7_lay_135 : decode cX7_lay 135 = .ok (.iload 4, 2) := by decide +kernel
theorem dX7_lay_137 : decode cX7_lay 137 = .ok (.iaload, 1) := by decide +kernel
theorem dX7_lay_138 : decode cX7_lay 138 = .ok (.imul, 1) := by decide +kernel
theorem dX7_lay_139 : decode cX7_lay 139 = .ok (.putfield 56, 3) := by decide +kernel
theorem dX7_lay_142 : decode cX7_lay 142 = .ok (.iinc 4 1, 3) := by decide +kernel
theorem dX7_lay_145 : decode cX7_lay 145 = .ok (.goto (-60), 3) := by decide +kernel
theorem dX7_lay_148 : decode cX7_lay 148 = .ok (.iconst 0, 1) := by decide +kernel
theorem dX7_lay_149 : decode cX7_lay 149 = .ok (.istore 4, 2) := by decide +kernel
theorem dX7_lay_151 : decode cX7_lay 151 = .ok (.iload 4, 2) := by decide +kernel
theorem dX7_lay_153 : decode cX7_lay 153 = .ok (.bipush 8, 2) := by decide +kernel
theorem dX7_lay_155 : decode cX7_lay 155 = .ok (.if_icmp .ge 24, 3) := by decide +kernel
theorem dX7_lay_158 : decode cX7_lay 158 = .ok (.iload_n 3, 1) := by decide +kernel
theorem dX7_lay_159 : decode cX7_lay 159 = .ok (.iload 4, 2) := by decide +kernel
theorem dX7_lay_161 : decode cX7_lay 161 = .ok (.invokestatic 62, 3) := by decide +kernel
theorem dX7_lay_164 : decode cX7_lay 164 = .ok (.ifCond .eq 9, 3) := by decide +kernel
theorem dX7_lay_167 : decode cX7_lay 167 = .ok (.aload_n 0, 1) := by decide +kernel
theorem dX7_lay_168 : decode cX7_lay 168 = .ok (.iload 4, 2) := by decide +kernel
theorem dX7_lay_170 : decode cX7_lay 170 = .ok (.invokevirtual 66, 3) := by decide +kernel
theorem dX7_lay_173 : decode cX7_lay 173 = .ok (.iinc 4 1, 3) := by decide +kernel
theorem dX7_lay_176 : decode cX7_lay 176 = .ok (.goto (-25), 3) := by decide +kernel
theorem dX7_lay_179 : decode cX7_lay 179 = .ok (.return_, 1) := by decide +kernel
theorem dX7_enrol_0 : decode cX7_enrol 0 = .ok (.iload_n 1, 1) := by decide +kernel
theorem dX7_enrol_1 : decode cX7_enrol 1 = .ok (.ifCond .lt 18, 3) := by decide +kernel
theorem dX7_enrol_4 : decode cX7_enrol 4 = .ok (.iload_n 1, 1) := by decide +kernel
theorem dX7_enrol_5 : decode cX7_enrol 5 = .ok (.bipush 8, 2) := by decide +kernel
theorem dX7_enrol_7 : decode cX7_enrol 7 = .ok (.if_icmp .ge 12, 3) := by decide +kernel
theorem dX7_enrol_10 : decode cX7_enrol 10 = .ok (.iload_n 2, 1) := by decide +kernel
theorem dX7_enrol_11 : decode cX7_enrol 11 = .ok (.ifCond .lt 8, 3) := by decide +kernel
theorem dX7_enrol_14 : decode cX7_enrol 14 = .ok (.iload_n 2, 1) := by decide +kernel
theorem dX7_enrol_15 : decode cX7_enrol 15 = .ok (.iconst 4, 1) := by decide +kernel
theorem dX7_enrol_16 : decode cX7_enrol 16 = .ok (.if_icmp .lt 4, 3) := by decide +kernel
theorem dX7_enrol_19 : decode cX7_enrol 19 = .ok (.return_, 1) := by decide +kernel
theorem dX7_enrol_20 : decode cX7_enrol 20 = .ok (.aload_n 0, 1) := by decide +kernel
theorem dX7_enrol_21 : decode cX7_enrol 21 = .ok (.getfield 9, 3) := by decide +kernel
theorem dX7_enrol_24 : decode cX7_enrol 24 = .ok (.iload_n 1, 1) := by decide +kernel
theorem dX7_enrol_25 : decode cX7_enrol 25 = .ok (.iload_n 2, 1) := by decide +kernel
theorem dX7_enrol_26 : decode cX7_enrol 26 = .ok (.iastore, 1) := by decide +kernel
theorem dX7_enrol_27 : decode cX7_enrol 27 = .ok (.aload_n 0, 1) := by decide +kernel
theorem dX7_enrol_28 : decode cX7_enrol 28 = .ok (.getfield 15, 3) := by decide +kernel
theorem dX7_enrol_31 : decode cX7_enrol 31 = .ok (.iload_n 1, 1) := by decide +kernel
theorem dX7_enrol_32 : decode cX7_enrol 32 = .ok (.iconst (-1), 1) := by decide +kernel
theorem dX7_enrol_33 : decode cX7_enrol 33 = .ok (.iastore, 1) := by decide +kernel
theorem dX7_enrol_34 : decode cX7_enrol 34 = .ok (.aload_n 0, 1) := by decide +kernel
theorem dX7_enrol_35 : decode cX7_enrol 35 = .ok (.getfield 35, 3) := by decide +kernel
theorem dX7_enrol_38 : decode cX7_enrol 38 = .ok (.iload_n 1, 1) := by decide +kernel
theorem dX7_enrol_39 : decode cX7_enrol 39 = .ok (.invokestatic 62, 3) := by decide +kernel
theorem dX7_enrol_42 : decode cX7_enrol 42 = .ok (.ifCond .eq 16, 3) := by decide +kernel
theorem dX7_enrol_45 : decode cX7_enrol 45 = .ok (.aload_n 0, 1) := by decide +kernel
theorem dX7_enrol_46 : decode cX7_enrol 46 = .ok (.getfield 18, 3) := by decide +kernel
theorem dX7_enrol_49 : decode cX7_enrol 49 = .ok (.iload_n 2, 1) := by decide +kernel
theorem dX7_enrol_50 : decode cX7_enrol 50 = .ok (.dup2, 1) := by decide +kernel
theorem dX7_enrol_51 : decode cX7_enrol 51 = .ok (.iaload, 1) := by decide +kernel
theorem dX7_enrol_52 : decode cX7_enrol 52 = .ok (.iconst 1, 1) := by decide +kernel
theorem dX7_enrol_53 : decode cX7_enrol 53 = .ok (.isub, 1) := by decide +kernel
theorem dX7_enrol_54 : decode cX7_enrol 54 = .ok (.iastore, 1) := by decide +kernel
theorem dX7_enrol_55 : decode cX7_enrol 55 = .ok (.goto 36, 3) := by decide +kernel
theorem dX7_enrol_58 : decode cX7_enrol 58 = .ok (.aload_n 0, 1) := by decide +kernel
theorem dX7_enrol_59 : decode cX7_enrol 59 = .ok (.getfield 39, 3) := by decide +kernel
theorem dX7_enrol_62 : decode cX7_enrol 62 = .ok (.iload_n 1, 1) := by decide +kernel
theorem dX7_enrol_63 : decode cX7_enrol 63 = .ok (.invokestatic 62, 3) := by decide +kernel
theorem dX7_enrol_66 : decode cX7_enrol 66 = .ok (.ifCond .eq 25, 3) := by decide +kernel
theorem dX7_enrol_69 : decode cX7_enrol 69 = .ok (.aload_n 0, 1) := by decide +kernel
theorem dX7_enrol_70 : decode cX7_enrol 70 = .ok (.getfield 15, 3) := by decide +kernel
theorem dX7_enrol_73 : decode cX7_enrol 73 = .ok (.iload_n 1, 1) := by decide +kernel
theorem dX7_enrol_74 : decode cX7_enrol 74 = .ok (.aload_n 0, 1) := by decide +kernel
theorem dX7_enrol_75 : decode cX7_enrol 75 = .ok (.getfield 21, 3) := by decide +kernel
theorem dX7_enrol_78 : decode cX7_enrol 78 = .ok (.iload_n 2, 1) := by decide +kernel
theorem dX7_enrol_79 : decode cX7_enrol 79 = .ok (.iaload, 1) := by decide +kernel
theorem dX7_enrol_80 : decode cX7_enrol 80 = .ok (.iastore, 1) := by decide +kernel
theorem dX7_enrol_81 : decode cX7_enrol 81 = .ok (.aload_n 0, 1) := by decide +kernel
theorem dX7_enrol_82 : decode cX7_enrol 82 = .ok (.getfield 21, 3) := by decide +kernel
theorem dX7_enrol_85 : decode cX7_enrol 85 = .ok (.iload_n 2, 1) := by decide +kernel
theorem dX7_enrol_86 : decode cX7_enrol 86 = .ok (.dup2, 1) := by decide +kernel
theorem dX7_enrol_87 : decode cX7_enrol 87 = .ok (.iaload, 1) := by decide +kernel
theorem dX7_enrol_88 : decode cX7_enrol 88 = .ok (.iconst 1, 1) := by decide +kernel
theorem dX7_enrol_89 : decode cX7_enrol 89 = .ok (.iadd, 1) := by decide +kernel
theorem dX7_enrol_90 : decode cX7_enrol 90 = .ok (.iastore, 1) := by decide +kernel
theorem dX7_enrol_91 : decode cX7_enrol 91 = .ok (.return_, 1) := by decide +kernel
theorem dX7_looksOf_0 : decode cX7_looksOf 0 = .ok (.iload_n 0, 1) := by decide +kernel
theorem dX7_looksOf_1 : decode cX7_looksOf 1 = .ok (.lookupswitch 37 #[(1, 27), (2, 31)], 27) := by decide +kernel
theorem dX7_looksOf_28 : decode cX7_looksOf 28 = .ok (.iconst 1, 1) := by decide +kernel
theorem dX7_looksOf_29 : decode cX7_looksOf 29 = .ok (.iload_n 1, 1) := by decide +kernel
theorem dX7_looksOf_30 : decode cX7_looksOf 30 = .ok (.iadd, 1) := by decide +kernel
theorem dX7_looksOf_31 : decode cX7_looksOf 31 = .ok (.ireturn, 1) := by decide +kernel
theorem dX7_looksOf_32 : decode cX7_looksOf 32 = .ok (.iconst 1, 1) := by decide +kernel
theorem dX7_looksOf_33 : decode cX7_looksOf 33 = .ok (.iload_n 1, 1) := by decide +kernel
theorem dX7_looksOf_34 : decode cX7_looksOf 34 = .ok (.iload_n 1, 1) := by decide +kernel
theorem dX7_looksOf_35 : decode cX7_looksOf 35 = .ok (.imul, 1) := by decide +kernel
theorem dX7_looksOf_36 : decode cX7_looksOf 36 = .ok (.iadd, 1) := by decide +kernel
theorem dX7_looksOf_37 : decode cX7_looksOf 37 = .ok (.ireturn, 1) := by decide +kernel
theorem dX7_looksOf_38 : decode cX7_looksOf 38 = .ok (.iconst 1, 1) := by decide +kernel
theorem dX7_looksOf_39 : decode cX7_looksOf 39 = .ok (.ireturn, 1) := by decide +kernel
theorem dX7_fillMoves_0 : decode cX7_fillMoves 0 = .ok (.aload_n 0, 1) := by decide +kernel
theorem dX7_fillMoves_1 : decode cX7_fillMoves 1 = .ok (.getfield 32, 3) := by decide +kernel
theorem dX7_fillMoves_4 : decode cX7_fillMoves 4 = .ok (.iload_n 1, 1) := by decide +kernel
theorem dX7_fillMoves_5 : decode cX7_fillMoves 5 = .ok (.aaload, 1) := by decide +kernel
theorem dX7_fillMoves_6 : decode cX7_fillMoves 6 = .ok (.astore_n 2, 1) := by decide +kernel
theorem dX7_fillMoves_7 : decode cX7_fillMoves 7 = .ok (.aload_n 0, 1) := by decide +kernel
theorem dX7_fillMoves_8 : decode cX7_fillMoves 8 = .ok (.getfield 9, 3) := by decide +kernel
theorem dX7_fillMoves_11 : decode cX7_fillMoves 11 = .ok (.iload_n 1, 1) := by decide +kernel
theorem dX7_fillMoves_12 : decode cX7_fillMoves 12 = .ok (.iaload, 1) := by decide +kernel
theorem dX7_fillMoves_13 : decode cX7_fillMoves 13 = .ok (.istore_n 3, 1) := by decide +kernel
theorem dX7_fillMoves_14 : decode cX7_fillMoves 14 = .ok (.iconst 0, 1) := by decide +kernel
theorem dX7_fillMoves_15 : decode cX7_fillMoves 15 = .ok (.istore 4, 2) := by decide +kernel
theorem dX7_fillMoves_17 : decode cX7_fillMoves 17 = .ok (.iload 4, 2) := by decide +kernel
theorem dX7_fillMoves_19 : decode cX7_fillMoves 19 = .ok (.aload_n 0, 1) := by decide +kernel
theorem dX7_fillMoves_20 : decode cX7_fillMoves 20 = .ok (.getfield 24, 3) := by decide +kernel
theorem dX7_fillMoves_23 : decode cX7_fillMoves 23 = .ok (.iload_n 3, 1) := by decide +kernel
theorem dX7_fillMoves_24 : decode cX7_fillMoves 24 = .ok (.iaload, 1) := by decide +kernel
theorem dX7_fillMoves_25 : decode cX7_fillMoves 25 = .ok (.if_icmp .ge 78, 3) := by decide +kernel
theorem dX7_fillMoves_28 : decode cX7_fillMoves 28 = .ok (.iload 4, 2) := by decide +kernel
theorem dX7_fillMoves_30 : decode cX7_fillMoves 30 = .ok (.aload_n 2, 1) := by decide +kernel
theorem dX7_fillMoves_31 : decode cX7_fillMoves 31 = .ok (.arraylength, 1) := by decide +kernel
theorem dX7_fillMoves_32 : decode cX7_fillMoves 32 = .ok (.if_icmp .ge 71, 3) := by decide +kernel
theorem dX7_fillMoves_35 : decode cX7_fillMoves 35 = .ok (.aload_n 0, 1) := by decide +kernel
theorem dX7_fillMoves_36 : decode cX7_fillMoves 36 = .ok (.getfield 35, 3) := by decide +kernel
theorem dX7_fillMoves_39 : decode cX7_fillMoves 39 = .ok (.iload_n 1, 1) := by decide +kernel
theorem dX7_fillMoves_40 : decode cX7_fillMoves 40 = .ok (.invokestatic 62, 3) := by decide +kernel
theorem dX7_fillMoves_43 : decode cX7_fillMoves 43 = .ok (.ifCond .eq 11, 3) := by decide +kernel
theorem dX7_fillMoves_46 : decode cX7_fillMoves 46 = .ok (.aload_n 2, 1) := by decide +kernel
theorem dX7_fillMoves_47 : decode cX7_fillMoves 47 = .ok (.iload 4, 2) := by decide +kernel
theorem dX7_fillMoves_49 : decode cX7_fillMoves 49 = .ok (.iconst 1, 1) := by decide +kernel
theorem dX7_fillMoves_50 : decode cX7_fillMoves 50 = .ok (.iastore, 1) := by decide +kernel
theorem dX7_fillMoves_51 : decode cX7_fillMoves 51 = .ok (.goto 46, 3) := by decide +kernel
theorem dX7_fillMoves_54 : decode cX7_fillMoves 54 = .ok (.aload_n 0, 1) := by decide +kernel
theorem dX7_fillMoves_55 : decode cX7_fillMoves 55 = .ok (.iload_n 1, 1) := by decide +kernel
theorem dX7_fillMoves_56 : decode cX7_fillMoves 56 = .ok (.iload 4, 2) := by decide +kernel
theorem dX7_fillMoves_58 : decode cX7_fillMoves 58 = .ok (.invokevirtual 70, 3) := by decide +kernel
theorem dX7_fillMoves_61 : decode cX7_fillMoves 61 = .ok (.iload 4, 2) := by decide +kernel
theorem dX7_fillMoves_63 : decode cX7_fillMoves 63 = .ok (.isub, 1) := by decide +kernel
theorem dX7_fillMoves_64 : decode cX7_fillMoves 64 = .ok (.aload_n 0, 1) := by decide +kernel
theorem dX7_fillMoves_65 : decode cX7_fillMoves 65 = .ok (.getfield 27, 3) := by decide +kernel
theorem dX7_fillMoves_68 : decode cX7_fillMoves 68 = .ok (.iload_n 3, 1) := by decide +kernel
theorem dX7_fillMoves_69 : decode cX7_fillMoves 69 = .ok (.iaload, 1) := by decide +kernel
theorem dX7_fillMoves_70 : decode cX7_fillMoves 70 = .ok (.imul, 1) := by decide +kernel
theorem dX7_fillMoves_71 : decode cX7_fillMoves 71 = .ok (.istore 5, 2) := by decide +kernel
theorem dX7_fillMoves_73 : decode cX7_fillMoves 73 = .ok (.aload_n 2, 1) := by decide +kernel
theorem dX7_fillMoves_74 : decode cX7_fillMoves 74 = .ok (.iload 4, 2) := by decide +kernel
theorem dX7_fillMoves_76 : decode cX7_fillMoves 76 = .ok (.iconst 2, 1) := by decide +kernel
theorem dX7_fillMoves_77 : decode cX7_fillMoves 77 = .ok (.iload 5, 2) := by decide +kernel
theorem dX7_fillMoves_79 : decode cX7_fillMoves 79 = .ok (.imul, 1) := by decide +kernel
theorem dX7_fillMoves_80 : decode cX7_fillMoves 80 = .ok (.aload_n 0, 1) := by decide +kernel
theorem dX7_fillMoves_81 : decode cX7_fillMoves 81 = .ok (.iload_n 1, 1) := by decide +kernel
theorem dX7_fillMoves_82 : decode cX7_fillMoves 82 = .ok (.iload 4, 2) := by decide +kernel
theorem dX7_fillMoves_84 : decode cX7_fillMoves 84 = .ok (.invokevirtual 73, 3) := by decide +kernel
theorem dX7_fillMoves_87 : decode cX7_fillMoves 87 = .ok (.ifCond .eq 7, 3) := by decide +kernel
theorem dX7_fillMoves_90 : decode cX7_fillMoves 90 = .ok (.iconst 1, 1) := by decide +kernel
theorem dX7_fillMoves_91 : decode cX7_fillMoves 91 = .ok (.goto 4, 3) := by decide +kernel
theorem dX7_fillMoves_94 : decode cX7_fillMoves 94 = .ok (.iconst 0, 1) := by decide +kernel
theorem dX7_fillMoves_95 : decode cX7_fillMoves 95 = .ok (.iadd, 1) := by decide +kernel
theorem dX7_fillMoves_96 : decode cX7_fillMoves 96 = .ok (.iastore, 1) := by decide +kernel
theorem dX7_fillMoves_97 : decode cX7_fillMoves 97 = .ok (.iinc 4 1, 3) := by decide +kernel
theorem dX7_fillMoves_100 : decode cX7_fillMoves 100 = .ok (.goto (-83), 3) := by decide +kernel
theorem dX7_fillMoves_103 : decode cX7_fillMoves 103 = .ok (.return_, 1) := by decide +kernel
theorem dX7_nextLook_0 : decode cX7_nextLook 0 = .ok (.aload_n 0, 1) := by decide +kernel
theorem dX7_nextLook_1 : decode cX7_nextLook 1 = .ok (.getfield 9, 3) := by decide +kernel
theorem dX7_nextLook_4 : decode cX7_nextLook 4 = .ok (.iload_n 1, 1) := by decide +kernel
theorem dX7_nextLook_5 : decode cX7_nextLook 5 = .ok (.iaload, 1) := by decide +kernel
theorem dX7_nextLook_6 : decode cX7_nextLook 6 = .ok (.istore_n 3, 1) := by decide +kernel
theorem dX7_nextLook_7 : decode cX7_nextLook 7 = .ok (.aload_n 0, 1) := by decide +kernel
theorem dX7_nextLook_8 : decode cX7_nextLook 8 = .ok (.getfield 15, 3) := by decide +kernel
theorem dX7_nextLook_11 : decode cX7_nextLook 11 = .ok (.iload_n 1, 1) := by decide +kernel
theorem dX7_nextLook_12 : decode cX7_nextLook 12 = .ok (.iaload, 1) := by decide +kernel
theorem dX7_nextLook_13 : decode cX7_nextLook 13 = .ok (.istore 4, 2) := by decide +kernel
theorem dX7_nextLook_15 : decode cX7_nextLook 15 = .ok (.aload_n 0, 1) := by decide +kernel
theorem dX7_nextLook_16 : decode cX7_nextLook 16 = .ok (.getfield 18, 3) := by decide +kernel
theorem dX7_nextLook_19 : decode cX7_nextLook 19 = .ok (.iload_n 3, 1) := by decide +kernel
theorem dX7_nextLook_20 : decode cX7_nextLook 20 = .ok (.iaload, 1) := by decide +kernel
theorem dX7_nextLook_21 : decode cX7_nextLook 21 = .ok (.ifCond .ne 5, 3) := by decide +kernel
theorem dX7_nextLook_24 : decode cX7_nextLook 24 = .ok (.iconst 0, 1) := by decide +kernel
theorem dX7_nextLook_25 : decode cX7_nextLook 25 = .ok (.ireturn, 1) := by decide +kernel
theorem dX7_nextLook_26 : decode cX7_nextLook 26 = .ok (.aload_n 0, 1) := by decide +kernel
theorem dX7_nextLook_27 : decode cX7_nextLook 27 = .ok (.getfield 18, 3) := by decide +kernel
theorem dX7_nextLook_30 : decode cX7_nextLook 30 = .ok (.iload_n 3, 1) := by decide +kernel
theorem dX7_nextLook_31 : decode cX7_nextLook 31 = .ok (.iaload, 1) := by decide +kernel
theorem dX7_nextLook_32 : decode cX7_nextLook 32 = .ok (.iconst 1, 1) := by decide +kernel
theorem dX7_nextLook_33 : decode cX7_nextLook 33 = .ok (.if_icmp .ne 8, 3) := by decide +kernel
theorem dX7_nextLook_36 : decode cX7_nextLook 36 = .ok (.iconst 1, 1) := by decide +kernel
theorem dX7_nextLook_37 : decode cX7_nextLook 37 = .ok (.iload 4, 2) := by decide +kernel
theorem dX7_nextLook_39 : decode cX7_nextLook 39 = .ok (.iadd, 1) := by decide +kernel
theorem dX7_nextLook_40 : decode cX7_nextLook 40 = .ok (.ireturn, 1) := by decide +kernel
theorem dX7_nextLook_41 : decode cX7_nextLook 41 = .ok (.aload_n 0, 1) := by decide +kernel
theorem dX7_nextLook_42 : decode cX7_nextLook 42 = .ok (.iload_n 2, 1) := by decide +kernel
theorem dX7_nextLook_43 : decode cX7_nextLook 43 = .ok (.iload_n 3, 1) := by decide +kernel
theorem dX7_nextLook_44 : decode cX7_nextLook 44 = .ok (.invokevirtual 76, 3) := by decide +kernel
theorem dX7_nextLook_47 : decode cX7_nextLook 47 = .ok (.istore 5, 2) := by decide +kernel
theorem dX7_nextLook_49 : decode cX7_nextLook 49 = .ok (.iload 5, 2) := by decide +kernel
theorem dX7_nextLook_51 : decode cX7_nextLook 51 = .ok (.iload 4, 2) := by decide +kernel
theorem dX7_nextLook_53 : decode cX7_nextLook 53 = .ok (.if_icmp .ne 5, 3) := by decide +kernel
theorem dX7_nextLook_56 : decode cX7_nextLook 56 = .ok (.iload_n 2, 1) := by decide +kernel
theorem dX7_nextLook_57 : decode cX7_nextLook 57 = .ok (.ireturn, 1) := by decide +kernel
theorem dX7_nextLook_58 : decode cX7_nextLook 58 = .ok (.iconst 1, 1) := by decide +kernel
theorem dX7_nextLook_59 : decode cX7_nextLook 59 = .ok (.aload_n 0, 1) := by decide +kernel
theorem dX7_nextLook_60 : decode cX7_nextLook 60 = .ok (.getfield 21, 3) := by decide +kernel
theorem dX7_nextLook_63 : decode cX7_nextLook 63 = .ok (.iload_n 3, 1) := by decide +kernel
theorem dX7_nextLook_64 : decode cX7_nextLook 64 = .ok (.iaload, 1) := by decide +kernel
theorem dX7_nextLook_65 : decode cX7_nextLook 65 = .ok (.iload 4, 2) := by decide +kernel
theorem dX7_nextLook_67 : decode cX7_nextLook 67 = .ok (.imul, 1) := by decide +kernel
theorem dX7_nextLook_68 : decode cX7_nextLook 68 = .ok (.iadd, 1) := by decide +kernel
theorem dX7_nextLook_69 : decode cX7_nextLook 69 = .ok (.iload 5, 2) := by decide +kernel
theorem dX7_nextLook_71 : decode cX7_nextLook 71 = .ok (.ifCond .ge 8, 3) := by decide +kernel
theorem dX7_nextLook_74 : decode cX7_nextLook 74 = .ok (.iload 4, 2) := by decide +kernel
theorem dX7_nextLook_76 : decode cX7_nextLook 76 = .ok (.goto 5, 3) := by decide +kernel
theorem dX7_nextLook_79 : decode cX7_nextLook 79 = .ok (.iload 5, 2) := by decide +kernel
theorem dX7_nextLook_81 : decode cX7_nextLook 81 = .ok (.iadd, 1) := by decide +kernel
theorem dX7_nextLook_82 : decode cX7_nextLook 82 = .ok (.ireturn, 1) := by decide +kernel
theorem dX7_lies_0 : decode cX7_lies 0 = .ok (.aload_n 0, 1) := by decide +kernel
theorem dX7_lies_1 : decode cX7_lies 1 = .ok (.getfield 9, 3) := by decide +kernel
theorem dX7_lies_4 : decode cX7_lies 4 = .ok (.iload_n 1, 1) := by decide +kernel
theorem dX7_lies_5 : decode cX7_lies 5 = .ok (.iaload, 1) := by decide +kernel
theorem dX7_lies_6 : decode cX7_lies 6 = .ok (.istore_n 3, 1) := by decide +kernel
theorem dX7_lies_7 : decode cX7_lies 7 = .ok (.aload_n 0, 1) := by decide +kernel
theorem dX7_lies_8 : decode cX7_lies 8 = .ok (.getfield 15, 3) := by decide +kernel
theorem dX7_lies_11 : decode cX7_lies 11 = .ok (.iload_n 1, 1) := by decide +kernel
theorem dX7_lies_12 : decode cX7_lies 12 = .ok (.iaload, 1) := by decide +kernel
theorem dX7_lies_13 : decode cX7_lies 13 = .ok (.istore 4, 2) := by decide +kernel
theorem dX7_lies_15 : decode cX7_lies 15 = .ok (.aload_n 0, 1) := by decide +kernel
theorem dX7_lies_16 : decode cX7_lies 16 = .ok (.getfield 18, 3) := by decide +kernel
theorem dX7_lies_19 : decode cX7_lies 19 = .ok (.iload_n 3, 1) := by decide +kernel
theorem dX7_lies_20 : decode cX7_lies 20 = .ok (.iaload, 1) := by decide +kernel
theorem dX7_lies_21 : decode cX7_lies 21 = .ok (.ifCond .eq 12, 3) := by decide +kernel
theorem dX7_lies_24 : decode cX7_lies 24 = .ok (.iload_n 2, 1) := by decide +kernel
theorem dX7_lies_25 : decode cX7_lies 25 = .ok (.ifCond .eq 8, 3) := by decide +kernel
theorem dX7_lies_28 : decode cX7_lies 28 = .ok (.iload 4, 2) := by decide +kernel
theorem dX7_lies_30 : decode cX7_lies 30 = .ok (.ifCond .ge 5, 3) := by decide +kernel
theorem dX7_lies_33 : decode cX7_lies 33 = .ok (.iconst 0, 1) := by decide +kernel
theorem dX7_lies_34 : decode cX7_lies 34 = .ok (.ireturn, 1) := by decide +kernel
theorem dX7_lies_35 : decode cX7_lies 35 = .ok (.aload_n 0, 1) := by decide +kernel
theorem dX7_lies_36 : decode cX7_lies 36 = .ok (.getfield 18, 3) := by decide +kernel
theorem dX7_lies_39 : decode cX7_lies 39 = .ok (.iload_n 3, 1) := by decide +kernel
theorem dX7_lies_40 : decode cX7_lies 40 = .ok (.iaload, 1) := by decide +kernel
theorem dX7_lies_41 : decode cX7_lies 41 = .ok (.iconst 1, 1) := by decide +kernel
theorem dX7_lies_42 : decode cX7_lies 42 = .ok (.if_icmp .ne 17, 3) := by decide +kernel
theorem dX7_lies_45 : decode cX7_lies 45 = .ok (.iload_n 2, 1) := by decide +kernel
theorem dX7_lies_46 : decode cX7_lies 46 = .ok (.iconst 1, 1) := by decide +kernel
theorem dX7_lies_47 : decode cX7_lies 47 = .ok (.iload 4, 2) := by decide +kernel
theorem dX7_lies_49 : decode cX7_lies 49 = .ok (.iadd, 1) := by decide +kernel
theorem dX7_lies_50 : decode cX7_lies 50 = .ok (.if_icmp .ne 7, 3) := by decide +kernel
theorem dX7_lies_53 : decode cX7_lies 53 = .ok (.iconst 1, 1) := by decide +kernel
theorem dX7_lies_54 : decode cX7_lies 54 = .ok (.goto 4, 3) := by decide +kernel
theorem dX7_lies_57 : decode cX7_lies 57 = .ok (.iconst 0, 1) := by decide +kernel
theorem dX7_lies_58 : decode cX7_lies 58 = .ok (.ireturn, 1) := by decide +kernel
theorem dX7_lies_59 : decode cX7_lies 59 = .ok (.aload_n 0, 1) := by decide +kernel
theorem dX7_lies_60 : decode cX7_lies 60 = .ok (.iload_n 2, 1) := by decide +kernel
theorem dX7_lies_61 : decode cX7_lies 61 = .ok (.iload_n 3, 1) := by decide +kernel
theorem dX7_lies_62 : decode cX7_lies 62 = .ok (.invokevirtual 76, 3) := by decide +kernel
theorem dX7_lies_65 : decode cX7_lies 65 = .ok (.iload 4, 2) := by decide +kernel
theorem dX7_lies_67 : decode cX7_lies 67 = .ok (.if_icmp .eq 14, 3) := by decide +kernel
theorem dX7_lies_70 : decode cX7_lies 70 = .ok (.aload_n 0, 1) := by decide +kernel
theorem dX7_lies_71 : decode cX7_lies 71 = .ok (.iload_n 2, 1) := by decide +kernel
theorem dX7_lies_72 : decode cX7_lies 72 = .ok (.iload_n 3, 1) := by decide +kernel
theorem dX7_lies_73 : decode cX7_lies 73 = .ok (.invokevirtual 79, 3) := by decide +kernel
theorem dX7_lies_76 : decode cX7_lies 76 = .ok (.iload 4, 2) := by decide +kernel
theorem dX7_lies_78 : decode cX7_lies 78 = .ok (.if_icmp .ne 7, 3) := by decide +kernel
theorem dX7_lies_81 : decode cX7_lies 81 = .ok (.iconst 1, 1) := by decide +kernel
theorem dX7_lies_82 : decode cX7_lies 82 = .ok (.goto 4, 3) := by decide +kernel
theorem dX7_lies_85 : decode cX7_lies 85 = .ok (.iconst 0, 1) := by decide +kernel
theorem dX7_lies_86 : decode cX7_lies 86 = .ok (.ireturn, 1) := by decide +kernel
theorem dX7_newestOf_0 : decode cX7_newestOf 0 = .ok (.aload_n 0, 1) := by decide +kernel
theorem dX7_newestOf_1 : decode cX7_newestOf 1 = .ok (.getfield 21, 3) := by decide +kernel
theorem dX7_newestOf_4 : decode cX7_newestOf 4 = .ok (.iload_n 2, 1) := by decide +kernel
theorem dX7_newestOf_5 : decode cX7_newestOf 5 = .ok (.iaload, 1) := by decide +kernel
theorem dX7_newestOf_6 : decode cX7_newestOf 6 = .ok (.istore_n 3, 1) := by decide +kernel
theorem dX7_newestOf_7 : decode cX7_newestOf 7 = .ok (.iload_n 1, 1) := by decide +kernel
theorem dX7_newestOf_8 : decode cX7_newestOf 8 = .ok (.ifCond .le 15, 3) := by decide +kernel
theorem dX7_newestOf_11 : decode cX7_newestOf 11 = .ok (.iload_n 3, 1) := by decide +kernel
theorem dX7_newestOf_12 : decode cX7_newestOf 12 = .ok (.ifCond .le 11, 3) := by decide +kernel
theorem dX7_newestOf_15 : decode cX7_newestOf 15 = .ok (.iload_n 1, 1) := by decide +kernel
theorem dX7_newestOf_16 : decode cX7_newestOf 16 = .ok (.iconst 1, 1) := by decide +kernel
theorem dX7_newestOf_17 : decode cX7_newestOf 17 = .ok (.isub, 1) := by decide +kernel
theorem dX7_newestOf_18 : decode cX7_newestOf 18 = .ok (.iload_n 3, 1) := by decide +kernel
theorem dX7_newestOf_19 : decode cX7_newestOf 19 = .ok (.idiv, 1) := by decide +kernel
theorem dX7_newestOf_20 : decode cX7_newestOf 20 = .ok (.goto 4, 3) := by decide +kernel
theorem dX7_newestOf_23 : decode cX7_newestOf 23 = .ok (.iconst (-1), 1) := by decide +kernel
theorem dX7_newestOf_24 : decode cX7_newestOf 24 = .ok (.ireturn, 1) := by decide +kernel
theorem dX7_olderOf_0 : decode cX7_olderOf 0 = .ok (.aload_n 0, 1) := by decide +kernel
theorem dX7_olderOf_1 : decode cX7_olderOf 1 = .ok (.getfield 21, 3) := by decide +kernel
theorem dX7_olderOf_4 : decode cX7_olderOf 4 = .ok (.iload_n 2, 1) := by decide +kernel
theorem dX7_olderOf_5 : decode cX7_olderOf 5 = .ok (.iaload, 1) := by decide +kernel
theorem dX7_olderOf_6 : decode cX7_olderOf 6 = .ok (.istore_n 3, 1) := by decide +kernel
theorem dX7_olderOf_7 : decode cX7_olderOf 7 = .ok (.iload_n 1, 1) := by decide +kernel
theorem dX7_olderOf_8 : decode cX7_olderOf 8 = .ok (.ifCond .le 15, 3) := by decide +kernel
theorem dX7_olderOf_11 : decode cX7_olderOf 11 = .ok (.iload_n 3, 1) := by decide +kernel
theorem dX7_olderOf_12 : decode cX7_olderOf 12 = .ok (.ifCond .le 11, 3) := by decide +kernel
theorem dX7_olderOf_15 : decode cX7_olderOf 15 = .ok (.iload_n 1, 1) := by decide +kernel
theorem dX7_olderOf_16 : decode cX7_olderOf 16 = .ok (.iconst 1, 1) := by decide +kernel
theorem dX7_olderOf_17 : decode cX7_olderOf 17 = .ok (.isub, 1) := by decide +kernel
theorem dX7_olderOf_18 : decode cX7_olderOf 18 = .ok (.iload_n 3, 1) := by decide +kernel
theorem dX7_olderOf_19 : decode cX7_olderOf 19 = .ok (.irem, 1) := by decide +kernel
theorem dX7_olderOf_20 : decode cX7_olderOf 20 = .ok (.goto 4, 3) := by decide +kernel
theorem dX7_olderOf_23 : decode cX7_olderOf 23 = .ok (.iconst (-1), 1) := by decide +kernel
theorem dX7_olderOf_24 : decode cX7_olderOf 24 = .ok (.ireturn, 1) := by decide +kernel
theorem dX7_stepOf_0 : decode cX7_stepOf 0 = .ok (.iload_n 1, 1) := by decide +kernel
theorem dX7_stepOf_1 : decode cX7_stepOf 1 = .ok (.ifCond .lt 9, 3) := by decide +kernel
theorem dX7_stepOf_4 : decode cX7_stepOf 4 = .ok (.iload_n 1, 1) := by decide +kernel
theorem dX7_stepOf_5 : decode cX7_stepOf 5 = .ok (.bipush 8, 2) := by decide +kernel
theorem dX7_stepOf_7 : decode cX7_stepOf 7 = .ok (.if_icmp .lt 7, 3) := by decide +kernel
theorem dX7_stepOf_10 : decode cX7_stepOf 10 = .ok (.iconst 2, 1) := by decide +kernel
theorem dX7_stepOf_11 : decode cX7_stepOf 11 = .ok (.iload_n 2, 1) := by decide +kernel
theorem dX7_stepOf_12 : decode cX7_stepOf 12 = .ok (.imul, 1) := by decide +kernel
theorem dX7_stepOf_13 : decode cX7_stepOf 13 = .ok (.ireturn, 1) := by decide +kernel
theorem dX7_stepOf_14 : decode cX7_stepOf 14 = .ok (.aload_n 0, 1) := by decide +kernel
theorem dX7_stepOf_15 : decode cX7_stepOf 15 = .ok (.getfield 27, 3) := by decide +kernel
theorem dX7_stepOf_18 : decode cX7_stepOf 18 = .ok (.aload_n 0, 1) := by decide +kernel
theorem dX7_stepOf_19 : decode cX7_stepOf 19 = .ok (.getfield 9, 3) := by decide +kernel
theorem dX7_stepOf_22 : decode cX7_stepOf 22 = .ok (.iload_n 1, 1) := by decide +kernel
theorem dX7_stepOf_23 : decode cX7_stepOf 23 = .ok (.iaload, 1) := by decide +kernel
theorem dX7_stepOf_24 : decode cX7_stepOf 24 = .ok (.iaload, 1) := by decide +kernel
theorem dX7_stepOf_25 : decode cX7_stepOf 25 = .ok (.istore_n 3, 1) := by decide +kernel
theorem dX7_stepOf_26 : decode cX7_stepOf 26 = .ok (.aload_n 0, 1) := by decide +kernel
theorem dX7_stepOf_27 : decode cX7_stepOf 27 = .ok (.getfield 24, 3) := by decide +kernel
theorem dX7_stepOf_30 : decode cX7_stepOf 30 = .ok (.aload_n 0, 1) := by decide +kernel
theorem dX7_stepOf_31 : decode cX7_stepOf 31 = .ok (.getfield 9, 3) := by decide +kernel
theorem dX7_stepOf_34 : decode cX7_stepOf 34 = .ok (.iload_n 1, 1) := by decide +kernel
theorem dX7_stepOf_35 : decode cX7_stepOf 35 = .ok (.iaload, 1) := by decide +kernel
theorem dX7_stepOf_36 : decode cX7_stepOf 36 = .ok (.iaload, 1) := by decide +kernel
theorem dX7_stepOf_37 : decode cX7_stepOf 37 = .ok (.istore 4, 2) := by decide +kernel
theorem dX7_stepOf_39 : decode cX7_stepOf 39 = .ok (.iload_n 3, 1) := by decide +kernel
theorem dX7_stepOf_40 : decode cX7_stepOf 40 = .ok (.ifCond .le 17, 3) := by decide +kernel
theorem dX7_stepOf_43 : decode cX7_stepOf 43 = .ok (.iload 4, 2) := by decide +kernel
theorem dX7_stepOf_45 : decode cX7_stepOf 45 = .ok (.ifCond .le 12, 3) := by decide +kernel
theorem dX7_stepOf_48 : decode cX7_stepOf 48 = .ok (.iload_n 2, 1) := by decide +kernel
theorem dX7_stepOf_49 : decode cX7_stepOf 49 = .ok (.iload_n 3, 1) := by decide +kernel
theorem dX7_stepOf_50 : decode cX7_stepOf 50 = .ok (.idiv, 1) := by decide +kernel
theorem dX7_stepOf_51 : decode cX7_stepOf 51 = .ok (.iload 4, 2) := by decide +kernel
theorem dX7_stepOf_53 : decode cX7_stepOf 53 = .ok (.irem, 1) := by decide +kernel
theorem dX7_stepOf_54 : decode cX7_stepOf 54 = .ok (.goto 4, 3) := by decide +kernel
theorem dX7_stepOf_57 : decode cX7_stepOf 57 = .ok (.iconst 0, 1) := by decide +kernel
theorem dX7_stepOf_58 : decode cX7_stepOf 58 = .ok (.istore 5, 2) := by decide +kernel
theorem dX7_stepOf_60 : decode cX7_stepOf 60 = .ok (.iload 5, 2) := by decide +kernel
theorem dX7_stepOf_62 : decode cX7_stepOf 62 = .ok (.ifCond .lt 26, 3) := by decide +kernel
theorem dX7_stepOf_65 : decode cX7_stepOf 65 = .ok (.iload 5, 2) := by decide +kernel
theorem dX7_stepOf_67 : decode cX7_stepOf 67 = .ok (.bipush 65, 2) := by decide +kernel
theorem dX7_stepOf_69 : decode cX7_stepOf 69 = .ok (.if_icmp .ge 19, 3) := by decide +kernel
theorem dX7_stepOf_72 : decode cX7_stepOf 72 = .ok (.iconst 2, 1) := by decide +kernel
theorem dX7_stepOf_73 : decode cX7_stepOf 73 = .ok (.iload_n 2, 1) := by decide +kernel
theorem dX7_stepOf_74 : decode cX7_stepOf 74 = .ok (.imul, 1) := by decide +kernel
theorem dX7_stepOf_75 : decode cX7_stepOf 75 = .ok (.aload_n 0, 1) := by decide +kernel
theorem dX7_stepOf_76 : decode cX7_stepOf 76 = .ok (.getfield 32, 3) := by decide +kernel
theorem dX7_stepOf_79 : decode cX7_stepOf 79 = .ok (.iload_n 1, 1) := by decide +kernel
theorem dX7_stepOf_80 : decode cX7_stepOf 80 = .ok (.aaload, 1) := by decide +kernel
theorem dX7_stepOf_81 : decode cX7_stepOf 81 = .ok (.iload 5, 2) := by decide +kernel
theorem dX7_stepOf_83 : decode cX7_stepOf 83 = .ok (.iaload, 1) := by decide +kernel
theorem dX7_stepOf_84 : decode cX7_stepOf 84 = .ok (.iadd, 1) := by decide +kernel
theorem dX7_stepOf_85 : decode cX7_stepOf 85 = .ok (.goto 6, 3) := by decide +kernel
theorem dX7_stepOf_88 : decode cX7_stepOf 88 = .ok (.iconst 2, 1) := by decide +kernel
theorem dX7_stepOf_89 : decode cX7_stepOf 89 = .ok (.iload_n 2, 1) := by decide +kernel
theorem dX7_stepOf_90 : decode cX7_stepOf 90 = .ok (.imul, 1) := by decide +kernel
theorem dX7_stepOf_91 : decode cX7_stepOf 91 = .ok (.ireturn, 1) := by decide +kernel
theorem dX7_linesOn_0 : decode cX7_linesOn 0 = .ok (.aload_n 0, 1) := by decide +kernel
theorem dX7_linesOn_1 : decode cX7_linesOn 1 = .ok (.getfield 35, 3) := by decide +kernel
theorem dX7_linesOn_4 : decode cX7_linesOn 4 = .ok (.istore_n 2, 1) := by decide +kernel
theorem dX7_linesOn_5 : decode cX7_linesOn 5 = .ok (.iconst 0, 1) := by decide +kernel
theorem dX7_linesOn_6 : decode cX7_linesOn 6 = .ok (.istore_n 3, 1) := by decide +kernel
theorem dX7_linesOn_7 : decode cX7_linesOn 7 = .ok (.iload_n 3, 1) := by decide +kernel
theorem dX7_linesOn_8 : decode cX7_linesOn 8 = .ok (.bipush 8, 2) := by decide +kernel
theorem dX7_linesOn_10 : decode cX7_linesOn 10 = .ok (.if_icmp .ge 38, 3) := by decide +kernel
theorem dX7_linesOn_13 : decode cX7_linesOn 13 = .ok (.aload_n 0, 1) := by decide +kernel
theorem dX7_linesOn_14 : decode cX7_linesOn 14 = .ok (.getfield 39, 3) := by decide +kernel
theorem dX7_linesOn_17 : decode cX7_linesOn 17 = .ok (.iload_n 3, 1) := by decide +kernel
theorem dX7_linesOn_18 : decode cX7_linesOn 18 = .ok (.invokestatic 62, 3) := by decide +kernel
theorem dX7_linesOn_21 : decode cX7_linesOn 21 = .ok (.ifCond .eq 21, 3) := by decide +kernel
theorem dX7_linesOn_24 : decode cX7_linesOn 24 = .ok (.aload_n 0, 1) := by decide +kernel
theorem dX7_linesOn_25 : decode cX7_linesOn 25 = .ok (.iload_n 3, 1) := by decide +kernel
theorem dX7_linesOn_26 : decode cX7_linesOn 26 = .ok (.iload_n 1, 1) := by decide +kernel
theorem dX7_linesOn_27 : decode cX7_linesOn 27 = .ok (.invokevirtual 82, 3) := by decide +kernel
theorem dX7_linesOn_30 : decode cX7_linesOn 30 = .ok (.iconst 1, 1) := by decide +kernel
theorem dX7_linesOn_31 : decode cX7_linesOn 31 = .ok (.iand, 1) := by decide +kernel
theorem dX7_linesOn_32 : decode cX7_linesOn 32 = .ok (.iconst 1, 1) := by decide +kernel
theorem dX7_linesOn_33 : decode cX7_linesOn 33 = .ok (.if_icmp .ne 9, 3) := by decide +kernel
theorem dX7_linesOn_36 : decode cX7_linesOn 36 = .ok (.iload_n 2, 1) := by decide +kernel
theorem dX7_linesOn_37 : decode cX7_linesOn 37 = .ok (.iconst 1, 1) := by decide +kernel
theorem dX7_linesOn_38 : decode cX7_linesOn 38 = .ok (.iload_n 3, 1) := by decide +kernel
theorem dX7_linesOn_39 : decode cX7_linesOn 39 = .ok (.ishl, 1) := by decide +kernel
theorem dX7_linesOn_40 : decode cX7_linesOn 40 = .ok (.ior, 1) := by decide +kernel
theorem dX7_linesOn_41 : decode cX7_linesOn 41 = .ok (.istore_n 2, 1) := by decide +kernel
theorem dX7_linesOn_42 : decode cX7_linesOn 42 = .ok (.iinc 3 1, 3) := by decide +kernel
theorem dX7_linesOn_45 : decode cX7_linesOn 45 = .ok (.goto (-38), 3) := by decide +kernel
theorem dX7_linesOn_48 : decode cX7_linesOn 48 = .ok (.iload_n 2, 1) := by decide +kernel
theorem dX7_linesOn_49 : decode cX7_linesOn 49 = .ok (.ireturn, 1) := by decide +kernel
theorem dX8_init_0 : decode cX8_init 0 = .ok (.aload_n 0, 1) := by decide +kernel
theorem dX8_init_1 : decode cX8_init 1 = .ok (.invokespecial 3, 3) := by decide +kernel
theorem dX8_init_4 : decode cX8_init 4 = .ok (.aload_n 0, 1) := by decide +kernel
theorem dX8_init_5 : decode cX8_init 5 = .ok (.new 9, 3) := by decide +kernel
theorem dX8_init_8 : decode cX8_init 8 = .ok (.dup, 1) := by decide +kernel
theorem dX8_init_9 : decode cX8_init 9 = .ok (.invokespecial 11, 3) := by decide +kernel
theorem dX8_init_12 : decode cX8_init 12 = .ok (.putfield 12, 3) := by decide +kernel
theorem dX8_init_15 : decode cX8_init 15 = .ok (.aload_n 0, 1) := by decide +kernel
theorem dX8_init_16 : decode cX8_init 16 = .ok (.new 9, 3) := by decide +kernel
theorem dX8_init_19 : decode cX8_init 19 = .ok (.dup, 1) := by decide +kernel
theorem dX8_init_20 : decode cX8_init 20 = .ok (.invokespecial 11, 3) := by decide +kernel
theorem dX8_init_23 : decode cX8_init 23 = .ok (.putfield 18, 3) := by decide +kernel
theorem dX8_init_26 : decode cX8_init 26 = .ok (.aload_n 0, 1) := by decide +kernel
theorem dX8_init_27 : decode cX8_init 27 = .ok (.iconst 5, 1) := by decide +kernel
theorem dX8_init_28 : decode cX8_init 28 = .ok (.anewarray 9, 3) := by decide +kernel
theorem dX8_init_31 : decode cX8_init 31 = .ok (.putfield 21, 3) := by decide +kernel
theorem dX8_init_34 : decode cX8_init 34 = .ok (.aload_n 0, 1) := by decide +kernel
theorem dX8_init_35 : decode cX8_init 35 = .ok (.aload_n 1, 1) := by decide +kernel
theorem dX8_init_36 : decode cX8_init 36 = .ok (.putfield 25, 3) := by decide +kernel
theorem dX8_init_39 : decode cX8_init 39 = .ok (.aload_n 0, 1) := by decide +kernel
theorem dX8_init_40 : decode cX8_init 40 = .ok (.aload_n 2, 1) := by decide +kernel
theorem dX8_init_41 : decode cX8_init 41 = .ok (.putfield 29, 3) := by decide +kernel
theorem dX8_init_44 : decode cX8_init 44 = .ok (.aload_n 0, 1) := by decide +kernel
theorem dX8_init_45 : decode cX8_init 45 = .ok (.aload_n 1, 1) := by decide +kernel
theorem dX8_init_46 : decode cX8_init 46 = .ok (.iconst 0, 1) := by decide +kernel
theorem dX8_init_47 : decode cX8_init 47 = .ok (.invokevirtual 33, 3) := by decide +kernel
theorem dX8_init_50 : decode cX8_init 50 = .ok (.putfield 39, 3) := by decide +kernel
theorem dX8_init_53 : decode cX8_init 53 = .ok (.iconst 0, 1) := by decide +kernel
theorem dX8_init_54 : decode cX8_init 54 = .ok (.istore_n 3, 1) := by decide +kernel
theorem dX8_init_55 : decode cX8_init 55 = .ok (.iload_n 3, 1) := by decide +kernel
theorem dX8_init_56 : decode cX8_init 56 = .ok (.aload_n 0, 1) := by decide +kernel
theorem dX8_init_57 : decode cX8_init 57 = .ok (.getfield 21, 3) := by decide +kernel
theorem dX8_init_60 : decode cX8_init 60 = .ok (.arraylength, 1) := by decide +kernel
theorem dX8_init_61 : decode cX8_init 61 = .ok (.if_icmp .ge 22, 3) := by decide +kernel
theorem dX8_init_64 : decode cX8_init 64 = .ok (.aload_n 0, 1) := by decide +kernel
theorem dX8_init_65 : decode cX8_init 65 = .ok (.getfield 21, 3) := by decide +kernel
theorem dX8_init_68 : decode cX8_init 68 = .ok (.iload_n 3, 1) := by decide +kernel
theorem dX8_init_69 : decode cX8_init 69 = .ok (.new 9, 3) := by decide +kernel
theorem dX8_init_72 : decode cX8_init 72 = .ok (.dup, 1) := by decide +kernel
theorem dX8_init_73 : decode cX8_init 73 = .ok (.invokespecial 11, 3) := by decide +kernel
theorem dX8_init_76 : decode cX8_init 76 = .ok (.aastore, 1) := by decide +kernel
theorem dX8_init_77 : decode cX8_init 77 = .ok (.iinc 3 1, 3) := by decide +kernel
theorem dX8_init_80 : decode cX8_init 80 = .ok (.goto (-25), 3) := by decide +kernel
theorem dX8_init_83 : decode cX8_init 83 = .ok (.return_, 1) := by decide +kernel
theorem dX8_costOf_0 : decode cX8_costOf 0 = .ok (.aload_n 0, 1) := by decide +kernel
theorem dX8_costOf_1 : decode cX8_costOf 1 = .ok (.aload_n 1, 1) := by decide +kernel
theorem dX8_costOf_2 : decode cX8_costOf 2 = .ok (.putfield 39, 3) := by decide +kernel
theorem dX8_costOf_5 : decode cX8_costOf 5 = .ok (.aload_n 0, 1) := by decide +kernel
theorem dX8_costOf_6 : decode cX8_costOf 6 = .ok (.iload_n 2, 1) := by decide +kernel
theorem dX8_costOf_7 : decode cX8_costOf 7 = .ok (.putfield 43, 3) := by decide +kernel
theorem dX8_costOf_10 : decode cX8_costOf 10 = .ok (.aload_n 0, 1) := by decide +kernel
theorem dX8_costOf_11 : decode cX8_costOf 11 = .ok (.iload 4, 2) := by decide +kernel
theorem dX8_costOf_13 : decode cX8_costOf 13 = .ok (.putfield 47, 3) := by decide +kernel
theorem dX8_costOf_16 : decode cX8_costOf 16 = .ok (.aload_n 0, 1) := by decide +kernel
theorem dX8_costOf_17 : decode cX8_costOf 17 = .ok (.getfield 29, 3) := by decide +kernel
theorem dX8_costOf_20 : decode cX8_costOf 20 = .ok (.aload_n 0, 1) := by decide +kernel
theorem dX8_costOf_21 : decode cX8_costOf 21 = .ok (.getfield 25, 3) := by decide +kernel
theorem dX8_costOf_24 : decode cX8_costOf 24 = .ok (.iload_n 3, 1) := by decide +kernel
theorem dX8_costOf_25 : decode cX8_costOf 25 = .ok (.aload_n 1, 1) := by decide +kernel
theorem dX8_costOf_26 : decode cX8_costOf 26 = .ok (.invokevirtual 51, 3) := by decide +kernel
theorem dX8_costOf_29 : decode cX8_costOf 29 = .ok (.invokevirtual 57, 3) := by decide +kernel
theorem dX8_costOf_32 : decode cX8_costOf 32 = .ok (.aload_n 0, 1) := by decide +kernel
theorem dX8_costOf_33 : decode cX8_costOf 33 = .ok (.getfield 12, 3) := by decide +kernel
theorem dX8_costOf_36 : decode cX8_costOf 36 = .ok (.invokevirtual 63, 3) := by decide +kernel
theorem dX8_costOf_39 : decode cX8_costOf 39 = .ok (.aload_n 0, 1) := by decide +kernel
theorem dX8_costOf_40 : decode cX8_costOf 40 = .ok (.getfield 12, 3) := by decide +kernel
theorem dX8_costOf_43 : decode cX8_costOf 43 = .ok (.iconst 0, 1) := by decide +kernel
theorem dX8_costOf_44 : decode cX8_costOf 44 = .ok (.iconst 0, 1) := by decide +kernel
theorem dX8_costOf_45 : decode cX8_costOf 45 = .ok (.iload 4, 2) := by decide +kernel
theorem dX8_costOf_47 : decode cX8_costOf 47 = .ok (.invokevirtual 66, 3) := by decide +kernel
theorem dX8_costOf_50 : decode cX8_costOf 50 = .ok (.aload_n 0, 1) := by decide +kernel
theorem dX8_costOf_51 : decode cX8_costOf 51 = .ok (.iconst 0, 1) := by decide +kernel
theorem dX8_costOf_52 : decode cX8_costOf 52 = .ok (.iconst 0, 1) := by decide +kernel
theorem dX8_costOf_53 : decode cX8_costOf 53 = .ok (.aload_n 0, 1) := by decide +kernel
theorem dX8_costOf_54 : decode cX8_costOf 54 = .ok (.getfield 12, 3) := by decide +kernel
theorem dX8_costOf_57 : decode cX8_costOf 57 = .ok (.aload_n 0, 1) := by decide +kernel
theorem dX8_costOf_58 : decode cX8_costOf 58 = .ok (.getfield 18, 3) := by decide +kernel
theorem dX8_costOf_61 : decode cX8_costOf 61 = .ok (.invokevirtual 70, 3) := by decide +kernel
theorem dX8_costOf_64 : decode cX8_costOf 64 = .ok (.aload_n 0, 1) := by decide +kernel
theorem dX8_costOf_65 : decode cX8_costOf 65 = .ok (.getfield 18, 3) := by decide +kernel
theorem dX8_costOf_68 : decode cX8_costOf 68 = .ok (.iconst 0, 1) := by decide +kernel
theorem dX8_costOf_69 : decode cX8_costOf 69 = .ok (.invokevirtual 74, 3) := by decide +kernel
theorem dX8_costOf_72 : decode cX8_costOf 72 = .ok (.istore 5, 2) := by decide +kernel
theorem dX8_costOf_74 : decode cX8_costOf 74 = .ok (.iconst 1, 1) := by decide +kernel
theorem dX8_costOf_75 : decode cX8_costOf 75 = .ok (.istore 6, 2) := by decide +kernel
theorem dX8_costOf_77 : decode cX8_costOf 77 = .ok (.iload 6, 2) := by decide +kernel
theorem dX8_costOf_79 : decode cX8_costOf 79 = .ok (.aload_n 0, 1) := by decide +kernel
theorem dX8_costOf_80 : decode cX8_costOf 80 = .ok (.getfield 18, 3) := by decide +kernel
theorem dX8_costOf_83 : decode cX8_costOf 83 = .ok (.getfield 78, 3) := by decide +kernel
theorem dX8_costOf_86 : decode cX8_costOf 86 = .ok (.if_icmp .ge 47, 3) := by decide +kernel
theorem dX8_costOf_89 : decode cX8_costOf 89 = .ok (.iload 4, 2) := by decide +kernel
theorem dX8_costOf_91 : decode cX8_costOf 91 = .ok (.ifCond .eq 20, 3) := by decide +kernel
theorem dX8_costOf_94 : decode cX8_costOf 94 = .ok (.iload 5, 2) := by decide +kernel
theorem dX8_costOf_96 : decode cX8_costOf 96 = .ok (.aload_n 0, 1) := by decide +kernel
theorem dX8_costOf_97 : decode cX8_costOf 97 = .ok (.getfield 18, 3) := by decide +kernel
theorem dX8_costOf_100 : decode cX8_costOf 100 = .ok (.iload 6, 2) := by decide +kernel
theorem dX8_costOf_102 : decode cX8_costOf 102 = .ok (.invokevirtual 74, 3) := by decide +kernel
theorem dX8_costOf_105 : decode cX8_costOf 105 = .ok (.invokestatic 81, 3) := by decide +kernel
theorem dX8_costOf_108 : decode cX8_costOf 108 = .ok (.goto 17, 3) := by decide +kernel
theorem dX8_costOf_111 : decode cX8_costOf 111 = .ok (.iload 5, 2) := by decide +kernel
theorem dX8_costOf_113 : decode cX8_costOf 113 = .ok (.aload_n 0, 1) := by decide +kernel
theorem dX8_costOf_114 : decode cX8_costOf 114 = .ok (.getfield 18, 3) := by decide +kernel
theorem dX8_costOf_117 : decode cX8_costOf 117 = .ok (.iload 6, 2) := by decide +kernel
theorem dX8_costOf_119 : decode cX8_costOf 119 = .ok (.invokevirtual 74, 3) := by decide +kernel
theorem dX8_costOf_122 : decode cX8_costOf 122 = .ok (.invokestatic 87, 3) := by decide +kernel
theorem dX8_costOf_125 : decode cX8_costOf 125 = .ok (.istore 5, 2) := by decide +kernel
theorem dX8_costOf_127 : decode cX8_costOf 127 = .ok (.iinc 6 1, 3) := by decide +kernel
theorem dX8_costOf_130 : decode cX8_costOf 130 = .ok (.goto (-53), 3) := by decide +kernel
theorem dX8_costOf_133 : decode cX8_costOf 133 = .ok (.iload 5, 2) := by decide +kernel
theorem dX8_costOf_135 : decode cX8_costOf 135 = .ok (.ireturn, 1) := by decide +kernel
theorem dX8_ends_0 : decode cX8_ends 0 = .ok (.aload_n 0, 1) := by decide +kernel
theorem dX8_ends_1 : decode cX8_ends 1 = .ok (.getfield 18, 3) := by decide +kernel
theorem dX8_ends_4 : decode cX8_ends 4 = .ok (.getfield 78, 3) := by decide +kernel
theorem dX8_ends_7 : decode cX8_ends 7 = .ok (.ireturn, 1) := by decide +kernel
theorem dX8_holdFast_0 : decode cX8_holdFast 0 = .ok (.aload_n 1, 1) := by decide +kernel
theorem dX8_holdFast_1 : decode cX8_holdFast 1 = .ok (.invokevirtual 51, 3) := by decide +kernel
theorem dX8_holdFast_4 : decode cX8_holdFast 4 = .ok (.istore_n 2, 1) := by decide +kernel
theorem dX8_holdFast_5 : decode cX8_holdFast 5 = .ok (.aload_n 0, 1) := by decide +kernel
theorem dX8_holdFast_6 : decode cX8_holdFast 6 = .ok (.getfield 25, 3) := by decide +kernel
theorem dX8_holdFast_9 : decode cX8_holdFast 9 = .ok (.iconst 2, 1) := by decide +kernel
theorem dX8_holdFast_10 : decode cX8_holdFast 10 = .ok (.invokevirtual 90, 3) := by decide +kernel
theorem dX8_holdFast_13 : decode cX8_holdFast 13 = .ok (.istore_n 3, 1) := by decide +kernel
theorem dX8_holdFast_14 : decode cX8_holdFast 14 = .ok (.aload_n 0, 1) := by decide +kernel
theorem dX8_holdFast_15 : decode cX8_holdFast 15 = .ok (.iconst 0, 1) := by decide +kernel
theorem dX8_holdFast_16 : decode cX8_holdFast 16 = .ok (.putfield 93, 3) := by decide +kernel
theorem dX8_holdFast_19 : decode cX8_holdFast 19 = .ok (.aload_n 0, 1) := by decide +kernel
theorem dX8_holdFast_20 : decode cX8_holdFast 20 = .ok (.aload_n 0, 1) := by decide +kernel
theorem dX8_holdFast_21 : decode cX8_holdFast 21 = .ok (.aload_n 1, 1) := by decide +kernel
theorem dX8_holdFast_22 : decode cX8_holdFast 22 = .ok (.iload_n 3, 1) := by decide +kernel
theorem dX8_holdFast_23 : decode cX8_holdFast 23 = .ok (.iconst 0, 1) := by decide +kernel
theorem dX8_holdFast_24 : decode cX8_holdFast 24 = .ok (.iconst 1, 1) := by decide +kernel
theorem dX8_holdFast_25 : decode cX8_holdFast 25 = .ok (.invokevirtual 96, 3) := by decide +kernel
theorem dX8_holdFast_28 : decode cX8_holdFast 28 = .ok (.putfield 100, 3) := by decide +kernel
theorem dX8_holdFast_31 : decode cX8_holdFast 31 = .ok (.iconst 1, 1) := by decide +kernel
theorem dX8_holdFast_32 : decode cX8_holdFast 32 = .ok (.istore 4, 2) := by decide +kernel
theorem dX8_holdFast_34 : decode cX8_holdFast 34 = .ok (.iload 4, 2) := by decide +kernel
theorem dX8_holdFast_36 : decode cX8_holdFast 36 = .ok (.sipush 255, 3) := by decide +kernel
theorem dX8_holdFast_39 : decode cX8_holdFast 39 = .ok (.if_icmp .gt 57, 3) := by decide +kernel
theorem dX8_holdFast_42 : decode cX8_holdFast 42 = .ok (.iload 4, 2) := by decide +kernel
theorem dX8_holdFast_44 : decode cX8_holdFast 44 = .ok (.iload_n 2, 1) := by decide +kernel
theorem dX8_holdFast_45 : decode cX8_holdFast 45 = .ok (.iconst (-1), 1) := by decide +kernel
theorem dX8_holdFast_46 : decode cX8_holdFast 46 = .ok (.ixor, 1) := by decide +kernel
theorem dX8_holdFast_47 : decode cX8_holdFast 47 = .ok (.iand, 1) := by decide +kernel
theorem dX8_holdFast_48 : decode cX8_holdFast 48 = .ok (.ifCond .ne 42, 3) := by decide +kernel
theorem dX8_holdFast_51 : decode cX8_holdFast 51 = .ok (.aload_n 0, 1) := by decide +kernel
theorem dX8_holdFast_52 : decode cX8_holdFast 52 = .ok (.getfield 25, 3) := by decide +kernel
theorem dX8_holdFast_55 : decode cX8_holdFast 55 = .ok (.iconst 0, 1) := by decide +kernel
theorem dX8_holdFast_56 : decode cX8_holdFast 56 = .ok (.invokevirtual 90, 3) := by decide +kernel
theorem dX8_holdFast_59 : decode cX8_holdFast 59 = .ok (.aload_n 0, 1) := by decide +kernel
theorem dX8_holdFast_60 : decode cX8_holdFast 60 = .ok (.getfield 25, 3) := by decide +kernel
theorem dX8_holdFast_63 : decode cX8_holdFast 63 = .ok (.iconst 1, 1) := by decide +kernel
theorem dX8_holdFast_64 : decode cX8_holdFast 64 = .ok (.invokevirtual 90, 3) := by decide +kernel
theorem dX8_holdFast_67 : decode cX8_holdFast 67 = .ok (.iload 4, 2) := by decide +kernel
theorem dX8_holdFast_69 : decode cX8_holdFast 69 = .ok (.invokestatic 103, 3) := by decide +kernel
