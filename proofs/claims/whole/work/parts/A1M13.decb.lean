theorem dX8_holdFast_72 : decode cX8_holdFast 72 = .ok (.ifCond .eq 18, 3) := by decide +kernel
theorem dX8_holdFast_75 : decode cX8_holdFast 75 = .ok (.aload_n 0, 1) := by decide +kernel
theorem dX8_holdFast_76 : decode cX8_holdFast 76 = .ok (.iload 4, 2) := by decide +kernel
theorem dX8_holdFast_78 : decode cX8_holdFast 78 = .ok (.aload_n 0, 1) := by decide +kernel
theorem dX8_holdFast_79 : decode cX8_holdFast 79 = .ok (.aload_n 1, 1) := by decide +kernel
theorem dX8_holdFast_80 : decode cX8_holdFast 80 = .ok (.iload_n 3, 1) := by decide +kernel
theorem dX8_holdFast_81 : decode cX8_holdFast 81 = .ok (.iload 4, 2) := by decide +kernel
theorem dX8_holdFast_83 : decode cX8_holdFast 83 = .ok (.iconst 1, 1) := by decide +kernel
theorem dX8_holdFast_84 : decode cX8_holdFast 84 = .ok (.invokevirtual 96, 3) := by decide +kernel
theorem dX8_holdFast_87 : decode cX8_holdFast 87 = .ok (.invokevirtual 107, 3) := by decide +kernel
theorem dX8_holdFast_90 : decode cX8_holdFast 90 = .ok (.iinc 4 1, 3) := by decide +kernel
theorem dX8_holdFast_93 : decode cX8_holdFast 93 = .ok (.goto (-59), 3) := by decide +kernel
theorem dX8_holdFast_96 : decode cX8_holdFast 96 = .ok (.return_, 1) := by decide +kernel
theorem dX8_compare_0 : decode cX8_compare 0 = .ok (.iload_n 1, 1) := by decide +kernel
theorem dX8_compare_1 : decode cX8_compare 1 = .ok (.invokestatic 111, 3) := by decide +kernel
theorem dX8_compare_4 : decode cX8_compare 4 = .ok (.aload_n 0, 1) := by decide +kernel
theorem dX8_compare_5 : decode cX8_compare 5 = .ok (.getfield 93, 3) := by decide +kernel
theorem dX8_compare_8 : decode cX8_compare 8 = .ok (.invokestatic 111, 3) := by decide +kernel
theorem dX8_compare_11 : decode cX8_compare 11 = .ok (.if_icmp .ge 7, 3) := by decide +kernel
theorem dX8_compare_14 : decode cX8_compare 14 = .ok (.iconst 1, 1) := by decide +kernel
theorem dX8_compare_15 : decode cX8_compare 15 = .ok (.goto 4, 3) := by decide +kernel
theorem dX8_compare_18 : decode cX8_compare 18 = .ok (.iconst 0, 1) := by decide +kernel
theorem dX8_compare_19 : decode cX8_compare 19 = .ok (.istore_n 3, 1) := by decide +kernel
theorem dX8_compare_20 : decode cX8_compare 20 = .ok (.iload_n 2, 1) := by decide +kernel
theorem dX8_compare_21 : decode cX8_compare 21 = .ok (.aload_n 0, 1) := by decide +kernel
theorem dX8_compare_22 : decode cX8_compare 22 = .ok (.getfield 100, 3) := by decide +kernel
theorem dX8_compare_25 : decode cX8_compare 25 = .ok (.if_icmp .lt 15, 3) := by decide +kernel
theorem dX8_compare_28 : decode cX8_compare 28 = .ok (.iload_n 2, 1) := by decide +kernel
theorem dX8_compare_29 : decode cX8_compare 29 = .ok (.aload_n 0, 1) := by decide +kernel
theorem dX8_compare_30 : decode cX8_compare 30 = .ok (.getfield 100, 3) := by decide +kernel
theorem dX8_compare_33 : decode cX8_compare 33 = .ok (.if_icmp .ne 17, 3) := by decide +kernel
theorem dX8_compare_36 : decode cX8_compare 36 = .ok (.iload_n 3, 1) := by decide +kernel
theorem dX8_compare_37 : decode cX8_compare 37 = .ok (.ifCond .eq 13, 3) := by decide +kernel
theorem dX8_compare_40 : decode cX8_compare 40 = .ok (.aload_n 0, 1) := by decide +kernel
theorem dX8_compare_41 : decode cX8_compare 41 = .ok (.iload_n 1, 1) := by decide +kernel
theorem dX8_compare_42 : decode cX8_compare 42 = .ok (.putfield 93, 3) := by decide +kernel
theorem dX8_compare_45 : decode cX8_compare 45 = .ok (.aload_n 0, 1) := by decide +kernel
theorem dX8_compare_46 : decode cX8_compare 46 = .ok (.iload_n 2, 1) := by decide +kernel
theorem dX8_compare_47 : decode cX8_compare 47 = .ok (.putfield 100, 3) := by decide +kernel
theorem dX8_compare_50 : decode cX8_compare 50 = .ok (.return_, 1) := by decide +kernel
theorem dX8_flow_0 : decode cX8_flow 0 = .ok (.iload_n 2, 1) := by decide +kernel
theorem dX8_flow_1 : decode cX8_flow 1 = .ok (.iconst 4, 1) := by decide +kernel
theorem dX8_flow_2 : decode cX8_flow 2 = .ok (.if_icmp .le 4, 3) := by decide +kernel
theorem dX8_flow_5 : decode cX8_flow 5 = .ok (.return_, 1) := by decide +kernel
theorem dX8_flow_6 : decode cX8_flow 6 = .ok (.aload_n 0, 1) := by decide +kernel
theorem dX8_flow_7 : decode cX8_flow 7 = .ok (.getfield 39, 3) := by decide +kernel
theorem dX8_flow_10 : decode cX8_flow 10 = .ok (.iload_n 1, 1) := by decide +kernel
theorem dX8_flow_11 : decode cX8_flow 11 = .ok (.invokevirtual 116, 3) := by decide +kernel
theorem dX8_flow_14 : decode cX8_flow 14 = .ok (.istore 5, 2) := by decide +kernel
theorem dX8_flow_16 : decode cX8_flow 16 = .ok (.aload_n 0, 1) := by decide +kernel
theorem dX8_flow_17 : decode cX8_flow 17 = .ok (.getfield 39, 3) := by decide +kernel
theorem dX8_flow_20 : decode cX8_flow 20 = .ok (.iload_n 1, 1) := by decide +kernel
theorem dX8_flow_21 : decode cX8_flow 21 = .ok (.invokevirtual 119, 3) := by decide +kernel
theorem dX8_flow_24 : decode cX8_flow 24 = .ok (.istore 6, 2) := by decide +kernel
theorem dX8_flow_26 : decode cX8_flow 26 = .ok (.aload_n 0, 1) := by decide +kernel
theorem dX8_flow_27 : decode cX8_flow 27 = .ok (.iload_n 2, 1) := by decide +kernel
theorem dX8_flow_28 : decode cX8_flow 28 = .ok (.invokevirtual 122, 3) := by decide +kernel
theorem dX8_flow_31 : decode cX8_flow 31 = .ok (.astore 7, 2) := by decide +kernel
theorem dX8_flow_33 : decode cX8_flow 33 = .ok (.aload 4, 2) := by decide +kernel
theorem dX8_flow_35 : decode cX8_flow 35 = .ok (.invokevirtual 63, 3) := by decide +kernel
theorem dX8_flow_38 : decode cX8_flow 38 = .ok (.aload_n 0, 1) := by decide +kernel
theorem dX8_flow_39 : decode cX8_flow 39 = .ok (.getfield 39, 3) := by decide +kernel
theorem dX8_flow_42 : decode cX8_flow 42 = .ok (.iload_n 1, 1) := by decide +kernel
theorem dX8_flow_43 : decode cX8_flow 43 = .ok (.invokevirtual 126, 3) := by decide +kernel
theorem dX8_flow_46 : decode cX8_flow 46 = .ok (.lookupswitch 149 #[(45, 124), (59, 58), (63, 86), (98, 137), (99, 137), (100, 137)], 58) := by decide +kernel
theorem dX8_flow_104 : decode cX8_flow 104 = .ok (.aload_n 0, 1) := by decide +kernel
theorem dX8_flow_105 : decode cX8_flow 105 = .ok (.iload 5, 2) := by decide +kernel
theorem dX8_flow_107 : decode cX8_flow 107 = .ok (.iload_n 2, 1) := by decide +kernel
theorem dX8_flow_108 : decode cX8_flow 108 = .ok (.iconst 1, 1) := by decide +kernel
theorem dX8_flow_109 : decode cX8_flow 109 = .ok (.iadd, 1) := by decide +kernel
theorem dX8_flow_110 : decode cX8_flow 110 = .ok (.aload_n 3, 1) := by decide +kernel
theorem dX8_flow_111 : decode cX8_flow 111 = .ok (.aload 7, 2) := by decide +kernel
theorem dX8_flow_113 : decode cX8_flow 113 = .ok (.invokevirtual 70, 3) := by decide +kernel
theorem dX8_flow_116 : decode cX8_flow 116 = .ok (.aload_n 0, 1) := by decide +kernel
theorem dX8_flow_117 : decode cX8_flow 117 = .ok (.iload 6, 2) := by decide +kernel
theorem dX8_flow_119 : decode cX8_flow 119 = .ok (.iload_n 2, 1) := by decide +kernel
theorem dX8_flow_120 : decode cX8_flow 120 = .ok (.iconst 1, 1) := by decide +kernel
theorem dX8_flow_121 : decode cX8_flow 121 = .ok (.iadd, 1) := by decide +kernel
theorem dX8_flow_122 : decode cX8_flow 122 = .ok (.aload 7, 2) := by decide +kernel
theorem dX8_flow_124 : decode cX8_flow 124 = .ok (.aload 4, 2) := by decide +kernel
theorem dX8_flow_126 : decode cX8_flow 126 = .ok (.invokevirtual 70, 3) := by decide +kernel
theorem dX8_flow_129 : decode cX8_flow 129 = .ok (.goto 81, 3) := by decide +kernel
theorem dX8_flow_132 : decode cX8_flow 132 = .ok (.aload_n 0, 1) := by decide +kernel
theorem dX8_flow_133 : decode cX8_flow 133 = .ok (.iload 5, 2) := by decide +kernel
theorem dX8_flow_135 : decode cX8_flow 135 = .ok (.iload_n 2, 1) := by decide +kernel
theorem dX8_flow_136 : decode cX8_flow 136 = .ok (.iconst 1, 1) := by decide +kernel
theorem dX8_flow_137 : decode cX8_flow 137 = .ok (.iadd, 1) := by decide +kernel
theorem dX8_flow_138 : decode cX8_flow 138 = .ok (.aload_n 3, 1) := by decide +kernel
theorem dX8_flow_139 : decode cX8_flow 139 = .ok (.aload 4, 2) := by decide +kernel
theorem dX8_flow_141 : decode cX8_flow 141 = .ok (.invokevirtual 70, 3) := by decide +kernel
theorem dX8_flow_144 : decode cX8_flow 144 = .ok (.aload_n 0, 1) := by decide +kernel
theorem dX8_flow_145 : decode cX8_flow 145 = .ok (.iload 6, 2) := by decide +kernel
theorem dX8_flow_147 : decode cX8_flow 147 = .ok (.iload_n 2, 1) := by decide +kernel
theorem dX8_flow_148 : decode cX8_flow 148 = .ok (.iconst 1, 1) := by decide +kernel
theorem dX8_flow_149 : decode cX8_flow 149 = .ok (.iadd, 1) := by decide +kernel
theorem dX8_flow_150 : decode cX8_flow 150 = .ok (.aload_n 3, 1) := by decide +kernel
theorem dX8_flow_151 : decode cX8_flow 151 = .ok (.aload 7, 2) := by decide +kernel
theorem dX8_flow_153 : decode cX8_flow 153 = .ok (.invokevirtual 70, 3) := by decide +kernel
theorem dX8_flow_156 : decode cX8_flow 156 = .ok (.aload 4, 2) := by decide +kernel
theorem dX8_flow_158 : decode cX8_flow 158 = .ok (.aload 7, 2) := by decide +kernel
theorem dX8_flow_160 : decode cX8_flow 160 = .ok (.aload_n 0, 1) := by decide +kernel
theorem dX8_flow_161 : decode cX8_flow 161 = .ok (.getfield 47, 3) := by decide +kernel
theorem dX8_flow_164 : decode cX8_flow 164 = .ok (.invokevirtual 129, 3) := by decide +kernel
theorem dX8_flow_167 : decode cX8_flow 167 = .ok (.goto 43, 3) := by decide +kernel
theorem dX8_flow_170 : decode cX8_flow 170 = .ok (.aload 4, 2) := by decide +kernel
theorem dX8_flow_172 : decode cX8_flow 172 = .ok (.aload_n 3, 1) := by decide +kernel
theorem dX8_flow_173 : decode cX8_flow 173 = .ok (.aload_n 0, 1) := by decide +kernel
theorem dX8_flow_174 : decode cX8_flow 174 = .ok (.getfield 47, 3) := by decide +kernel
theorem dX8_flow_177 : decode cX8_flow 177 = .ok (.invokevirtual 129, 3) := by decide +kernel
theorem dX8_flow_180 : decode cX8_flow 180 = .ok (.goto 30, 3) := by decide +kernel
theorem dX8_flow_183 : decode cX8_flow 183 = .ok (.aload_n 0, 1) := by decide +kernel
theorem dX8_flow_184 : decode cX8_flow 184 = .ok (.iload_n 1, 1) := by decide +kernel
theorem dX8_flow_185 : decode cX8_flow 185 = .ok (.iload_n 2, 1) := by decide +kernel
theorem dX8_flow_186 : decode cX8_flow 186 = .ok (.aload_n 3, 1) := by decide +kernel
theorem dX8_flow_187 : decode cX8_flow 187 = .ok (.aload 4, 2) := by decide +kernel
theorem dX8_flow_189 : decode cX8_flow 189 = .ok (.invokevirtual 133, 3) := by decide +kernel
theorem dX8_flow_192 : decode cX8_flow 192 = .ok (.goto 18, 3) := by decide +kernel
theorem dX8_flow_195 : decode cX8_flow 195 = .ok (.aload_n 0, 1) := by decide +kernel
theorem dX8_flow_196 : decode cX8_flow 196 = .ok (.aload_n 0, 1) := by decide +kernel
theorem dX8_flow_197 : decode cX8_flow 197 = .ok (.getfield 39, 3) := by decide +kernel
theorem dX8_flow_200 : decode cX8_flow 200 = .ok (.iload_n 1, 1) := by decide +kernel
theorem dX8_flow_201 : decode cX8_flow 201 = .ok (.invokevirtual 136, 3) := by decide +kernel
theorem dX8_flow_204 : decode cX8_flow 204 = .ok (.aload_n 3, 1) := by decide +kernel
theorem dX8_flow_205 : decode cX8_flow 205 = .ok (.aload 4, 2) := by decide +kernel
theorem dX8_flow_207 : decode cX8_flow 207 = .ok (.invokevirtual 139, 3) := by decide +kernel
theorem dX8_flow_210 : decode cX8_flow 210 = .ok (.return_, 1) := by decide +kernel
theorem dX8_repeat_0 : decode cX8_repeat 0 = .ok (.aload_n 0, 1) := by decide +kernel
theorem dX8_repeat_1 : decode cX8_repeat 1 = .ok (.iload_n 2, 1) := by decide +kernel
theorem dX8_repeat_2 : decode cX8_repeat 2 = .ok (.invokevirtual 122, 3) := by decide +kernel
theorem dX8_repeat_5 : decode cX8_repeat 5 = .ok (.astore 5, 2) := by decide +kernel
theorem dX8_repeat_7 : decode cX8_repeat 7 = .ok (.aload_n 0, 1) := by decide +kernel
theorem dX8_repeat_8 : decode cX8_repeat 8 = .ok (.getfield 39, 3) := by decide +kernel
theorem dX8_repeat_11 : decode cX8_repeat 11 = .ok (.iload_n 1, 1) := by decide +kernel
theorem dX8_repeat_12 : decode cX8_repeat 12 = .ok (.invokevirtual 143, 3) := by decide +kernel
theorem dX8_repeat_15 : decode cX8_repeat 15 = .ok (.istore 6, 2) := by decide +kernel
theorem dX8_repeat_17 : decode cX8_repeat 17 = .ok (.aload 4, 2) := by decide +kernel
theorem dX8_repeat_19 : decode cX8_repeat 19 = .ok (.aload_n 3, 1) := by decide +kernel
theorem dX8_repeat_20 : decode cX8_repeat 20 = .ok (.aload_n 0, 1) := by decide +kernel
theorem dX8_repeat_21 : decode cX8_repeat 21 = .ok (.getfield 47, 3) := by decide +kernel
theorem dX8_repeat_24 : decode cX8_repeat 24 = .ok (.invokevirtual 129, 3) := by decide +kernel
theorem dX8_repeat_27 : decode cX8_repeat 27 = .ok (.iconst 0, 1) := by decide +kernel
theorem dX8_repeat_28 : decode cX8_repeat 28 = .ok (.istore 7, 2) := by decide +kernel
theorem dX8_repeat_30 : decode cX8_repeat 30 = .ok (.iload 7, 2) := by decide +kernel
theorem dX8_repeat_32 : decode cX8_repeat 32 = .ok (.iload 6, 2) := by decide +kernel
theorem dX8_repeat_34 : decode cX8_repeat 34 = .ok (.if_icmp .ge 39, 3) := by decide +kernel
theorem dX8_repeat_37 : decode cX8_repeat 37 = .ok (.aload_n 0, 1) := by decide +kernel
theorem dX8_repeat_38 : decode cX8_repeat 38 = .ok (.aload_n 0, 1) := by decide +kernel
theorem dX8_repeat_39 : decode cX8_repeat 39 = .ok (.getfield 39, 3) := by decide +kernel
theorem dX8_repeat_42 : decode cX8_repeat 42 = .ok (.iload_n 1, 1) := by decide +kernel
theorem dX8_repeat_43 : decode cX8_repeat 43 = .ok (.invokevirtual 116, 3) := by decide +kernel
theorem dX8_repeat_46 : decode cX8_repeat 46 = .ok (.iload_n 2, 1) := by decide +kernel
theorem dX8_repeat_47 : decode cX8_repeat 47 = .ok (.iconst 1, 1) := by decide +kernel
theorem dX8_repeat_48 : decode cX8_repeat 48 = .ok (.iadd, 1) := by decide +kernel
theorem dX8_repeat_49 : decode cX8_repeat 49 = .ok (.aload 4, 2) := by decide +kernel
theorem dX8_repeat_51 : decode cX8_repeat 51 = .ok (.aload 5, 2) := by decide +kernel
theorem dX8_repeat_53 : decode cX8_repeat 53 = .ok (.invokevirtual 70, 3) := by decide +kernel
theorem dX8_repeat_56 : decode cX8_repeat 56 = .ok (.aload 4, 2) := by decide +kernel
theorem dX8_repeat_58 : decode cX8_repeat 58 = .ok (.aload 5, 2) := by decide +kernel
theorem dX8_repeat_60 : decode cX8_repeat 60 = .ok (.aload_n 0, 1) := by decide +kernel
theorem dX8_repeat_61 : decode cX8_repeat 61 = .ok (.getfield 47, 3) := by decide +kernel
theorem dX8_repeat_64 : decode cX8_repeat 64 = .ok (.invokevirtual 129, 3) := by decide +kernel
theorem dX8_repeat_67 : decode cX8_repeat 67 = .ok (.iinc 7 1, 3) := by decide +kernel
theorem dX8_repeat_70 : decode cX8_repeat 70 = .ok (.goto (-40), 3) := by decide +kernel
theorem dX8_repeat_73 : decode cX8_repeat 73 = .ok (.return_, 1) := by decide +kernel
theorem dX8_fetch_0 : decode cX8_fetch 0 = .ok (.iconst 0, 1) := by decide +kernel
theorem dX8_fetch_1 : decode cX8_fetch 1 = .ok (.istore 4, 2) := by decide +kernel
theorem dX8_fetch_3 : decode cX8_fetch 3 = .ok (.iload 4, 2) := by decide +kernel
theorem dX8_fetch_5 : decode cX8_fetch 5 = .ok (.aload_n 2, 1) := by decide +kernel
theorem dX8_fetch_6 : decode cX8_fetch 6 = .ok (.getfield 78, 3) := by decide +kernel
theorem dX8_fetch_9 : decode cX8_fetch 9 = .ok (.if_icmp .ge 64, 3) := by decide +kernel
theorem dX8_fetch_12 : decode cX8_fetch 12 = .ok (.aload_n 0, 1) := by decide +kernel
theorem dX8_fetch_13 : decode cX8_fetch 13 = .ok (.getfield 29, 3) := by decide +kernel
theorem dX8_fetch_16 : decode cX8_fetch 16 = .ok (.iload_n 1, 1) := by decide +kernel
theorem dX8_fetch_17 : decode cX8_fetch 17 = .ok (.aload_n 2, 1) := by decide +kernel
theorem dX8_fetch_18 : decode cX8_fetch 18 = .ok (.iload 4, 2) := by decide +kernel
theorem dX8_fetch_20 : decode cX8_fetch 20 = .ok (.invokevirtual 146, 3) := by decide +kernel
theorem dX8_fetch_23 : decode cX8_fetch 23 = .ok (.invokevirtual 149, 3) := by decide +kernel
theorem dX8_fetch_26 : decode cX8_fetch 26 = .ok (.istore 5, 2) := by decide +kernel
theorem dX8_fetch_28 : decode cX8_fetch 28 = .ok (.iload 5, 2) := by decide +kernel
theorem dX8_fetch_30 : decode cX8_fetch 30 = .ok (.iconst 1, 1) := by decide +kernel
theorem dX8_fetch_31 : decode cX8_fetch 31 = .ok (.iand, 1) := by decide +kernel
theorem dX8_fetch_32 : decode cX8_fetch 32 = .ok (.iconst 1, 1) := by decide +kernel
theorem dX8_fetch_33 : decode cX8_fetch 33 = .ok (.if_icmp .ne 7, 3) := by decide +kernel
theorem dX8_fetch_36 : decode cX8_fetch 36 = .ok (.iconst 1, 1) := by decide +kernel
theorem dX8_fetch_37 : decode cX8_fetch 37 = .ok (.goto 7, 3) := by decide +kernel
theorem dX8_fetch_40 : decode cX8_fetch 40 = .ok (.aload_n 0, 1) := by decide +kernel
theorem dX8_fetch_41 : decode cX8_fetch 41 = .ok (.getfield 43, 3) := by decide +kernel
theorem dX8_fetch_44 : decode cX8_fetch 44 = .ok (.istore 6, 2) := by decide +kernel
theorem dX8_fetch_46 : decode cX8_fetch 46 = .ok (.aload_n 3, 1) := by decide +kernel
theorem dX8_fetch_47 : decode cX8_fetch 47 = .ok (.iload 5, 2) := by decide +kernel
theorem dX8_fetch_49 : decode cX8_fetch 49 = .ok (.iconst 1, 1) := by decide +kernel
theorem dX8_fetch_50 : decode cX8_fetch 50 = .ok (.ishr, 1) := by decide +kernel
theorem dX8_fetch_51 : decode cX8_fetch 51 = .ok (.aload_n 2, 1) := by decide +kernel
theorem dX8_fetch_52 : decode cX8_fetch 52 = .ok (.iload 4, 2) := by decide +kernel
theorem dX8_fetch_54 : decode cX8_fetch 54 = .ok (.invokevirtual 74, 3) := by decide +kernel
theorem dX8_fetch_57 : decode cX8_fetch 57 = .ok (.iload 6, 2) := by decide +kernel
theorem dX8_fetch_59 : decode cX8_fetch 59 = .ok (.iadd, 1) := by decide +kernel
theorem dX8_fetch_60 : decode cX8_fetch 60 = .ok (.aload_n 0, 1) := by decide +kernel
theorem dX8_fetch_61 : decode cX8_fetch 61 = .ok (.getfield 47, 3) := by decide +kernel
theorem dX8_fetch_64 : decode cX8_fetch 64 = .ok (.invokevirtual 66, 3) := by decide +kernel
theorem dX8_fetch_67 : decode cX8_fetch 67 = .ok (.iinc 4 1, 3) := by decide +kernel
theorem dX8_fetch_70 : decode cX8_fetch 70 = .ok (.goto (-67), 3) := by decide +kernel
theorem dX8_fetch_73 : decode cX8_fetch 73 = .ok (.return_, 1) := by decide +kernel
theorem dX8_betweenAt_0 : decode cX8_betweenAt 0 = .ok (.iload_n 1, 1) := by decide +kernel
theorem dX8_betweenAt_1 : decode cX8_betweenAt 1 = .ok (.ifCond .lt 21, 3) := by decide +kernel
theorem dX8_betweenAt_4 : decode cX8_betweenAt 4 = .ok (.iload_n 1, 1) := by decide +kernel
theorem dX8_betweenAt_5 : decode cX8_betweenAt 5 = .ok (.aload_n 0, 1) := by decide +kernel
theorem dX8_betweenAt_6 : decode cX8_betweenAt 6 = .ok (.getfield 21, 3) := by decide +kernel
theorem dX8_betweenAt_9 : decode cX8_betweenAt 9 = .ok (.arraylength, 1) := by decide +kernel
theorem dX8_betweenAt_10 : decode cX8_betweenAt 10 = .ok (.if_icmp .ge 12, 3) := by decide +kernel
theorem dX8_betweenAt_13 : decode cX8_betweenAt 13 = .ok (.aload_n 0, 1) := by decide +kernel
theorem dX8_betweenAt_14 : decode cX8_betweenAt 14 = .ok (.getfield 21, 3) := by decide +kernel
theorem dX8_betweenAt_17 : decode cX8_betweenAt 17 = .ok (.iload_n 1, 1) := by decide +kernel
theorem dX8_betweenAt_18 : decode cX8_betweenAt 18 = .ok (.aaload, 1) := by decide +kernel
theorem dX8_betweenAt_19 : decode cX8_betweenAt 19 = .ok (.goto 4, 3) := by decide +kernel
theorem dX8_betweenAt_22 : decode cX8_betweenAt 22 = .ok (.aconst_null, 1) := by decide +kernel
theorem dX8_betweenAt_23 : decode cX8_betweenAt 23 = .ok (.astore_n 2, 1) := by decide +kernel
theorem dX8_betweenAt_24 : decode cX8_betweenAt 24 = .ok (.aload_n 2, 1) := by decide +kernel
theorem dX8_betweenAt_25 : decode cX8_betweenAt 25 = .ok (.ifnonnull 10, 3) := by decide +kernel
theorem dX8_betweenAt_28 : decode cX8_betweenAt 28 = .ok (.aload_n 0, 1) := by decide +kernel
theorem dX8_betweenAt_29 : decode cX8_betweenAt 29 = .ok (.getfield 18, 3) := by decide +kernel
theorem dX8_betweenAt_32 : decode cX8_betweenAt 32 = .ok (.goto 4, 3) := by decide +kernel
theorem dX8_betweenAt_35 : decode cX8_betweenAt 35 = .ok (.aload_n 2, 1) := by decide +kernel
theorem dX8_betweenAt_36 : decode cX8_betweenAt 36 = .ok (.areturn, 1) := by decide +kernel
theorem dX9_init_0 : decode cX9_init 0 = .ok (.aload_n 0, 1) := by decide +kernel
theorem dX9_init_1 : decode cX9_init 1 = .ok (.invokespecial 3, 3) := by decide +kernel
theorem dX9_init_4 : decode cX9_init 4 = .ok (.aload_n 0, 1) := by decide +kernel
theorem dX9_init_5 : decode cX9_init 5 = .ok (.iconst 4, 1) := by decide +kernel
theorem dX9_init_6 : decode cX9_init 6 = .ok (.newarray .int, 2) := by decide +kernel
theorem dX9_init_8 : decode cX9_init 8 = .ok (.putfield 9, 3) := by decide +kernel
theorem dX9_init_11 : decode cX9_init 11 = .ok (.aload_n 0, 1) := by decide +kernel
theorem dX9_init_12 : decode cX9_init 12 = .ok (.aload_n 1, 1) := by decide +kernel
theorem dX9_init_13 : decode cX9_init 13 = .ok (.putfield 15, 3) := by decide +kernel
theorem dX9_init_16 : decode cX9_init 16 = .ok (.aload_n 0, 1) := by decide +kernel
theorem dX9_init_17 : decode cX9_init 17 = .ok (.aload_n 2, 1) := by decide +kernel
theorem dX9_init_18 : decode cX9_init 18 = .ok (.putfield 19, 3) := by decide +kernel
theorem dX9_init_21 : decode cX9_init 21 = .ok (.return_, 1) := by decide +kernel
theorem dX9_breakCost_0 : decode cX9_breakCost 0 = .ok (.aload_n 0, 1) := by decide +kernel
theorem dX9_breakCost_1 : decode cX9_breakCost 1 = .ok (.getfield 15, 3) := by decide +kernel
theorem dX9_breakCost_4 : decode cX9_breakCost 4 = .ok (.iconst 0, 1) := by decide +kernel
theorem dX9_breakCost_5 : decode cX9_breakCost 5 = .ok (.invokevirtual 23, 3) := by decide +kernel
theorem dX9_breakCost_8 : decode cX9_breakCost 8 = .ok (.istore 4, 2) := by decide +kernel
theorem dX9_breakCost_10 : decode cX9_breakCost 10 = .ok (.aload_n 0, 1) := by decide +kernel
theorem dX9_breakCost_11 : decode cX9_breakCost 11 = .ok (.getfield 15, 3) := by decide +kernel
theorem dX9_breakCost_14 : decode cX9_breakCost 14 = .ok (.iload_n 1, 1) := by decide +kernel
theorem dX9_breakCost_15 : decode cX9_breakCost 15 = .ok (.invokevirtual 29, 3) := by decide +kernel
theorem dX9_breakCost_18 : decode cX9_breakCost 18 = .ok (.invokevirtual 33, 3) := by decide +kernel
theorem dX9_breakCost_21 : decode cX9_breakCost 21 = .ok (.aload_n 0, 1) := by decide +kernel
theorem dX9_breakCost_22 : decode cX9_breakCost 22 = .ok (.getfield 15, 3) := by decide +kernel
theorem dX9_breakCost_25 : decode cX9_breakCost 25 = .ok (.iconst 3, 1) := by decide +kernel
theorem dX9_breakCost_26 : decode cX9_breakCost 26 = .ok (.invokevirtual 23, 3) := by decide +kernel
theorem dX9_breakCost_29 : decode cX9_breakCost 29 = .ok (.iconst (-1), 1) := by decide +kernel
theorem dX9_breakCost_30 : decode cX9_breakCost 30 = .ok (.ixor, 1) := by decide +kernel
theorem dX9_breakCost_31 : decode cX9_breakCost 31 = .ok (.iand, 1) := by decide +kernel
theorem dX9_breakCost_32 : decode cX9_breakCost 32 = .ok (.istore 5, 2) := by decide +kernel
theorem dX9_breakCost_34 : decode cX9_breakCost 34 = .ok (.aload_n 0, 1) := by decide +kernel
theorem dX9_breakCost_35 : decode cX9_breakCost 35 = .ok (.getfield 15, 3) := by decide +kernel
theorem dX9_breakCost_38 : decode cX9_breakCost 38 = .ok (.iload_n 2, 1) := by decide +kernel
theorem dX9_breakCost_39 : decode cX9_breakCost 39 = .ok (.invokevirtual 29, 3) := by decide +kernel
theorem dX9_breakCost_42 : decode cX9_breakCost 42 = .ok (.invokevirtual 33, 3) := by decide +kernel
theorem dX9_breakCost_45 : decode cX9_breakCost 45 = .ok (.aload_n 0, 1) := by decide +kernel
theorem dX9_breakCost_46 : decode cX9_breakCost 46 = .ok (.getfield 15, 3) := by decide +kernel
theorem dX9_breakCost_49 : decode cX9_breakCost 49 = .ok (.iconst 3, 1) := by decide +kernel
theorem dX9_breakCost_50 : decode cX9_breakCost 50 = .ok (.invokevirtual 23, 3) := by decide +kernel
theorem dX9_breakCost_53 : decode cX9_breakCost 53 = .ok (.iconst (-1), 1) := by decide +kernel
theorem dX9_breakCost_54 : decode cX9_breakCost 54 = .ok (.ixor, 1) := by decide +kernel
theorem dX9_breakCost_55 : decode cX9_breakCost 55 = .ok (.iand, 1) := by decide +kernel
theorem dX9_breakCost_56 : decode cX9_breakCost 56 = .ok (.istore 6, 2) := by decide +kernel
theorem dX9_breakCost_58 : decode cX9_breakCost 58 = .ok (.iconst 0, 1) := by decide +kernel
theorem dX9_breakCost_59 : decode cX9_breakCost 59 = .ok (.istore 7, 2) := by decide +kernel
theorem dX9_breakCost_61 : decode cX9_breakCost 61 = .ok (.iconst 0, 1) := by decide +kernel
theorem dX9_breakCost_62 : decode cX9_breakCost 62 = .ok (.istore 8, 2) := by decide +kernel
theorem dX9_breakCost_64 : decode cX9_breakCost 64 = .ok (.iload 8, 2) := by decide +kernel
theorem dX9_breakCost_66 : decode cX9_breakCost 66 = .ok (.iload 4, 2) := by decide +kernel
theorem dX9_breakCost_68 : decode cX9_breakCost 68 = .ok (.if_icmp .ge 43, 3) := by decide +kernel
theorem dX9_breakCost_71 : decode cX9_breakCost 71 = .ok (.iload 8, 2) := by decide +kernel
theorem dX9_breakCost_73 : decode cX9_breakCost 73 = .ok (.iload 4, 2) := by decide +kernel
theorem dX9_breakCost_75 : decode cX9_breakCost 75 = .ok (.invokestatic 39, 3) := by decide +kernel
theorem dX9_breakCost_78 : decode cX9_breakCost 78 = .ok (.istore 9, 2) := by decide +kernel
theorem dX9_breakCost_80 : decode cX9_breakCost 80 = .ok (.iload 7, 2) := by decide +kernel
theorem dX9_breakCost_82 : decode cX9_breakCost 82 = .ok (.iload 5, 2) := by decide +kernel
theorem dX9_breakCost_84 : decode cX9_breakCost 84 = .ok (.iload 9, 2) := by decide +kernel
theorem dX9_breakCost_86 : decode cX9_breakCost 86 = .ok (.iand, 1) := by decide +kernel
theorem dX9_breakCost_87 : decode cX9_breakCost 87 = .ok (.ifCond .ne 7, 3) := by decide +kernel
theorem dX9_breakCost_90 : decode cX9_breakCost 90 = .ok (.iconst 0, 1) := by decide +kernel
theorem dX9_breakCost_91 : decode cX9_breakCost 91 = .ok (.goto 11, 3) := by decide +kernel
theorem dX9_breakCost_94 : decode cX9_breakCost 94 = .ok (.iload 6, 2) := by decide +kernel
theorem dX9_breakCost_96 : decode cX9_breakCost 96 = .ok (.iload 9, 2) := by decide +kernel
theorem dX9_breakCost_98 : decode cX9_breakCost 98 = .ok (.iand, 1) := by decide +kernel
theorem dX9_breakCost_99 : decode cX9_breakCost 99 = .ok (.invokestatic 43, 3) := by decide +kernel
theorem dX9_breakCost_102 : decode cX9_breakCost 102 = .ok (.iadd, 1) := by decide +kernel
theorem dX9_breakCost_103 : decode cX9_breakCost 103 = .ok (.istore 7, 2) := by decide +kernel
theorem dX9_breakCost_105 : decode cX9_breakCost 105 = .ok (.iinc 8 1, 3) := by decide +kernel
theorem dX9_breakCost_108 : decode cX9_breakCost 108 = .ok (.goto (-44), 3) := by decide +kernel
theorem dX9_breakCost_111 : decode cX9_breakCost 111 = .ok (.iload 7, 2) := by decide +kernel
theorem dX9_breakCost_113 : decode cX9_breakCost 113 = .ok (.iload_n 3, 1) := by decide +kernel
theorem dX9_breakCost_114 : decode cX9_breakCost 114 = .ok (.imul, 1) := by decide +kernel
theorem dX9_breakCost_115 : decode cX9_breakCost 115 = .ok (.ireturn, 1) := by decide +kernel
theorem dX9_weigh_0 : decode cX9_weigh 0 = .ok (.aload_n 0, 1) := by decide +kernel
theorem dX9_weigh_1 : decode cX9_weigh 1 = .ok (.iload_n 1, 1) := by decide +kernel
theorem dX9_weigh_2 : decode cX9_weigh 2 = .ok (.putfield 48, 3) := by decide +kernel
theorem dX9_weigh_5 : decode cX9_weigh 5 = .ok (.iconst 0, 1) := by decide +kernel
theorem dX9_weigh_6 : decode cX9_weigh 6 = .ok (.istore_n 2, 1) := by decide +kernel
theorem dX9_weigh_7 : decode cX9_weigh 7 = .ok (.iload_n 2, 1) := by decide +kernel
theorem dX9_weigh_8 : decode cX9_weigh 8 = .ok (.iconst 4, 1) := by decide +kernel
theorem dX9_weigh_9 : decode cX9_weigh 9 = .ok (.if_icmp .ge 55, 3) := by decide +kernel
theorem dX9_weigh_12 : decode cX9_weigh 12 = .ok (.aload_n 0, 1) := by decide +kernel
theorem dX9_weigh_13 : decode cX9_weigh 13 = .ok (.getfield 9, 3) := by decide +kernel
theorem dX9_weigh_16 : decode cX9_weigh 16 = .ok (.iload_n 2, 1) := by decide +kernel
theorem dX9_weigh_17 : decode cX9_weigh 17 = .ok (.aload_n 0, 1) := by decide +kernel
theorem dX9_weigh_18 : decode cX9_weigh 18 = .ok (.getfield 15, 3) := by decide +kernel
theorem dX9_weigh_21 : decode cX9_weigh 21 = .ok (.iload_n 2, 1) := by decide +kernel
theorem dX9_weigh_22 : decode cX9_weigh 22 = .ok (.invokevirtual 52, 3) := by decide +kernel
theorem dX9_weigh_25 : decode cX9_weigh 25 = .ok (.ifCond .eq 31, 3) := by decide +kernel
theorem dX9_weigh_28 : decode cX9_weigh 28 = .ok (.aload_n 0, 1) := by decide +kernel
theorem dX9_weigh_29 : decode cX9_weigh 29 = .ok (.getfield 19, 3) := by decide +kernel
theorem dX9_weigh_32 : decode cX9_weigh 32 = .ok (.aload_n 0, 1) := by decide +kernel
theorem dX9_weigh_33 : decode cX9_weigh 33 = .ok (.getfield 15, 3) := by decide +kernel
theorem dX9_weigh_36 : decode cX9_weigh 36 = .ok (.iload_n 2, 1) := by decide +kernel
theorem dX9_weigh_37 : decode cX9_weigh 37 = .ok (.invokevirtual 29, 3) := by decide +kernel
theorem dX9_weigh_40 : decode cX9_weigh 40 = .ok (.iload_n 1, 1) := by decide +kernel
theorem dX9_weigh_41 : decode cX9_weigh 41 = .ok (.aload_n 0, 1) := by decide +kernel
theorem dX9_weigh_42 : decode cX9_weigh 42 = .ok (.getfield 15, 3) := by decide +kernel
theorem dX9_weigh_45 : decode cX9_weigh 45 = .ok (.iconst 3, 1) := by decide +kernel
theorem dX9_weigh_46 : decode cX9_weigh 46 = .ok (.invokevirtual 23, 3) := by decide +kernel
theorem dX9_weigh_49 : decode cX9_weigh 49 = .ok (.iconst 1, 1) := by decide +kernel
theorem dX9_weigh_50 : decode cX9_weigh 50 = .ok (.invokevirtual 56, 3) := by decide +kernel
theorem dX9_weigh_53 : decode cX9_weigh 53 = .ok (.goto 4, 3) := by decide +kernel
theorem dX9_weigh_56 : decode cX9_weigh 56 = .ok (.iconst 0, 1) := by decide +kernel
theorem dX9_weigh_57 : decode cX9_weigh 57 = .ok (.iastore, 1) := by decide +kernel
theorem dX9_weigh_58 : decode cX9_weigh 58 = .ok (.iinc 2 1, 3) := by decide +kernel
theorem dX9_weigh_61 : decode cX9_weigh 61 = .ok (.goto (-54), 3) := by decide +kernel
theorem dX9_weigh_64 : decode cX9_weigh 64 = .ok (.return_, 1) := by decide +kernel
theorem dX9_timeOf_0 : decode cX9_timeOf 0 = .ok (.aload_n 0, 1) := by decide +kernel
theorem dX9_timeOf_1 : decode cX9_timeOf 1 = .ok (.getfield 15, 3) := by decide +kernel
theorem dX9_timeOf_4 : decode cX9_timeOf 4 = .ok (.iload_n 1, 1) := by decide +kernel
theorem dX9_timeOf_5 : decode cX9_timeOf 5 = .ok (.invokevirtual 62, 3) := by decide +kernel
theorem dX9_timeOf_8 : decode cX9_timeOf 8 = .ok (.istore_n 2, 1) := by decide +kernel
theorem dX9_timeOf_9 : decode cX9_timeOf 9 = .ok (.aload_n 0, 1) := by decide +kernel
theorem dX9_timeOf_10 : decode cX9_timeOf 10 = .ok (.iload_n 1, 1) := by decide +kernel
theorem dX9_timeOf_11 : decode cX9_timeOf 11 = .ok (.invokevirtual 65, 3) := by decide +kernel
theorem dX9_timeOf_14 : decode cX9_timeOf 14 = .ok (.istore_n 3, 1) := by decide +kernel
theorem dX9_timeOf_15 : decode cX9_timeOf 15 = .ok (.iconst 0, 1) := by decide +kernel
theorem dX9_timeOf_16 : decode cX9_timeOf 16 = .ok (.istore 4, 2) := by decide +kernel
theorem dX9_timeOf_18 : decode cX9_timeOf 18 = .ok (.iload 4, 2) := by decide +kernel
theorem dX9_timeOf_20 : decode cX9_timeOf 20 = .ok (.sipush 9999, 3) := by decide +kernel
theorem dX9_timeOf_23 : decode cX9_timeOf 23 = .ok (.if_icmp .gt 33, 3) := by decide +kernel
theorem dX9_timeOf_26 : decode cX9_timeOf 26 = .ok (.iload_n 3, 1) := by decide +kernel
theorem dX9_timeOf_27 : decode cX9_timeOf 27 = .ok (.iload_n 2, 1) := by decide +kernel
theorem dX9_timeOf_28 : decode cX9_timeOf 28 = .ok (.if_icmp .gt 28, 3) := by decide +kernel
theorem dX9_timeOf_31 : decode cX9_timeOf 31 = .ok (.aload_n 0, 1) := by decide +kernel
theorem dX9_timeOf_32 : decode cX9_timeOf 32 = .ok (.iload_n 1, 1) := by decide +kernel
theorem dX9_timeOf_33 : decode cX9_timeOf 33 = .ok (.iload_n 3, 1) := by decide +kernel
theorem dX9_timeOf_34 : decode cX9_timeOf 34 = .ok (.invokevirtual 68, 3) := by decide +kernel
theorem dX9_timeOf_37 : decode cX9_timeOf 37 = .ok (.istore 5, 2) := by decide +kernel
theorem dX9_timeOf_39 : decode cX9_timeOf 39 = .ok (.iload 5, 2) := by decide +kernel
theorem dX9_timeOf_41 : decode cX9_timeOf 41 = .ok (.iload_n 3, 1) := by decide +kernel
theorem dX9_timeOf_42 : decode cX9_timeOf 42 = .ok (.if_icmp .ne 5, 3) := by decide +kernel
theorem dX9_timeOf_45 : decode cX9_timeOf 45 = .ok (.iload_n 3, 1) := by decide +kernel
theorem dX9_timeOf_46 : decode cX9_timeOf 46 = .ok (.ireturn, 1) := by decide +kernel
theorem dX9_timeOf_47 : decode cX9_timeOf 47 = .ok (.iload 5, 2) := by decide +kernel
theorem dX9_timeOf_49 : decode cX9_timeOf 49 = .ok (.istore_n 3, 1) := by decide +kernel
theorem dX9_timeOf_50 : decode cX9_timeOf 50 = .ok (.iinc 4 1, 3) := by decide +kernel
theorem dX9_timeOf_53 : decode cX9_timeOf 53 = .ok (.goto (-35), 3) := by decide +kernel
theorem dX9_timeOf_56 : decode cX9_timeOf 56 = .ok (.bipush (-5), 2) := by decide +kernel
theorem dX9_timeOf_58 : decode cX9_timeOf 58 = .ok (.ireturn, 1) := by decide +kernel
theorem dX9_timeWithBreaks_0 : decode cX9_timeWithBreaks 0 = .ok (.aload_n 0, 1) := by decide +kernel
theorem dX9_timeWithBreaks_1 : decode cX9_timeWithBreaks 1 = .ok (.iload_n 1, 1) := by decide +kernel
theorem dX9_timeWithBreaks_2 : decode cX9_timeWithBreaks 2 = .ok (.invokevirtual 65, 3) := by decide +kernel
theorem dX9_timeWithBreaks_5 : decode cX9_timeWithBreaks 5 = .ok (.istore_n 3, 1) := by decide +kernel
theorem dX9_timeWithBreaks_6 : decode cX9_timeWithBreaks 6 = .ok (.iconst 0, 1) := by decide +kernel
theorem dX9_timeWithBreaks_7 : decode cX9_timeWithBreaks 7 = .ok (.istore 4, 2) := by decide +kernel
theorem dX9_timeWithBreaks_9 : decode cX9_timeWithBreaks 9 = .ok (.iload 4, 2) := by decide +kernel
theorem dX9_timeWithBreaks_11 : decode cX9_timeWithBreaks 11 = .ok (.iload_n 1, 1) := by decide +kernel
theorem dX9_timeWithBreaks_12 : decode cX9_timeWithBreaks 12 = .ok (.if_icmp .ge 60, 3) := by decide +kernel
theorem dX9_timeWithBreaks_15 : decode cX9_timeWithBreaks 15 = .ok (.aload_n 0, 1) := by decide +kernel
theorem dX9_timeWithBreaks_16 : decode cX9_timeWithBreaks 16 = .ok (.getfield 15, 3) := by decide +kernel
theorem dX9_timeWithBreaks_19 : decode cX9_timeWithBreaks 19 = .ok (.iload 4, 2) := by decide +kernel
theorem dX9_timeWithBreaks_21 : decode cX9_timeWithBreaks 21 = .ok (.invokevirtual 62, 3) := by decide +kernel
theorem dX9_timeWithBreaks_24 : decode cX9_timeWithBreaks 24 = .ok (.istore 5, 2) := by decide +kernel
theorem dX9_timeWithBreaks_26 : decode cX9_timeWithBreaks 26 = .ok (.iload 5, 2) := by decide +kernel
theorem dX9_timeWithBreaks_28 : decode cX9_timeWithBreaks 28 = .ok (.ifCond .le 38, 3) := by decide +kernel
theorem dX9_timeWithBreaks_31 : decode cX9_timeWithBreaks 31 = .ok (.iload_n 2, 1) := by decide +kernel
theorem dX9_timeWithBreaks_32 : decode cX9_timeWithBreaks 32 = .ok (.iload 5, 2) := by decide +kernel
theorem dX9_timeWithBreaks_34 : decode cX9_timeWithBreaks 34 = .ok (.iadd, 1) := by decide +kernel
theorem dX9_timeWithBreaks_35 : decode cX9_timeWithBreaks 35 = .ok (.iconst 1, 1) := by decide +kernel
theorem dX9_timeWithBreaks_36 : decode cX9_timeWithBreaks 36 = .ok (.isub, 1) := by decide +kernel
theorem dX9_timeWithBreaks_37 : decode cX9_timeWithBreaks 37 = .ok (.iload 5, 2) := by decide +kernel
theorem dX9_timeWithBreaks_39 : decode cX9_timeWithBreaks 39 = .ok (.idiv, 1) := by decide +kernel
theorem dX9_timeWithBreaks_40 : decode cX9_timeWithBreaks 40 = .ok (.istore 6, 2) := by decide +kernel
theorem dX9_timeWithBreaks_42 : decode cX9_timeWithBreaks 42 = .ok (.iload_n 3, 1) := by decide +kernel
theorem dX9_timeWithBreaks_43 : decode cX9_timeWithBreaks 43 = .ok (.iload 6, 2) := by decide +kernel
theorem dX9_timeWithBreaks_45 : decode cX9_timeWithBreaks 45 = .ok (.aload_n 0, 1) := by decide +kernel
theorem dX9_timeWithBreaks_46 : decode cX9_timeWithBreaks 46 = .ok (.iload 4, 2) := by decide +kernel
theorem dX9_timeWithBreaks_48 : decode cX9_timeWithBreaks 48 = .ok (.invokevirtual 65, 3) := by decide +kernel
theorem dX9_timeWithBreaks_51 : decode cX9_timeWithBreaks 51 = .ok (.aload_n 0, 1) := by decide +kernel
theorem dX9_timeWithBreaks_52 : decode cX9_timeWithBreaks 52 = .ok (.iload 4, 2) := by decide +kernel
theorem dX9_timeWithBreaks_54 : decode cX9_timeWithBreaks 54 = .ok (.iload_n 1, 1) := by decide +kernel
theorem dX9_timeWithBreaks_55 : decode cX9_timeWithBreaks 55 = .ok (.aload_n 0, 1) := by decide +kernel
theorem dX9_timeWithBreaks_56 : decode cX9_timeWithBreaks 56 = .ok (.getfield 48, 3) := by decide +kernel
theorem dX9_timeWithBreaks_59 : decode cX9_timeWithBreaks 59 = .ok (.invokevirtual 71, 3) := by decide +kernel
theorem dX9_timeWithBreaks_62 : decode cX9_timeWithBreaks 62 = .ok (.iadd, 1) := by decide +kernel
theorem dX9_timeWithBreaks_63 : decode cX9_timeWithBreaks 63 = .ok (.imul, 1) := by decide +kernel
theorem dX9_timeWithBreaks_64 : decode cX9_timeWithBreaks 64 = .ok (.iadd, 1) := by decide +kernel
theorem dX9_timeWithBreaks_65 : decode cX9_timeWithBreaks 65 = .ok (.istore_n 3, 1) := by decide +kernel
theorem dX9_timeWithBreaks_66 : decode cX9_timeWithBreaks 66 = .ok (.iinc 4 1, 3) := by decide +kernel
theorem dX9_timeWithBreaks_69 : decode cX9_timeWithBreaks 69 = .ok (.goto (-60), 3) := by decide +kernel
theorem dX9_timeWithBreaks_72 : decode cX9_timeWithBreaks 72 = .ok (.iload_n 3, 1) := by decide +kernel
theorem dX9_timeWithBreaks_73 : decode cX9_timeWithBreaks 73 = .ok (.ireturn, 1) := by decide +kernel
theorem dX9_worstOf_0 : decode cX9_worstOf 0 = .ok (.iload_n 1, 1) := by decide +kernel
theorem dX9_worstOf_1 : decode cX9_worstOf 1 = .ok (.ifCond .lt 21, 3) := by decide +kernel
theorem dX9_worstOf_4 : decode cX9_worstOf 4 = .ok (.iload_n 1, 1) := by decide +kernel
theorem dX9_worstOf_5 : decode cX9_worstOf 5 = .ok (.aload_n 0, 1) := by decide +kernel
theorem dX9_worstOf_6 : decode cX9_worstOf 6 = .ok (.getfield 9, 3) := by decide +kernel
theorem dX9_worstOf_9 : decode cX9_worstOf 9 = .ok (.arraylength, 1) := by decide +kernel
theorem dX9_worstOf_10 : decode cX9_worstOf 10 = .ok (.if_icmp .ge 12, 3) := by decide +kernel
theorem dX9_worstOf_13 : decode cX9_worstOf 13 = .ok (.aload_n 0, 1) := by decide +kernel
theorem dX9_worstOf_14 : decode cX9_worstOf 14 = .ok (.getfield 9, 3) := by decide +kernel
theorem dX9_worstOf_17 : decode cX9_worstOf 17 = .ok (.iload_n 1, 1) := by decide +kernel
theorem dX9_worstOf_18 : decode cX9_worstOf 18 = .ok (.iaload, 1) := by decide +kernel
theorem dX9_worstOf_19 : decode cX9_worstOf 19 = .ok (.goto 4, 3) := by decide +kernel
theorem dX9_worstOf_22 : decode cX9_worstOf 22 = .ok (.iconst 0, 1) := by decide +kernel
theorem dX9_worstOf_23 : decode cX9_worstOf 23 = .ok (.ireturn, 1) := by decide +kernel
theorem dX9_lateOnes_0 : decode cX9_lateOnes 0 = .ok (.iconst 0, 1) := by decide +kernel
theorem dX9_lateOnes_1 : decode cX9_lateOnes 1 = .ok (.istore_n 1, 1) := by decide +kernel
theorem dX9_lateOnes_2 : decode cX9_lateOnes 2 = .ok (.iconst 0, 1) := by decide +kernel
theorem dX9_lateOnes_3 : decode cX9_lateOnes 3 = .ok (.istore_n 2, 1) := by decide +kernel
theorem dX9_lateOnes_4 : decode cX9_lateOnes 4 = .ok (.iload_n 2, 1) := by decide +kernel
theorem dX9_lateOnes_5 : decode cX9_lateOnes 5 = .ok (.iconst 4, 1) := by decide +kernel
theorem dX9_lateOnes_6 : decode cX9_lateOnes 6 = .ok (.if_icmp .ge 36, 3) := by decide +kernel
theorem dX9_lateOnes_9 : decode cX9_lateOnes 9 = .ok (.aload_n 0, 1) := by decide +kernel
theorem dX9_lateOnes_10 : decode cX9_lateOnes 10 = .ok (.getfield 15, 3) := by decide +kernel
theorem dX9_lateOnes_13 : decode cX9_lateOnes 13 = .ok (.iload_n 2, 1) := by decide +kernel
theorem dX9_lateOnes_14 : decode cX9_lateOnes 14 = .ok (.invokevirtual 52, 3) := by decide +kernel
theorem dX9_lateOnes_17 : decode cX9_lateOnes 17 = .ok (.ifCond .eq 19, 3) := by decide +kernel
theorem dX9_lateOnes_20 : decode cX9_lateOnes 20 = .ok (.aload_n 0, 1) := by decide +kernel
theorem dX9_lateOnes_21 : decode cX9_lateOnes 21 = .ok (.iload_n 2, 1) := by decide +kernel
theorem dX9_lateOnes_22 : decode cX9_lateOnes 22 = .ok (.invokevirtual 75, 3) := by decide +kernel
theorem dX9_lateOnes_25 : decode cX9_lateOnes 25 = .ok (.bipush (-5), 2) := by decide +kernel
theorem dX9_lateOnes_27 : decode cX9_lateOnes 27 = .ok (.if_icmp .ne 9, 3) := by decide +kernel
theorem dX9_lateOnes_30 : decode cX9_lateOnes 30 = .ok (.iload_n 1, 1) := by decide +kernel
theorem dX9_lateOnes_31 : decode cX9_lateOnes 31 = .ok (.iconst 1, 1) := by decide +kernel
theorem dX9_lateOnes_32 : decode cX9_lateOnes 32 = .ok (.iload_n 2, 1) := by decide +kernel
theorem dX9_lateOnes_33 : decode cX9_lateOnes 33 = .ok (.ishl, 1) := by decide +kernel
theorem dX9_lateOnes_34 : decode cX9_lateOnes 34 = .ok (.ior, 1) := by decide +kernel
theorem dX9_lateOnes_35 : decode cX9_lateOnes 35 = .ok (.istore_n 1, 1) := by decide +kernel
theorem dX9_lateOnes_36 : decode cX9_lateOnes 36 = .ok (.iinc 2 1, 3) := by decide +kernel
theorem dX9_lateOnes_39 : decode cX9_lateOnes 39 = .ok (.goto (-35), 3) := by decide +kernel
theorem dX9_lateOnes_42 : decode cX9_lateOnes 42 = .ok (.iload_n 1, 1) := by decide +kernel
theorem dX9_lateOnes_43 : decode cX9_lateOnes 43 = .ok (.ireturn, 1) := by decide +kernel
theorem dX9_greatestMiss_0 : decode cX9_greatestMiss 0 = .ok (.iconst 1, 1) := by decide +kernel
theorem dX9_greatestMiss_1 : decode cX9_greatestMiss 1 = .ok (.istore_n 1, 1) := by decide +kernel
theorem dX9_greatestMiss_2 : decode cX9_greatestMiss 2 = .ok (.bipush 21, 2) := by decide +kernel
theorem dX9_greatestMiss_4 : decode cX9_greatestMiss 4 = .ok (.istore_n 2, 1) := by decide +kernel
theorem dX9_greatestMiss_5 : decode cX9_greatestMiss 5 = .ok (.iconst 0, 1) := by decide +kernel
theorem dX9_greatestMiss_6 : decode cX9_greatestMiss 6 = .ok (.istore_n 3, 1) := by decide +kernel
theorem dX9_greatestMiss_7 : decode cX9_greatestMiss 7 = .ok (.iload_n 3, 1) := by decide +kernel
theorem dX9_greatestMiss_8 : decode cX9_greatestMiss 8 = .ok (.bipush 20, 2) := by decide +kernel
theorem dX9_greatestMiss_10 : decode cX9_greatestMiss 10 = .ok (.if_icmp .ge 45, 3) := by decide +kernel
theorem dX9_greatestMiss_13 : decode cX9_greatestMiss 13 = .ok (.iload_n 2, 1) := by decide +kernel
theorem dX9_greatestMiss_14 : decode cX9_greatestMiss 14 = .ok (.iload_n 1, 1) := by decide +kernel
theorem dX9_greatestMiss_15 : decode cX9_greatestMiss 15 = .ok (.isub, 1) := by decide +kernel
theorem dX9_greatestMiss_16 : decode cX9_greatestMiss 16 = .ok (.iconst 1, 1) := by decide +kernel
theorem dX9_greatestMiss_17 : decode cX9_greatestMiss 17 = .ok (.if_icmp .le 38, 3) := by decide +kernel
theorem dX9_greatestMiss_20 : decode cX9_greatestMiss 20 = .ok (.iload_n 1, 1) := by decide +kernel
theorem dX9_greatestMiss_21 : decode cX9_greatestMiss 21 = .ok (.iload_n 2, 1) := by decide +kernel
theorem dX9_greatestMiss_22 : decode cX9_greatestMiss 22 = .ok (.iadd, 1) := by decide +kernel
theorem dX9_greatestMiss_23 : decode cX9_greatestMiss 23 = .ok (.iconst 2, 1) := by decide +kernel
theorem dX9_greatestMiss_24 : decode cX9_greatestMiss 24 = .ok (.idiv, 1) := by decide +kernel
theorem dX9_greatestMiss_25 : decode cX9_greatestMiss 25 = .ok (.istore 4, 2) := by decide +kernel
theorem dX9_greatestMiss_27 : decode cX9_greatestMiss 27 = .ok (.aload_n 0, 1) := by decide +kernel
theorem dX9_greatestMiss_28 : decode cX9_greatestMiss 28 = .ok (.iload 4, 2) := by decide +kernel
theorem dX9_greatestMiss_30 : decode cX9_greatestMiss 30 = .ok (.invokevirtual 78, 3) := by decide +kernel
theorem dX9_greatestMiss_33 : decode cX9_greatestMiss 33 = .ok (.aload_n 0, 1) := by decide +kernel
theorem dX9_greatestMiss_34 : decode cX9_greatestMiss 34 = .ok (.invokevirtual 82, 3) := by decide +kernel
theorem dX9_greatestMiss_37 : decode cX9_greatestMiss 37 = .ok (.ifCond .ne 9, 3) := by decide +kernel
theorem dX9_greatestMiss_40 : decode cX9_greatestMiss 40 = .ok (.iload 4, 2) := by decide +kernel
theorem dX9_greatestMiss_42 : decode cX9_greatestMiss 42 = .ok (.istore_n 1, 1) := by decide +kernel
theorem dX9_greatestMiss_43 : decode cX9_greatestMiss 43 = .ok (.goto 6, 3) := by decide +kernel
theorem dX9_greatestMiss_46 : decode cX9_greatestMiss 46 = .ok (.iload 4, 2) := by decide +kernel
theorem dX9_greatestMiss_48 : decode cX9_greatestMiss 48 = .ok (.istore_n 2, 1) := by decide +kernel
theorem dX9_greatestMiss_49 : decode cX9_greatestMiss 49 = .ok (.iinc 3 1, 3) := by decide +kernel
theorem dX9_greatestMiss_52 : decode cX9_greatestMiss 52 = .ok (.goto (-45), 3) := by decide +kernel
theorem dX9_greatestMiss_55 : decode cX9_greatestMiss 55 = .ok (.iload_n 1, 1) := by decide +kernel
theorem dX9_greatestMiss_56 : decode cX9_greatestMiss 56 = .ok (.iconst 2, 1) := by decide +kernel
theorem dX9_greatestMiss_57 : decode cX9_greatestMiss 57 = .ok (.if_icmp .ge 8, 3) := by decide +kernel
theorem dX9_greatestMiss_60 : decode cX9_greatestMiss 60 = .ok (.bipush (-6), 2) := by decide +kernel
theorem dX9_greatestMiss_62 : decode cX9_greatestMiss 62 = .ok (.goto 4, 3) := by decide +kernel
theorem dX9_greatestMiss_65 : decode cX9_greatestMiss 65 = .ok (.iload_n 1, 1) := by decide +kernel
theorem dX9_greatestMiss_66 : decode cX9_greatestMiss 66 = .ok (.ireturn, 1) := by decide +kernel
theorem dX10_init_0 : decode cX10_init 0 = .ok (.aload_n 0, 1) := by decide +kernel
theorem dX10_init_1 : decode cX10_init 1 = .ok (.invokespecial 3, 3) := by decide +kernel
theorem dX10_init_4 : decode cX10_init 4 = .ok (.aload_n 0, 1) := by decide +kernel
theorem dX10_init_5 : decode cX10_init 5 = .ok (.iconst 1, 1) := by decide +kernel
theorem dX10_init_6 : decode cX10_init 6 = .ok (.putfield 9, 3) := by decide +kernel
theorem dX10_init_9 : decode cX10_init 9 = .ok (.aload_n 0, 1) := by decide +kernel
theorem dX10_init_10 : decode cX10_init 10 = .ok (.bipush 30, 2) := by decide +kernel
theorem dX10_init_12 : decode cX10_init 12 = .ok (.newarray .int, 2) := by decide +kernel
theorem dX10_init_14 : decode cX10_init 14 = .ok (.putfield 15, 3) := by decide +kernel
theorem dX10_init_17 : decode cX10_init 17 = .ok (.aload_n 0, 1) := by decide +kernel
theorem dX10_init_18 : decode cX10_init 18 = .ok (.bipush 30, 2) := by decide +kernel
theorem dX10_init_20 : decode cX10_init 20 = .ok (.newarray .int, 2) := by decide +kernel
theorem dX10_init_22 : decode cX10_init 22 = .ok (.putfield 19, 3) := by decide +kernel
theorem dX10_init_25 : decode cX10_init 25 = .ok (.aload_n 0, 1) := by decide +kernel
theorem dX10_init_26 : decode cX10_init 26 = .ok (.bipush 30, 2) := by decide +kernel
theorem dX10_init_28 : decode cX10_init 28 = .ok (.newarray .int, 2) := by decide +kernel
theorem dX10_init_30 : decode cX10_init 30 = .ok (.putfield 22, 3) := by decide +kernel
theorem dX10_init_33 : decode cX10_init 33 = .ok (.iconst 0, 1) := by decide +kernel
theorem dX10_init_34 : decode cX10_init 34 = .ok (.istore_n 1, 1) := by decide +kernel
theorem dX10_init_35 : decode cX10_init 35 = .ok (.iload_n 1, 1) := by decide +kernel
theorem dX10_init_36 : decode cX10_init 36 = .ok (.bipush 30, 2) := by decide +kernel
theorem dX10_init_38 : decode cX10_init 38 = .ok (.if_icmp .ge 24, 3) := by decide +kernel
theorem dX10_init_41 : decode cX10_init 41 = .ok (.aload_n 0, 1) := by decide +kernel
theorem dX10_init_42 : decode cX10_init 42 = .ok (.getfield 15, 3) := by decide +kernel
theorem dX10_init_45 : decode cX10_init 45 = .ok (.iload_n 1, 1) := by decide +kernel
theorem dX10_init_46 : decode cX10_init 46 = .ok (.bipush 45, 2) := by decide +kernel
theorem dX10_init_48 : decode cX10_init 48 = .ok (.iastore, 1) := by decide +kernel
theorem dX10_init_49 : decode cX10_init 49 = .ok (.aload_n 0, 1) := by decide +kernel
theorem dX10_init_50 : decode cX10_init 50 = .ok (.getfield 19, 3) := by decide +kernel
theorem dX10_init_53 : decode cX10_init 53 = .ok (.iload_n 1, 1) := by decide +kernel
theorem dX10_init_54 : decode cX10_init 54 = .ok (.iconst 1, 1) := by decide +kernel
theorem dX10_init_55 : decode cX10_init 55 = .ok (.iastore, 1) := by decide +kernel
theorem dX10_init_56 : decode cX10_init 56 = .ok (.iinc 1 1, 3) := by decide +kernel
theorem dX10_init_59 : decode cX10_init 59 = .ok (.goto (-24), 3) := by decide +kernel
theorem dX10_init_62 : decode cX10_init 62 = .ok (.return_, 1) := by decide +kernel
theorem dX10_take_0 : decode cX10_take 0 = .ok (.aload_n 0, 1) := by decide +kernel
theorem dX10_take_1 : decode cX10_take 1 = .ok (.iload_n 2, 1) := by decide +kernel
theorem dX10_take_2 : decode cX10_take 2 = .ok (.aload_n 1, 1) := by decide +kernel
theorem dX10_take_3 : decode cX10_take 3 = .ok (.arraylength, 1) := by decide +kernel
theorem dX10_take_4 : decode cX10_take 4 = .ok (.invokestatic 25, 3) := by decide +kernel
theorem dX10_take_7 : decode cX10_take 7 = .ok (.putfield 9, 3) := by decide +kernel
theorem dX10_take_10 : decode cX10_take 10 = .ok (.bipush 29, 2) := by decide +kernel
theorem dX10_take_12 : decode cX10_take 12 = .ok (.istore_n 3, 1) := by decide +kernel
theorem dX10_take_13 : decode cX10_take 13 = .ok (.iload_n 3, 1) := by decide +kernel
theorem dX10_take_14 : decode cX10_take 14 = .ok (.ifCond .lt 135, 3) := by decide +kernel
theorem dX10_take_17 : decode cX10_take 17 = .ok (.aload_n 0, 1) := by decide +kernel
theorem dX10_take_18 : decode cX10_take 18 = .ok (.getfield 15, 3) := by decide +kernel
theorem dX10_take_21 : decode cX10_take 21 = .ok (.iload_n 3, 1) := by decide +kernel
theorem dX10_take_22 : decode cX10_take 22 = .ok (.iload_n 3, 1) := by decide +kernel
theorem dX10_take_23 : decode cX10_take 23 = .ok (.aload_n 0, 1) := by decide +kernel
theorem dX10_take_24 : decode cX10_take 24 = .ok (.getfield 9, 3) := by decide +kernel
theorem dX10_take_27 : decode cX10_take 27 = .ok (.if_icmp .ge 9, 3) := by decide +kernel
theorem dX10_take_30 : decode cX10_take 30 = .ok (.aload_n 1, 1) := by decide +kernel
theorem dX10_take_31 : decode cX10_take 31 = .ok (.iload_n 3, 1) := by decide +kernel
theorem dX10_take_32 : decode cX10_take 32 = .ok (.iaload, 1) := by decide +kernel
theorem dX10_take_33 : decode cX10_take 33 = .ok (.goto 5, 3) := by decide +kernel
theorem dX10_take_36 : decode cX10_take 36 = .ok (.bipush 45, 2) := by decide +kernel
theorem dX10_take_38 : decode cX10_take 38 = .ok (.iastore, 1) := by decide +kernel
theorem dX10_take_39 : decode cX10_take 39 = .ok (.aload_n 0, 1) := by decide +kernel
theorem dX10_take_40 : decode cX10_take 40 = .ok (.getfield 19, 3) := by decide +kernel
theorem dX10_take_43 : decode cX10_take 43 = .ok (.iload_n 3, 1) := by decide +kernel
theorem dX10_take_44 : decode cX10_take 44 = .ok (.iconst 1, 1) := by decide +kernel
theorem dX10_take_45 : decode cX10_take 45 = .ok (.iastore, 1) := by decide +kernel
theorem dX10_take_46 : decode cX10_take 46 = .ok (.aload_n 0, 1) := by decide +kernel
theorem dX10_take_47 : decode cX10_take 47 = .ok (.getfield 22, 3) := by decide +kernel
theorem dX10_take_50 : decode cX10_take 50 = .ok (.iload_n 3, 1) := by decide +kernel
theorem dX10_take_51 : decode cX10_take 51 = .ok (.aload_n 0, 1) := by decide +kernel
theorem dX10_take_52 : decode cX10_take 52 = .ok (.getfield 15, 3) := by decide +kernel
theorem dX10_take_55 : decode cX10_take 55 = .ok (.iload_n 3, 1) := by decide +kernel
theorem dX10_take_56 : decode cX10_take 56 = .ok (.iaload, 1) := by decide +kernel
theorem dX10_take_57 : decode cX10_take 57 = .ok (.invokestatic 31, 3) := by decide +kernel
theorem dX10_take_60 : decode cX10_take 60 = .ok (.ifCond .eq 13, 3) := by decide +kernel
theorem dX10_take_63 : decode cX10_take 63 = .ok (.iconst 1, 1) := by decide +kernel
theorem dX10_take_64 : decode cX10_take 64 = .ok (.aload_n 0, 1) := by decide +kernel
theorem dX10_take_65 : decode cX10_take 65 = .ok (.iload_n 3, 1) := by decide +kernel
theorem dX10_take_66 : decode cX10_take 66 = .ok (.invokevirtual 35, 3) := by decide +kernel
theorem dX10_take_69 : decode cX10_take 69 = .ok (.ishl, 1) := by decide +kernel
theorem dX10_take_70 : decode cX10_take 70 = .ok (.goto 4, 3) := by decide +kernel
theorem dX10_take_73 : decode cX10_take 73 = .ok (.iconst 0, 1) := by decide +kernel
theorem dX10_take_74 : decode cX10_take 74 = .ok (.iastore, 1) := by decide +kernel
theorem dX10_take_75 : decode cX10_take 75 = .ok (.iload_n 3, 1) := by decide +kernel
theorem dX10_take_76 : decode cX10_take 76 = .ok (.iconst 1, 1) := by decide +kernel
theorem dX10_take_77 : decode cX10_take 77 = .ok (.iadd, 1) := by decide +kernel
theorem dX10_take_78 : decode cX10_take 78 = .ok (.istore 4, 2) := by decide +kernel
theorem dX10_take_80 : decode cX10_take 80 = .ok (.aload_n 0, 1) := by decide +kernel
theorem dX10_take_81 : decode cX10_take 81 = .ok (.getfield 15, 3) := by decide +kernel
theorem dX10_take_84 : decode cX10_take 84 = .ok (.iload_n 3, 1) := by decide +kernel
theorem dX10_take_85 : decode cX10_take 85 = .ok (.iaload, 1) := by decide +kernel
theorem dX10_take_86 : decode cX10_take 86 = .ok (.invokestatic 39, 3) := by decide +kernel
theorem dX10_take_89 : decode cX10_take 89 = .ok (.istore 5, 2) := by decide +kernel
theorem dX10_take_91 : decode cX10_take 91 = .ok (.iload 5, 2) := by decide +kernel
theorem dX10_take_93 : decode cX10_take 93 = .ok (.ifCond .le 50, 3) := by decide +kernel
theorem dX10_take_96 : decode cX10_take 96 = .ok (.aload_n 0, 1) := by decide +kernel
theorem dX10_take_97 : decode cX10_take 97 = .ok (.iload 4, 2) := by decide +kernel
theorem dX10_take_99 : decode cX10_take 99 = .ok (.invokevirtual 42, 3) := by decide +kernel
theorem dX10_take_102 : decode cX10_take 102 = .ok (.istore 6, 2) := by decide +kernel
theorem dX10_take_104 : decode cX10_take 104 = .ok (.aload_n 0, 1) := by decide +kernel
theorem dX10_take_105 : decode cX10_take 105 = .ok (.getfield 19, 3) := by decide +kernel
theorem dX10_take_108 : decode cX10_take 108 = .ok (.iload_n 3, 1) := by decide +kernel
theorem dX10_take_109 : decode cX10_take 109 = .ok (.dup2, 1) := by decide +kernel
theorem dX10_take_110 : decode cX10_take 110 = .ok (.iaload, 1) := by decide +kernel
theorem dX10_take_111 : decode cX10_take 111 = .ok (.iload 6, 2) := by decide +kernel
theorem dX10_take_113 : decode cX10_take 113 = .ok (.iadd, 1) := by decide +kernel
theorem dX10_take_114 : decode cX10_take 114 = .ok (.iastore, 1) := by decide +kernel
theorem dX10_take_115 : decode cX10_take 115 = .ok (.aload_n 0, 1) := by decide +kernel
theorem dX10_take_116 : decode cX10_take 116 = .ok (.getfield 22, 3) := by decide +kernel
theorem dX10_take_119 : decode cX10_take 119 = .ok (.iload_n 3, 1) := by decide +kernel
theorem dX10_take_120 : decode cX10_take 120 = .ok (.dup2, 1) := by decide +kernel
theorem dX10_take_121 : decode cX10_take 121 = .ok (.iaload, 1) := by decide +kernel
theorem dX10_take_122 : decode cX10_take 122 = .ok (.aload_n 0, 1) := by decide +kernel
theorem dX10_take_123 : decode cX10_take 123 = .ok (.iload 4, 2) := by decide +kernel
theorem dX10_take_125 : decode cX10_take 125 = .ok (.invokevirtual 45, 3) := by decide +kernel
theorem dX10_take_128 : decode cX10_take 128 = .ok (.ior, 1) := by decide +kernel
theorem dX10_take_129 : decode cX10_take 129 = .ok (.iastore, 1) := by decide +kernel
theorem dX10_take_130 : decode cX10_take 130 = .ok (.iload 4, 2) := by decide +kernel
theorem dX10_take_132 : decode cX10_take 132 = .ok (.iload 6, 2) := by decide +kernel
theorem dX10_take_134 : decode cX10_take 134 = .ok (.iadd, 1) := by decide +kernel
theorem dX10_take_135 : decode cX10_take 135 = .ok (.istore 4, 2) := by decide +kernel
theorem dX10_take_137 : decode cX10_take 137 = .ok (.iinc 5 (-1), 3) := by decide +kernel
theorem dX10_take_140 : decode cX10_take 140 = .ok (.goto (-49), 3) := by decide +kernel
theorem dX10_take_143 : decode cX10_take 143 = .ok (.iinc 3 (-1), 3) := by decide +kernel
theorem dX10_take_146 : decode cX10_take 146 = .ok (.goto (-133), 3) := by decide +kernel
theorem dX10_take_149 : decode cX10_take 149 = .ok (.return_, 1) := by decide +kernel
theorem dX10_has_0 : decode cX10_has 0 = .ok (.iload_n 1, 1) := by decide +kernel
theorem dX10_has_1 : decode cX10_has 1 = .ok (.ifCond .lt 15, 3) := by decide +kernel
theorem dX10_has_4 : decode cX10_has 4 = .ok (.iload_n 1, 1) := by decide +kernel
theorem dX10_has_5 : decode cX10_has 5 = .ok (.aload_n 0, 1) := by decide +kernel
theorem dX10_has_6 : decode cX10_has 6 = .ok (.getfield 9, 3) := by decide +kernel
theorem dX10_has_9 : decode cX10_has 9 = .ok (.if_icmp .ge 7, 3) := by decide +kernel
theorem dX10_has_12 : decode cX10_has 12 = .ok (.iconst 1, 1) := by decide +kernel
theorem dX10_has_13 : decode cX10_has 13 = .ok (.goto 4, 3) := by decide +kernel
theorem dX10_has_16 : decode cX10_has 16 = .ok (.iconst 0, 1) := by decide +kernel
theorem dX10_has_17 : decode cX10_has 17 = .ok (.ireturn, 1) := by decide +kernel
theorem dX10_signAt_0 : decode cX10_signAt 0 = .ok (.iload_n 1, 1) := by decide +kernel
theorem dX10_signAt_1 : decode cX10_signAt 1 = .ok (.ifCond .lt 18, 3) := by decide +kernel
theorem dX10_signAt_4 : decode cX10_signAt 4 = .ok (.iload_n 1, 1) := by decide +kernel
theorem dX10_signAt_5 : decode cX10_signAt 5 = .ok (.bipush 30, 2) := by decide +kernel
theorem dX10_signAt_7 : decode cX10_signAt 7 = .ok (.if_icmp .ge 12, 3) := by decide +kernel
theorem dX10_signAt_10 : decode cX10_signAt 10 = .ok (.aload_n 0, 1) := by decide +kernel
theorem dX10_signAt_11 : decode cX10_signAt 11 = .ok (.getfield 15, 3) := by decide +kernel
theorem dX10_signAt_14 : decode cX10_signAt 14 = .ok (.iload_n 1, 1) := by decide +kernel
theorem dX10_signAt_15 : decode cX10_signAt 15 = .ok (.iaload, 1) := by decide +kernel
theorem dX10_signAt_16 : decode cX10_signAt 16 = .ok (.goto 5, 3) := by decide +kernel
theorem dX10_signAt_19 : decode cX10_signAt 19 = .ok (.bipush 45, 2) := by decide +kernel
theorem dX10_signAt_21 : decode cX10_signAt 21 = .ok (.ireturn, 1) := by decide +kernel
theorem dX10_sizeAt_0 : decode cX10_sizeAt 0 = .ok (.iload_n 1, 1) := by decide +kernel
theorem dX10_sizeAt_1 : decode cX10_sizeAt 1 = .ok (.ifCond .lt 18, 3) := by decide +kernel
theorem dX10_sizeAt_4 : decode cX10_sizeAt 4 = .ok (.iload_n 1, 1) := by decide +kernel
theorem dX10_sizeAt_5 : decode cX10_sizeAt 5 = .ok (.bipush 30, 2) := by decide +kernel
theorem dX10_sizeAt_7 : decode cX10_sizeAt 7 = .ok (.if_icmp .ge 12, 3) := by decide +kernel
theorem dX10_sizeAt_10 : decode cX10_sizeAt 10 = .ok (.aload_n 0, 1) := by decide +kernel
theorem dX10_sizeAt_11 : decode cX10_sizeAt 11 = .ok (.getfield 19, 3) := by decide +kernel
theorem dX10_sizeAt_14 : decode cX10_sizeAt 14 = .ok (.iload_n 1, 1) := by decide +kernel
theorem dX10_sizeAt_15 : decode cX10_sizeAt 15 = .ok (.iaload, 1) := by decide +kernel
theorem dX10_sizeAt_16 : decode cX10_sizeAt 16 = .ok (.goto 4, 3) := by decide +kernel
theorem dX10_sizeAt_19 : decode cX10_sizeAt 19 = .ok (.iconst 1, 1) := by decide +kernel
theorem dX10_sizeAt_20 : decode cX10_sizeAt 20 = .ok (.ireturn, 1) := by decide +kernel
theorem dX10_linesWithin_0 : decode cX10_linesWithin 0 = .ok (.iload_n 1, 1) := by decide +kernel
theorem dX10_linesWithin_1 : decode cX10_linesWithin 1 = .ok (.ifCond .lt 18, 3) := by decide +kernel
theorem dX10_linesWithin_4 : decode cX10_linesWithin 4 = .ok (.iload_n 1, 1) := by decide +kernel
theorem dX10_linesWithin_5 : decode cX10_linesWithin 5 = .ok (.bipush 30, 2) := by decide +kernel
theorem dX10_linesWithin_7 : decode cX10_linesWithin 7 = .ok (.if_icmp .ge 12, 3) := by decide +kernel
theorem dX10_linesWithin_10 : decode cX10_linesWithin 10 = .ok (.aload_n 0, 1) := by decide +kernel
theorem dX10_linesWithin_11 : decode cX10_linesWithin 11 = .ok (.getfield 22, 3) := by decide +kernel
theorem dX10_linesWithin_14 : decode cX10_linesWithin 14 = .ok (.iload_n 1, 1) := by decide +kernel
theorem dX10_linesWithin_15 : decode cX10_linesWithin 15 = .ok (.iaload, 1) := by decide +kernel
theorem dX10_linesWithin_16 : decode cX10_linesWithin 16 = .ok (.goto 4, 3) := by decide +kernel
theorem dX10_linesWithin_19 : decode cX10_linesWithin 19 = .ok (.iconst 0, 1) := by decide +kernel
theorem dX10_linesWithin_20 : decode cX10_linesWithin 20 = .ok (.ireturn, 1) := by decide +kernel
theorem dX10_allLines_0 : decode cX10_allLines 0 = .ok (.aload_n 0, 1) := by decide +kernel
theorem dX10_allLines_1 : decode cX10_allLines 1 = .ok (.getfield 22, 3) := by decide +kernel
theorem dX10_allLines_4 : decode cX10_allLines 4 = .ok (.iconst 0, 1) := by decide +kernel
theorem dX10_allLines_5 : decode cX10_allLines 5 = .ok (.iaload, 1) := by decide +kernel
theorem dX10_allLines_6 : decode cX10_allLines 6 = .ok (.ireturn, 1) := by decide +kernel
theorem dX10_firstPart_0 : decode cX10_firstPart 0 = .ok (.iload_n 1, 1) := by decide +kernel
theorem dX10_firstPart_1 : decode cX10_firstPart 1 = .ok (.iconst 1, 1) := by decide +kernel
theorem dX10_firstPart_2 : decode cX10_firstPart 2 = .ok (.iadd, 1) := by decide +kernel
theorem dX10_firstPart_3 : decode cX10_firstPart 3 = .ok (.ireturn, 1) := by decide +kernel
theorem dX10_secondPart_0 : decode cX10_secondPart 0 = .ok (.iload_n 1, 1) := by decide +kernel
theorem dX10_secondPart_1 : decode cX10_secondPart 1 = .ok (.iconst 1, 1) := by decide +kernel
theorem dX10_secondPart_2 : decode cX10_secondPart 2 = .ok (.iadd, 1) := by decide +kernel
theorem dX10_secondPart_3 : decode cX10_secondPart 3 = .ok (.aload_n 0, 1) := by decide +kernel
theorem dX10_secondPart_4 : decode cX10_secondPart 4 = .ok (.iload_n 1, 1) := by decide +kernel
theorem dX10_secondPart_5 : decode cX10_secondPart 5 = .ok (.iconst 1, 1) := by decide +kernel
theorem dX10_secondPart_6 : decode cX10_secondPart 6 = .ok (.iadd, 1) := by decide +kernel
theorem dX10_secondPart_7 : decode cX10_secondPart 7 = .ok (.invokevirtual 42, 3) := by decide +kernel
theorem dX10_secondPart_10 : decode cX10_secondPart 10 = .ok (.iadd, 1) := by decide +kernel
theorem dX10_secondPart_11 : decode cX10_secondPart 11 = .ok (.ireturn, 1) := by decide +kernel
theorem dX10_isFetchAt_0 : decode cX10_isFetchAt 0 = .ok (.aload_n 0, 1) := by decide +kernel
theorem dX10_isFetchAt_1 : decode cX10_isFetchAt 1 = .ok (.iload_n 1, 1) := by decide +kernel
theorem dX10_isFetchAt_2 : decode cX10_isFetchAt 2 = .ok (.invokevirtual 48, 3) := by decide +kernel
theorem dX10_isFetchAt_5 : decode cX10_isFetchAt 5 = .ok (.invokestatic 31, 3) := by decide +kernel
theorem dX10_isFetchAt_8 : decode cX10_isFetchAt 8 = .ok (.ireturn, 1) := by decide +kernel
theorem dX10_lineAt_0 : decode cX10_lineAt 0 = .ok (.aload_n 0, 1) := by decide +kernel
theorem dX10_lineAt_1 : decode cX10_lineAt 1 = .ok (.iload_n 1, 1) := by decide +kernel
theorem dX10_lineAt_2 : decode cX10_lineAt 2 = .ok (.invokevirtual 48, 3) := by decide +kernel
theorem dX10_lineAt_5 : decode cX10_lineAt 5 = .ok (.bipush 7, 2) := by decide +kernel
theorem dX10_lineAt_7 : decode cX10_lineAt 7 = .ok (.iand, 1) := by decide +kernel
theorem dX10_lineAt_8 : decode cX10_lineAt 8 = .ok (.ireturn, 1) := by decide +kernel
theorem dX10_timesAt_0 : decode cX10_timesAt 0 = .ok (.aload_n 0, 1) := by decide +kernel
theorem dX10_timesAt_1 : decode cX10_timesAt 1 = .ok (.iload_n 1, 1) := by decide +kernel
theorem dX10_timesAt_2 : decode cX10_timesAt 2 = .ok (.invokevirtual 48, 3) := by decide +kernel
theorem dX10_timesAt_5 : decode cX10_timesAt 5 = .ok (.istore_n 2, 1) := by decide +kernel
theorem dX10_timesAt_6 : decode cX10_timesAt 6 = .ok (.iload_n 2, 1) := by decide +kernel
theorem dX10_timesAt_7 : decode cX10_timesAt 7 = .ok (.bipush 98, 2) := by decide +kernel
theorem dX10_timesAt_9 : decode cX10_timesAt 9 = .ok (.if_icmp .lt 18, 3) := by decide +kernel
theorem dX10_timesAt_12 : decode cX10_timesAt 12 = .ok (.iload_n 2, 1) := by decide +kernel
theorem dX10_timesAt_13 : decode cX10_timesAt 13 = .ok (.bipush 100, 2) := by decide +kernel
theorem dX10_timesAt_15 : decode cX10_timesAt 15 = .ok (.if_icmp .gt 12, 3) := by decide +kernel
theorem dX10_timesAt_18 : decode cX10_timesAt 18 = .ok (.iload_n 2, 1) := by decide +kernel
theorem dX10_timesAt_19 : decode cX10_timesAt 19 = .ok (.bipush 98, 2) := by decide +kernel
theorem dX10_timesAt_21 : decode cX10_timesAt 21 = .ok (.isub, 1) := by decide +kernel
theorem dX10_timesAt_22 : decode cX10_timesAt 22 = .ok (.iconst 2, 1) := by decide +kernel
theorem dX10_timesAt_23 : decode cX10_timesAt 23 = .ok (.iadd, 1) := by decide +kernel
theorem dX10_timesAt_24 : decode cX10_timesAt 24 = .ok (.goto 4, 3) := by decide +kernel
theorem dX10_timesAt_27 : decode cX10_timesAt 27 = .ok (.iconst 0, 1) := by decide +kernel
theorem dX10_timesAt_28 : decode cX10_timesAt 28 = .ok (.ireturn, 1) := by decide +kernel
theorem dX10_isLoopAround_0 : decode cX10_isLoopAround 0 = .ok (.aload_n 0, 1) := by decide +kernel
theorem dX10_isLoopAround_1 : decode cX10_isLoopAround 1 = .ok (.iload_n 1, 1) := by decide +kernel
theorem dX10_isLoopAround_2 : decode cX10_isLoopAround 2 = .ok (.invokevirtual 51, 3) := by decide +kernel
theorem dX10_isLoopAround_5 : decode cX10_isLoopAround 5 = .ok (.ifCond .le 23, 3) := by decide +kernel
theorem dX10_isLoopAround_8 : decode cX10_isLoopAround 8 = .ok (.iload_n 1, 1) := by decide +kernel
theorem dX10_isLoopAround_9 : decode cX10_isLoopAround 9 = .ok (.iload_n 2, 1) := by decide +kernel
theorem dX10_isLoopAround_10 : decode cX10_isLoopAround 10 = .ok (.if_icmp .ge 18, 3) := by decide +kernel
theorem dX10_isLoopAround_13 : decode cX10_isLoopAround 13 = .ok (.iload_n 2, 1) := by decide +kernel
theorem dX10_isLoopAround_14 : decode cX10_isLoopAround 14 = .ok (.iload_n 1, 1) := by decide +kernel
theorem dX10_isLoopAround_15 : decode cX10_isLoopAround 15 = .ok (.aload_n 0, 1) := by decide +kernel
theorem dX10_isLoopAround_16 : decode cX10_isLoopAround 16 = .ok (.iload_n 1, 1) := by decide +kernel
theorem dX10_isLoopAround_17 : decode cX10_isLoopAround 17 = .ok (.invokevirtual 42, 3) := by decide +kernel
theorem dX10_isLoopAround_20 : decode cX10_isLoopAround 20 = .ok (.iadd, 1) := by decide +kernel
theorem dX10_isLoopAround_21 : decode cX10_isLoopAround 21 = .ok (.if_icmp .ge 7, 3) := by decide +kernel
theorem dX10_isLoopAround_24 : decode cX10_isLoopAround 24 = .ok (.iconst 1, 1) := by decide +kernel
theorem dX10_isLoopAround_25 : decode cX10_isLoopAround 25 = .ok (.goto 4, 3) := by decide +kernel
theorem dX10_isLoopAround_28 : decode cX10_isLoopAround 28 = .ok (.iconst 0, 1) := by decide +kernel
theorem dX10_isLoopAround_29 : decode cX10_isLoopAround 29 = .ok (.ireturn, 1) := by decide +kernel
theorem dX11_init_0 : decode cX11_init 0 = .ok (.aload_n 0, 1) := by decide +kernel
theorem dX11_init_1 : decode cX11_init 1 = .ok (.invokespecial 1, 3) := by decide +kernel
theorem dX11_init_4 : decode cX11_init 4 = .ok (.aload_n 0, 1) := by decide +kernel
theorem dX11_init_5 : decode cX11_init 5 = .ok (.new 7, 3) := by decide +kernel
theorem dX11_init_8 : decode cX11_init 8 = .ok (.dup, 1) := by decide +kernel
theorem dX11_init_9 : decode cX11_init 9 = .ok (.invokespecial 9, 3) := by decide +kernel
theorem dX11_init_12 : decode cX11_init 12 = .ok (.putfield 10, 3) := by decide +kernel
theorem dX11_init_15 : decode cX11_init 15 = .ok (.aload_n 0, 1) := by decide +kernel
theorem dX11_init_16 : decode cX11_init 16 = .ok (.new 7, 3) := by decide +kernel
theorem dX11_init_19 : decode cX11_init 19 = .ok (.dup, 1) := by decide +kernel
theorem dX11_init_20 : decode cX11_init 20 = .ok (.invokespecial 9, 3) := by decide +kernel
theorem dX11_init_23 : decode cX11_init 23 = .ok (.putfield 16, 3) := by decide +kernel
theorem dX11_init_26 : decode cX11_init 26 = .ok (.aload_n 0, 1) := by decide +kernel
theorem dX11_init_27 : decode cX11_init 27 = .ok (.new 7, 3) := by decide +kernel
theorem dX11_init_30 : decode cX11_init 30 = .ok (.dup, 1) := by decide +kernel
theorem dX11_init_31 : decode cX11_init 31 = .ok (.invokespecial 9, 3) := by decide +kernel
theorem dX11_init_34 : decode cX11_init 34 = .ok (.putfield 19, 3) := by decide +kernel
theorem dX11_init_37 : decode cX11_init 37 = .ok (.aload_n 0, 1) := by decide +kernel
theorem dX11_init_38 : decode cX11_init 38 = .ok (.new 22, 3) := by decide +kernel
theorem dX11_init_41 : decode cX11_init 41 = .ok (.dup, 1) := by decide +kernel
theorem dX11_init_42 : decode cX11_init 42 = .ok (.invokespecial 24, 3) := by decide +kernel
theorem dX11_init_45 : decode cX11_init 45 = .ok (.putfield 25, 3) := by decide +kernel
theorem dX11_init_48 : decode cX11_init 48 = .ok (.new 29, 3) := by decide +kernel
theorem dX11_init_51 : decode cX11_init 51 = .ok (.dup, 1) := by decide +kernel
theorem dX11_init_52 : decode cX11_init 52 = .ok (.invokespecial 31, 3) := by decide +kernel
theorem dX11_init_55 : decode cX11_init 55 = .ok (.astore_n 1, 1) := by decide +kernel
theorem dX11_init_56 : decode cX11_init 56 = .ok (.aload_n 0, 1) := by decide +kernel
theorem dX11_init_57 : decode cX11_init 57 = .ok (.new 32, 3) := by decide +kernel
theorem dX11_init_60 : decode cX11_init 60 = .ok (.dup, 1) := by decide +kernel
theorem dX11_init_61 : decode cX11_init 61 = .ok (.aload_n 0, 1) := by decide +kernel
theorem dX11_init_62 : decode cX11_init 62 = .ok (.getfield 10, 3) := by decide +kernel
theorem dX11_init_65 : decode cX11_init 65 = .ok (.aload_n 1, 1) := by decide +kernel
theorem dX11_init_66 : decode cX11_init 66 = .ok (.invokespecial 34, 3) := by decide +kernel
theorem dX11_init_69 : decode cX11_init 69 = .ok (.putfield 37, 3) := by decide +kernel
theorem dX11_init_72 : decode cX11_init 72 = .ok (.aload_n 0, 1) := by decide +kernel
theorem dX11_init_73 : decode cX11_init 73 = .ok (.new 41, 3) := by decide +kernel
theorem dX11_init_76 : decode cX11_init 76 = .ok (.dup, 1) := by decide +kernel
theorem dX11_init_77 : decode cX11_init 77 = .ok (.aload_n 0, 1) := by decide +kernel
theorem dX11_init_78 : decode cX11_init 78 = .ok (.getfield 10, 3) := by decide +kernel
theorem dX11_init_81 : decode cX11_init 81 = .ok (.aload_n 1, 1) := by decide +kernel
theorem dX11_init_82 : decode cX11_init 82 = .ok (.invokespecial 43, 3) := by decide +kernel
theorem dX11_init_85 : decode cX11_init 85 = .ok (.putfield 44, 3) := by decide +kernel
theorem dX11_init_88 : decode cX11_init 88 = .ok (.aload_n 0, 1) := by decide +kernel
theorem dX11_init_89 : decode cX11_init 89 = .ok (.new 48, 3) := by decide +kernel
theorem dX11_init_92 : decode cX11_init 92 = .ok (.dup, 1) := by decide +kernel
theorem dX11_init_93 : decode cX11_init 93 = .ok (.aload_n 0, 1) := by decide +kernel
theorem dX11_init_94 : decode cX11_init 94 = .ok (.getfield 10, 3) := by decide +kernel
theorem dX11_init_97 : decode cX11_init 97 = .ok (.aload_n 1, 1) := by decide +kernel
theorem dX11_init_98 : decode cX11_init 98 = .ok (.invokespecial 50, 3) := by decide +kernel
theorem dX11_init_101 : decode cX11_init 101 = .ok (.putfield 51, 3) := by decide +kernel
theorem dX11_init_104 : decode cX11_init 104 = .ok (.aload_n 0, 1) := by decide +kernel
theorem dX11_init_105 : decode cX11_init 105 = .ok (.new 55, 3) := by decide +kernel
theorem dX11_init_108 : decode cX11_init 108 = .ok (.dup, 1) := by decide +kernel
theorem dX11_init_109 : decode cX11_init 109 = .ok (.aload_n 0, 1) := by decide +kernel
theorem dX11_init_110 : decode cX11_init 110 = .ok (.getfield 10, 3) := by decide +kernel
theorem dX11_init_113 : decode cX11_init 113 = .ok (.invokespecial 57, 3) := by decide +kernel
theorem dX11_init_116 : decode cX11_init 116 = .ok (.putfield 60, 3) := by decide +kernel
theorem dX11_init_119 : decode cX11_init 119 = .ok (.aload_n 0, 1) := by decide +kernel
theorem dX11_init_120 : decode cX11_init 120 = .ok (.new 64, 3) := by decide +kernel
theorem dX11_init_123 : decode cX11_init 123 = .ok (.dup, 1) := by decide +kernel
theorem dX11_init_124 : decode cX11_init 124 = .ok (.aload_n 0, 1) := by decide +kernel
theorem dX11_init_125 : decode cX11_init 125 = .ok (.getfield 10, 3) := by decide +kernel
theorem dX11_init_128 : decode cX11_init 128 = .ok (.aload_n 0, 1) := by decide +kernel
theorem dX11_init_129 : decode cX11_init 129 = .ok (.getfield 60, 3) := by decide +kernel
theorem dX11_init_132 : decode cX11_init 132 = .ok (.invokespecial 66, 3) := by decide +kernel
theorem dX11_init_135 : decode cX11_init 135 = .ok (.putfield 69, 3) := by decide +kernel
theorem dX11_init_138 : decode cX11_init 138 = .ok (.aload_n 0, 1) := by decide +kernel
theorem dX11_init_139 : decode cX11_init 139 = .ok (.new 73, 3) := by decide +kernel
theorem dX11_init_142 : decode cX11_init 142 = .ok (.dup, 1) := by decide +kernel
theorem dX11_init_143 : decode cX11_init 143 = .ok (.aload_n 0, 1) := by decide +kernel
theorem dX11_init_144 : decode cX11_init 144 = .ok (.getfield 10, 3) := by decide +kernel
theorem dX11_init_147 : decode cX11_init 147 = .ok (.aload_n 0, 1) := by decide +kernel
theorem dX11_init_148 : decode cX11_init 148 = .ok (.getfield 44, 3) := by decide +kernel
theorem dX11_init_151 : decode cX11_init 151 = .ok (.invokespecial 75, 3) := by decide +kernel
theorem dX11_init_154 : decode cX11_init 154 = .ok (.putfield 78, 3) := by decide +kernel
theorem dX11_init_157 : decode cX11_init 157 = .ok (.return_, 1) := by decide +kernel
theorem dX11_shelf_0 : decode cX11_shelf 0 = .ok (.iload_n 1, 1) := by decide +kernel
theorem dX11_shelf_1 : decode cX11_shelf 1 = .ok (.iload_n 2, 1) := by decide +kernel
theorem dX11_shelf_2 : decode cX11_shelf 2 = .ok (.invokestatic 82, 3) := by decide +kernel
theorem dX11_shelf_5 : decode cX11_shelf 5 = .ok (.ifCond .ne 6, 3) := by decide +kernel
theorem dX11_shelf_8 : decode cX11_shelf 8 = .ok (.bipush (-2), 2) := by decide +kernel
theorem dX11_shelf_10 : decode cX11_shelf 10 = .ok (.ireturn, 1) := by decide +kernel
theorem dX11_shelf_11 : decode cX11_shelf 11 = .ok (.iload_n 1, 1) := by decide +kernel
theorem dX11_shelf_12 : decode cX11_shelf 12 = .ok (.ifCond .ne 7, 3) := by decide +kernel
theorem dX11_shelf_15 : decode cX11_shelf 15 = .ok (.iload_n 2, 1) := by decide +kernel
theorem dX11_shelf_16 : decode cX11_shelf 16 = .ok (.goto 11, 3) := by decide +kernel
theorem dX11_shelf_19 : decode cX11_shelf 19 = .ok (.aload_n 0, 1) := by decide +kernel
theorem dX11_shelf_20 : decode cX11_shelf 20 = .ok (.getfield 10, 3) := by decide +kernel
theorem dX11_shelf_23 : decode cX11_shelf 23 = .ok (.iconst 0, 1) := by decide +kernel
theorem dX11_shelf_24 : decode cX11_shelf 24 = .ok (.invokevirtual 86, 3) := by decide +kernel
theorem dX11_shelf_27 : decode cX11_shelf 27 = .ok (.istore_n 3, 1) := by decide +kernel
theorem dX11_shelf_28 : decode cX11_shelf 28 = .ok (.iload_n 1, 1) := by decide +kernel
theorem dX11_shelf_29 : decode cX11_shelf 29 = .ok (.iconst 1, 1) := by decide +kernel
theorem dX11_shelf_30 : decode cX11_shelf 30 = .ok (.if_icmp .ne 7, 3) := by decide +kernel
theorem dX11_shelf_33 : decode cX11_shelf 33 = .ok (.iload_n 2, 1) := by decide +kernel
theorem dX11_shelf_34 : decode cX11_shelf 34 = .ok (.goto 11, 3) := by decide +kernel
theorem dX11_shelf_37 : decode cX11_shelf 37 = .ok (.aload_n 0, 1) := by decide +kernel
theorem dX11_shelf_38 : decode cX11_shelf 38 = .ok (.getfield 10, 3) := by decide +kernel
theorem dX11_shelf_41 : decode cX11_shelf 41 = .ok (.iconst 1, 1) := by decide +kernel
theorem dX11_shelf_42 : decode cX11_shelf 42 = .ok (.invokevirtual 86, 3) := by decide +kernel
theorem dX11_shelf_45 : decode cX11_shelf 45 = .ok (.istore 4, 2) := by decide +kernel
theorem dX11_shelf_47 : decode cX11_shelf 47 = .ok (.iload_n 1, 1) := by decide +kernel
theorem dX11_shelf_48 : decode cX11_shelf 48 = .ok (.iconst 3, 1) := by decide +kernel
theorem dX11_shelf_49 : decode cX11_shelf 49 = .ok (.if_icmp .ne 7, 3) := by decide +kernel
theorem dX11_shelf_52 : decode cX11_shelf 52 = .ok (.iload_n 2, 1) := by decide +kernel
theorem dX11_shelf_53 : decode cX11_shelf 53 = .ok (.goto 11, 3) := by decide +kernel
theorem dX11_shelf_56 : decode cX11_shelf 56 = .ok (.aload_n 0, 1) := by decide +kernel
theorem dX11_shelf_57 : decode cX11_shelf 57 = .ok (.getfield 10, 3) := by decide +kernel
theorem dX11_shelf_60 : decode cX11_shelf 60 = .ok (.iconst 3, 1) := by decide +kernel
theorem dX11_shelf_61 : decode cX11_shelf 61 = .ok (.invokevirtual 86, 3) := by decide +kernel
theorem dX11_shelf_64 : decode cX11_shelf 64 = .ok (.istore 5, 2) := by decide +kernel
theorem dX11_shelf_66 : decode cX11_shelf 66 = .ok (.iload_n 3, 1) := by decide +kernel
theorem dX11_shelf_67 : decode cX11_shelf 67 = .ok (.iload 4, 2) := by decide +kernel
theorem dX11_shelf_69 : decode cX11_shelf 69 = .ok (.iload 5, 2) := by decide +kernel
theorem dX11_shelf_71 : decode cX11_shelf 71 = .ok (.invokestatic 90, 3) := by decide +kernel
theorem dX11_shelf_74 : decode cX11_shelf 74 = .ok (.ifCond .ne 6, 3) := by decide +kernel
theorem dX11_shelf_77 : decode cX11_shelf 77 = .ok (.bipush (-5), 2) := by decide +kernel
theorem dX11_shelf_79 : decode cX11_shelf 79 = .ok (.ireturn, 1) := by decide +kernel
theorem dX11_shelf_80 : decode cX11_shelf 80 = .ok (.aload_n 0, 1) := by decide +kernel
theorem dX11_shelf_81 : decode cX11_shelf 81 = .ok (.getfield 10, 3) := by decide +kernel
theorem dX11_shelf_84 : decode cX11_shelf 84 = .ok (.iload_n 1, 1) := by decide +kernel
theorem dX11_shelf_85 : decode cX11_shelf 85 = .ok (.invokevirtual 86, 3) := by decide +kernel
theorem dX11_shelf_88 : decode cX11_shelf 88 = .ok (.istore 6, 2) := by decide +kernel
theorem dX11_shelf_90 : decode cX11_shelf 90 = .ok (.aload_n 0, 1) := by decide +kernel
theorem dX11_shelf_91 : decode cX11_shelf 91 = .ok (.getfield 10, 3) := by decide +kernel
theorem dX11_shelf_94 : decode cX11_shelf 94 = .ok (.iload_n 1, 1) := by decide +kernel
theorem dX11_shelf_95 : decode cX11_shelf 95 = .ok (.iload_n 2, 1) := by decide +kernel
theorem dX11_shelf_96 : decode cX11_shelf 96 = .ok (.invokevirtual 94, 3) := by decide +kernel
theorem dX11_shelf_99 : decode cX11_shelf 99 = .ok (.iload 6, 2) := by decide +kernel
theorem dX11_shelf_101 : decode cX11_shelf 101 = .ok (.ireturn, 1) := by decide +kernel
theorem dX11_say_0 : decode cX11_say 0 = .ok (.iload_n 1, 1) := by decide +kernel
theorem dX11_say_1 : decode cX11_say 1 = .ok (.bipush 33, 2) := by decide +kernel
theorem dX11_say_3 : decode cX11_say 3 = .ok (.if_icmp .lt 9, 3) := by decide +kernel
theorem dX11_say_6 : decode cX11_say 6 = .ok (.iload_n 1, 1) := by decide +kernel
theorem dX11_say_7 : decode cX11_say 7 = .ok (.bipush 126, 2) := by decide +kernel
theorem dX11_say_9 : decode cX11_say 9 = .ok (.if_icmp .le 6, 3) := by decide +kernel
theorem dX11_say_12 : decode cX11_say 12 = .ok (.bipush (-2), 2) := by decide +kernel
theorem dX11_say_14 : decode cX11_say 14 = .ok (.ireturn, 1) := by decide +kernel
theorem dX11_say_15 : decode cX11_say 15 = .ok (.aload_n 0, 1) := by decide +kernel
theorem dX11_say_16 : decode cX11_say 16 = .ok (.getfield 25, 3) := by decide +kernel
theorem dX11_say_19 : decode cX11_say 19 = .ok (.iload_n 1, 1) := by decide +kernel
theorem dX11_say_20 : decode cX11_say 20 = .ok (.invokevirtual 98, 3) := by decide +kernel
theorem dX11_say_23 : decode cX11_say 23 = .ok (.ifCond .eq 13, 3) := by decide +kernel
theorem dX11_say_26 : decode cX11_say 26 = .ok (.aload_n 0, 1) := by decide +kernel
theorem dX11_say_27 : decode cX11_say 27 = .ok (.getfield 25, 3) := by decide +kernel
theorem dX11_say_30 : decode cX11_say 30 = .ok (.getfield 102, 3) := by decide +kernel
theorem dX11_say_33 : decode cX11_say 33 = .ok (.goto 5, 3) := by decide +kernel
theorem dX11_say_36 : decode cX11_say 36 = .ok (.bipush (-4), 2) := by decide +kernel
theorem dX11_say_38 : decode cX11_say 38 = .ok (.ireturn, 1) := by decide +kernel
theorem dX11_wipe_0 : decode cX11_wipe 0 = .ok (.aload_n 0, 1) := by decide +kernel
theorem dX11_wipe_1 : decode cX11_wipe 1 = .ok (.getfield 25, 3) := by decide +kernel
theorem dX11_wipe_4 : decode cX11_wipe 4 = .ok (.getfield 102, 3) := by decide +kernel
theorem dX11_wipe_7 : decode cX11_wipe 7 = .ok (.istore_n 1, 1) := by decide +kernel
theorem dX11_wipe_8 : decode cX11_wipe 8 = .ok (.aload_n 0, 1) := by decide +kernel
theorem dX11_wipe_9 : decode cX11_wipe 9 = .ok (.getfield 25, 3) := by decide +kernel
theorem dX11_wipe_12 : decode cX11_wipe 12 = .ok (.iconst 0, 1) := by decide +kernel
theorem dX11_wipe_13 : decode cX11_wipe 13 = .ok (.putfield 102, 3) := by decide +kernel
theorem dX11_wipe_16 : decode cX11_wipe 16 = .ok (.iload_n 1, 1) := by decide +kernel
theorem dX11_wipe_17 : decode cX11_wipe 17 = .ok (.ireturn, 1) := by decide +kernel
theorem dX11_fault_0 : decode cX11_fault 0 = .ok (.aload_n 0, 1) := by decide +kernel
theorem dX11_fault_1 : decode cX11_fault 1 = .ok (.getfield 25, 3) := by decide +kernel
theorem dX11_fault_4 : decode cX11_fault 4 = .ok (.invokevirtual 106, 3) := by decide +kernel
theorem dX11_fault_7 : decode cX11_fault 7 = .ok (.ireturn, 1) := by decide +kernel
theorem dX11_program_0 : decode cX11_program 0 = .ok (.iload_n 1, 1) := by decide +kernel
theorem dX11_program_1 : decode cX11_program 1 = .ok (.invokestatic 110, 3) := by decide +kernel
theorem dX11_program_4 : decode cX11_program 4 = .ok (.ifCond .ne 5, 3) := by decide +kernel
theorem dX11_program_7 : decode cX11_program 7 = .ok (.iconst (-1), 1) := by decide +kernel
theorem dX11_program_8 : decode cX11_program 8 = .ok (.ireturn, 1) := by decide +kernel
theorem dX11_program_9 : decode cX11_program 9 = .ok (.aload_n 0, 1) := by decide +kernel
theorem dX11_program_10 : decode cX11_program 10 = .ok (.getfield 25, 3) := by decide +kernel
theorem dX11_program_13 : decode cX11_program 13 = .ok (.invokevirtual 106, 3) := by decide +kernel
theorem dX11_program_16 : decode cX11_program 16 = .ok (.bipush (-6), 2) := by decide +kernel
theorem dX11_program_18 : decode cX11_program 18 = .ok (.if_icmp .eq 6, 3) := by decide +kernel
theorem dX11_program_21 : decode cX11_program 21 = .ok (.bipush (-5), 2) := by decide +kernel
theorem dX11_program_23 : decode cX11_program 23 = .ok (.ireturn, 1) := by decide +kernel
theorem dX11_program_24 : decode cX11_program 24 = .ok (.aload_n 0, 1) := by decide +kernel
theorem dX11_program_25 : decode cX11_program 25 = .ok (.getfield 10, 3) := by decide +kernel
theorem dX11_program_28 : decode cX11_program 28 = .ok (.iload_n 1, 1) := by decide +kernel
theorem dX11_program_29 : decode cX11_program 29 = .ok (.invokevirtual 113, 3) := by decide +kernel
theorem dX11_program_32 : decode cX11_program 32 = .ok (.astore_n 2, 1) := by decide +kernel
theorem dX11_program_33 : decode cX11_program 33 = .ok (.aload_n 2, 1) := by decide +kernel
theorem dX11_program_34 : decode cX11_program 34 = .ok (.aload_n 0, 1) := by decide +kernel
theorem dX11_program_35 : decode cX11_program 35 = .ok (.getfield 25, 3) := by decide +kernel
theorem dX11_program_38 : decode cX11_program 38 = .ok (.getfield 117, 3) := by decide +kernel
theorem dX11_program_41 : decode cX11_program 41 = .ok (.aload_n 0, 1) := by decide +kernel
theorem dX11_program_42 : decode cX11_program 42 = .ok (.getfield 25, 3) := by decide +kernel
theorem dX11_program_45 : decode cX11_program 45 = .ok (.getfield 102, 3) := by decide +kernel
theorem dX11_program_48 : decode cX11_program 48 = .ok (.invokevirtual 121, 3) := by decide +kernel
theorem dX11_program_51 : decode cX11_program 51 = .ok (.aload_n 0, 1) := by decide +kernel
theorem dX11_program_52 : decode cX11_program 52 = .ok (.getfield 25, 3) := by decide +kernel
theorem dX11_program_55 : decode cX11_program 55 = .ok (.iconst 0, 1) := by decide +kernel
theorem dX11_program_56 : decode cX11_program 56 = .ok (.putfield 102, 3) := by decide +kernel
theorem dX11_program_59 : decode cX11_program 59 = .ok (.aload_n 2, 1) := by decide +kernel
theorem dX11_program_60 : decode cX11_program 60 = .ok (.getfield 127, 3) := by decide +kernel
theorem dX11_program_63 : decode cX11_program 63 = .ok (.ireturn, 1) := by decide +kernel
theorem dX11_node_0 : decode cX11_node 0 = .ok (.iload_n 1, 1) := by decide +kernel
theorem dX11_node_1 : decode cX11_node 1 = .ok (.invokestatic 110, 3) := by decide +kernel
theorem dX11_node_4 : decode cX11_node 4 = .ok (.ifCond .eq 18, 3) := by decide +kernel
theorem dX11_node_7 : decode cX11_node 7 = .ok (.aload_n 0, 1) := by decide +kernel
theorem dX11_node_8 : decode cX11_node 8 = .ok (.getfield 10, 3) := by decide +kernel
theorem dX11_node_11 : decode cX11_node 11 = .ok (.iload_n 1, 1) := by decide +kernel
theorem dX11_node_12 : decode cX11_node 12 = .ok (.invokevirtual 113, 3) := by decide +kernel
theorem dX11_node_15 : decode cX11_node 15 = .ok (.iload_n 2, 1) := by decide +kernel
theorem dX11_node_16 : decode cX11_node 16 = .ok (.invokevirtual 128, 3) := by decide +kernel
theorem dX11_node_19 : decode cX11_node 19 = .ok (.ifCond .ne 5, 3) := by decide +kernel
theorem dX11_node_22 : decode cX11_node 22 = .ok (.iconst (-1), 1) := by decide +kernel
theorem dX11_node_23 : decode cX11_node 23 = .ok (.ireturn, 1) := by decide +kernel
theorem dX11_node_24 : decode cX11_node 24 = .ok (.iload_n 3, 1) := by decide +kernel
theorem dX11_node_25 : decode cX11_node 25 = .ok (.lookupswitch 53 #[(0, 27), (1, 40)], 27) := by decide +kernel
theorem dX11_node_52 : decode cX11_node 52 = .ok (.aload_n 0, 1) := by decide +kernel
theorem dX11_node_53 : decode cX11_node 53 = .ok (.getfield 10, 3) := by decide +kernel
theorem dX11_node_56 : decode cX11_node 56 = .ok (.iload_n 1, 1) := by decide +kernel
theorem dX11_node_57 : decode cX11_node 57 = .ok (.invokevirtual 113, 3) := by decide +kernel
theorem dX11_node_60 : decode cX11_node 60 = .ok (.iload_n 2, 1) := by decide +kernel
theorem dX11_node_61 : decode cX11_node 61 = .ok (.invokevirtual 131, 3) := by decide +kernel
theorem dX11_node_64 : decode cX11_node 64 = .ok (.ireturn, 1) := by decide +kernel
theorem dX11_node_65 : decode cX11_node 65 = .ok (.aload_n 0, 1) := by decide +kernel
theorem dX11_node_66 : decode cX11_node 66 = .ok (.getfield 10, 3) := by decide +kernel
theorem dX11_node_69 : decode cX11_node 69 = .ok (.iload_n 1, 1) := by decide +kernel
theorem dX11_node_70 : decode cX11_node 70 = .ok (.invokevirtual 113, 3) := by decide +kernel
theorem dX11_node_73 : decode cX11_node 73 = .ok (.iload_n 2, 1) := by decide +kernel
theorem dX11_node_74 : decode cX11_node 74 = .ok (.invokevirtual 134, 3) := by decide +kernel
theorem dX11_node_77 : decode cX11_node 77 = .ok (.ireturn, 1) := by decide +kernel
theorem dX11_node_78 : decode cX11_node 78 = .ok (.bipush (-2), 2) := by decide +kernel
theorem dX11_node_80 : decode cX11_node 80 = .ok (.ireturn, 1) := by decide +kernel
theorem dX11_choose_0 : decode cX11_choose 0 = .ok (.iload_n 1, 1) := by decide +kernel
theorem dX11_choose_1 : decode cX11_choose 1 = .ok (.ifCond .lt 9, 3) := by decide +kernel
theorem dX11_choose_4 : decode cX11_choose 4 = .ok (.iload_n 1, 1) := by decide +kernel
theorem dX11_choose_5 : decode cX11_choose 5 = .ok (.bipush 9, 2) := by decide +kernel
theorem dX11_choose_7 : decode cX11_choose 7 = .ok (.if_icmp .le 6, 3) := by decide +kernel
theorem dX11_choose_10 : decode cX11_choose 10 = .ok (.bipush (-2), 2) := by decide +kernel
theorem dX11_choose_12 : decode cX11_choose 12 = .ok (.ireturn, 1) := by decide +kernel
theorem dX11_choose_13 : decode cX11_choose 13 = .ok (.aload_n 0, 1) := by decide +kernel
theorem dX11_choose_14 : decode cX11_choose 14 = .ok (.getfield 10, 3) := by decide +kernel
theorem dX11_choose_17 : decode cX11_choose 17 = .ok (.iload_n 1, 1) := by decide +kernel
theorem dX11_choose_18 : decode cX11_choose 18 = .ok (.invokevirtual 137, 3) := by decide +kernel
theorem dX11_choose_21 : decode cX11_choose 21 = .ok (.ifCond .eq 13, 3) := by decide +kernel
theorem dX11_choose_24 : decode cX11_choose 24 = .ok (.aload_n 0, 1) := by decide +kernel
theorem dX11_choose_25 : decode cX11_choose 25 = .ok (.getfield 10, 3) := by decide +kernel
theorem dX11_choose_28 : decode cX11_choose 28 = .ok (.getfield 140, 3) := by decide +kernel
theorem dX11_choose_31 : decode cX11_choose 31 = .ok (.goto 5, 3) := by decide +kernel
theorem dX11_choose_34 : decode cX11_choose 34 = .ok (.bipush (-4), 2) := by decide +kernel
theorem dX11_choose_36 : decode cX11_choose 36 = .ok (.ireturn, 1) := by decide +kernel
theorem dX11_forget_0 : decode cX11_forget 0 = .ok (.aload_n 0, 1) := by decide +kernel
theorem dX11_forget_1 : decode cX11_forget 1 = .ok (.getfield 10, 3) := by decide +kernel
theorem dX11_forget_4 : decode cX11_forget 4 = .ok (.getfield 140, 3) := by decide +kernel
theorem dX11_forget_7 : decode cX11_forget 7 = .ok (.istore_n 1, 1) := by decide +kernel
theorem dX11_forget_8 : decode cX11_forget 8 = .ok (.aload_n 0, 1) := by decide +kernel
theorem dX11_forget_9 : decode cX11_forget 9 = .ok (.getfield 10, 3) := by decide +kernel
theorem dX11_forget_12 : decode cX11_forget 12 = .ok (.iconst 0, 1) := by decide +kernel
theorem dX11_forget_13 : decode cX11_forget 13 = .ok (.putfield 140, 3) := by decide +kernel
theorem dX11_forget_16 : decode cX11_forget 16 = .ok (.iload_n 1, 1) := by decide +kernel
theorem dX11_forget_17 : decode cX11_forget 17 = .ok (.ireturn, 1) := by decide +kernel
theorem dX11_run_0 : decode cX11_run 0 = .ok (.iload_n 1, 1) := by decide +kernel
theorem dX11_run_1 : decode cX11_run 1 = .ok (.invokestatic 110, 3) := by decide +kernel
theorem dX11_run_4 : decode cX11_run 4 = .ok (.ifCond .ne 5, 3) := by decide +kernel
theorem dX11_run_7 : decode cX11_run 7 = .ok (.iconst (-1), 1) := by decide +kernel
theorem dX11_run_8 : decode cX11_run 8 = .ok (.ireturn, 1) := by decide +kernel
theorem dX11_run_9 : decode cX11_run 9 = .ok (.iload_n 2, 1) := by decide +kernel
theorem dX11_run_10 : decode cX11_run 10 = .ok (.ifCond .lt 8, 3) := by decide +kernel
theorem dX11_run_13 : decode cX11_run 13 = .ok (.iload_n 2, 1) := by decide +kernel
theorem dX11_run_14 : decode cX11_run 14 = .ok (.iconst 4, 1) := by decide +kernel
theorem dX11_run_15 : decode cX11_run 15 = .ok (.if_icmp .le 6, 3) := by decide +kernel
theorem dX11_run_18 : decode cX11_run 18 = .ok (.bipush (-2), 2) := by decide +kernel
theorem dX11_run_20 : decode cX11_run 20 = .ok (.ireturn, 1) := by decide +kernel
theorem dX11_run_21 : decode cX11_run 21 = .ok (.aload_n 0, 1) := by decide +kernel
theorem dX11_run_22 : decode cX11_run 22 = .ok (.getfield 37, 3) := by decide +kernel
theorem dX11_run_25 : decode cX11_run 25 = .ok (.aload_n 0, 1) := by decide +kernel
theorem dX11_run_26 : decode cX11_run 26 = .ok (.getfield 10, 3) := by decide +kernel
theorem dX11_run_29 : decode cX11_run 29 = .ok (.iload_n 1, 1) := by decide +kernel
theorem dX11_run_30 : decode cX11_run 30 = .ok (.invokevirtual 113, 3) := by decide +kernel
theorem dX11_run_33 : decode cX11_run 33 = .ok (.invokevirtual 143, 3) := by decide +kernel
theorem dX11_run_36 : decode cX11_run 36 = .ok (.iload_n 2, 1) := by decide +kernel
theorem dX11_run_37 : decode cX11_run 37 = .ok (.tableswitch 63 0 3 #[31, 39, 47, 55], 31) := by decide +kernel
theorem dX11_run_68 : decode cX11_run 68 = .ok (.aload_n 0, 1) := by decide +kernel
theorem dX11_run_69 : decode cX11_run 69 = .ok (.getfield 37, 3) := by decide +kernel
theorem dX11_run_72 : decode cX11_run 72 = .ok (.getfield 147, 3) := by decide +kernel
theorem dX11_run_75 : decode cX11_run 75 = .ok (.ireturn, 1) := by decide +kernel
theorem dX11_run_76 : decode cX11_run 76 = .ok (.aload_n 0, 1) := by decide +kernel
theorem dX11_run_77 : decode cX11_run 77 = .ok (.getfield 37, 3) := by decide +kernel
theorem dX11_run_80 : decode cX11_run 80 = .ok (.getfield 150, 3) := by decide +kernel
theorem dX11_run_83 : decode cX11_run 83 = .ok (.ireturn, 1) := by decide +kernel
theorem dX11_run_84 : decode cX11_run 84 = .ok (.aload_n 0, 1) := by decide +kernel
theorem dX11_run_85 : decode cX11_run 85 = .ok (.getfield 37, 3) := by decide +kernel
theorem dX11_run_88 : decode cX11_run 88 = .ok (.getfield 153, 3) := by decide +kernel
theorem dX11_run_91 : decode cX11_run 91 = .ok (.ireturn, 1) := by decide +kernel
theorem dX11_run_92 : decode cX11_run 92 = .ok (.aload_n 0, 1) := by decide +kernel
theorem dX11_run_93 : decode cX11_run 93 = .ok (.getfield 37, 3) := by decide +kernel
theorem dX11_run_96 : decode cX11_run 96 = .ok (.getfield 156, 3) := by decide +kernel
theorem dX11_run_99 : decode cX11_run 99 = .ok (.ireturn, 1) := by decide +kernel
theorem dX11_run_100 : decode cX11_run 100 = .ok (.aload_n 0, 1) := by decide +kernel
theorem dX11_run_101 : decode cX11_run 101 = .ok (.getfield 37, 3) := by decide +kernel
theorem dX11_run_104 : decode cX11_run 104 = .ok (.invokevirtual 159, 3) := by decide +kernel
theorem dX11_run_107 : decode cX11_run 107 = .ok (.ireturn, 1) := by decide +kernel
theorem dX11_most_0 : decode cX11_most 0 = .ok (.iload_n 1, 1) := by decide +kernel
theorem dX11_most_1 : decode cX11_most 1 = .ok (.invokestatic 110, 3) := by decide +kernel
theorem dX11_most_4 : decode cX11_most 4 = .ok (.ifCond .ne 5, 3) := by decide +kernel
theorem dX11_most_7 : decode cX11_most 7 = .ok (.iconst (-1), 1) := by decide +kernel
theorem dX11_most_8 : decode cX11_most 8 = .ok (.ireturn, 1) := by decide +kernel
theorem dX11_most_9 : decode cX11_most 9 = .ok (.iload_n 2, 1) := by decide +kernel
theorem dX11_most_10 : decode cX11_most 10 = .ok (.ifCond .lt 8, 3) := by decide +kernel
theorem dX11_most_13 : decode cX11_most 13 = .ok (.iload_n 2, 1) := by decide +kernel
theorem dX11_most_14 : decode cX11_most 14 = .ok (.iconst 2, 1) := by decide +kernel
theorem dX11_most_15 : decode cX11_most 15 = .ok (.if_icmp .le 6, 3) := by decide +kernel
theorem dX11_most_18 : decode cX11_most 18 = .ok (.bipush (-2), 2) := by decide +kernel
theorem dX11_most_20 : decode cX11_most 20 = .ok (.ireturn, 1) := by decide +kernel
theorem dX11_most_21 : decode cX11_most 21 = .ok (.aload_n 0, 1) := by decide +kernel
theorem dX11_most_22 : decode cX11_most 22 = .ok (.getfield 10, 3) := by decide +kernel
theorem dX11_most_25 : decode cX11_most 25 = .ok (.iload_n 1, 1) := by decide +kernel
theorem dX11_most_26 : decode cX11_most 26 = .ok (.invokevirtual 113, 3) := by decide +kernel
theorem dX11_most_29 : decode cX11_most 29 = .ok (.astore_n 3, 1) := by decide +kernel
theorem dX11_most_30 : decode cX11_most 30 = .ok (.aload_n 0, 1) := by decide +kernel
theorem dX11_most_31 : decode cX11_most 31 = .ok (.getfield 44, 3) := by decide +kernel
theorem dX11_most_34 : decode cX11_most 34 = .ok (.aload_n 3, 1) := by decide +kernel
theorem dX11_most_35 : decode cX11_most 35 = .ok (.aload_n 0, 1) := by decide +kernel
theorem dX11_most_36 : decode cX11_most 36 = .ok (.getfield 10, 3) := by decide +kernel
theorem dX11_most_39 : decode cX11_most 39 = .ok (.iconst 2, 1) := by decide +kernel
theorem dX11_most_40 : decode cX11_most 40 = .ok (.invokevirtual 86, 3) := by decide +kernel
theorem dX11_most_43 : decode cX11_most 43 = .ok (.aload_n 0, 1) := by decide +kernel
theorem dX11_most_44 : decode cX11_most 44 = .ok (.getfield 10, 3) := by decide +kernel
theorem dX11_most_47 : decode cX11_most 47 = .ok (.iconst 3, 1) := by decide +kernel
theorem dX11_most_48 : decode cX11_most 48 = .ok (.invokevirtual 86, 3) := by decide +kernel
theorem dX11_most_51 : decode cX11_most 51 = .ok (.iload_n 2, 1) := by decide +kernel
theorem dX11_most_52 : decode cX11_most 52 = .ok (.ifCond .ne 7, 3) := by decide +kernel
theorem dX11_most_55 : decode cX11_most 55 = .ok (.iconst 1, 1) := by decide +kernel
theorem dX11_most_56 : decode cX11_most 56 = .ok (.goto 4, 3) := by decide +kernel
theorem dX11_most_59 : decode cX11_most 59 = .ok (.iconst 0, 1) := by decide +kernel
theorem dX11_most_60 : decode cX11_most 60 = .ok (.invokevirtual 162, 3) := by decide +kernel
theorem dX11_most_63 : decode cX11_most 63 = .ok (.istore 4, 2) := by decide +kernel
theorem dX11_most_65 : decode cX11_most 65 = .ok (.iload_n 2, 1) := by decide +kernel
theorem dX11_most_66 : decode cX11_most 66 = .ok (.iconst 2, 1) := by decide +kernel
theorem dX11_most_67 : decode cX11_most 67 = .ok (.if_icmp .ne 13, 3) := by decide +kernel
theorem dX11_most_70 : decode cX11_most 70 = .ok (.aload_n 0, 1) := by decide +kernel
theorem dX11_most_71 : decode cX11_most 71 = .ok (.getfield 44, 3) := by decide +kernel
theorem dX11_most_74 : decode cX11_most 74 = .ok (.invokevirtual 166, 3) := by decide +kernel
theorem dX11_most_77 : decode cX11_most 77 = .ok (.goto 5, 3) := by decide +kernel
theorem dX11_most_80 : decode cX11_most 80 = .ok (.iload 4, 2) := by decide +kernel
theorem dX11_most_82 : decode cX11_most 82 = .ok (.ireturn, 1) := by decide +kernel
theorem dX11_row_0 : decode cX11_row 0 = .ok (.iload_n 1, 1) := by decide +kernel
theorem dX11_row_1 : decode cX11_row 1 = .ok (.invokestatic 110, 3) := by decide +kernel
theorem dX11_row_4 : decode cX11_row 4 = .ok (.ifCond .ne 5, 3) := by decide +kernel
theorem dX11_row_7 : decode cX11_row 7 = .ok (.iconst (-1), 1) := by decide +kernel
theorem dX11_row_8 : decode cX11_row 8 = .ok (.ireturn, 1) := by decide +kernel
theorem dX11_row_9 : decode cX11_row 9 = .ok (.aload_n 0, 1) := by decide +kernel
theorem dX11_row_10 : decode cX11_row 10 = .ok (.getfield 51, 3) := by decide +kernel
theorem dX11_row_13 : decode cX11_row 13 = .ok (.aload_n 0, 1) := by decide +kernel
theorem dX11_row_14 : decode cX11_row 14 = .ok (.getfield 10, 3) := by decide +kernel
theorem dX11_row_17 : decode cX11_row 17 = .ok (.iload_n 1, 1) := by decide +kernel
theorem dX11_row_18 : decode cX11_row 18 = .ok (.invokevirtual 113, 3) := by decide +kernel
theorem dX11_row_21 : decode cX11_row 21 = .ok (.invokevirtual 169, 3) := by decide +kernel
theorem dX11_row_24 : decode cX11_row 24 = .ok (.aload_n 0, 1) := by decide +kernel
theorem dX11_row_25 : decode cX11_row 25 = .ok (.getfield 51, 3) := by decide +kernel
theorem dX11_row_28 : decode cX11_row 28 = .ok (.getfield 172, 3) := by decide +kernel
theorem dX11_row_31 : decode cX11_row 31 = .ok (.bipush 20, 2) := by decide +kernel
theorem dX11_row_33 : decode cX11_row 33 = .ok (.if_icmp .le 6, 3) := by decide +kernel
theorem dX11_row_36 : decode cX11_row 36 = .ok (.bipush (-3), 2) := by decide +kernel
theorem dX11_row_38 : decode cX11_row 38 = .ok (.ireturn, 1) := by decide +kernel
theorem dX11_row_39 : decode cX11_row 39 = .ok (.iload_n 2, 1) := by decide +kernel
theorem dX11_row_40 : decode cX11_row 40 = .ok (.iconst (-1), 1) := by decide +kernel
theorem dX11_row_41 : decode cX11_row 41 = .ok (.if_icmp .ne 13, 3) := by decide +kernel
theorem dX11_row_44 : decode cX11_row 44 = .ok (.aload_n 0, 1) := by decide +kernel
theorem dX11_row_45 : decode cX11_row 45 = .ok (.getfield 51, 3) := by decide +kernel
theorem dX11_row_48 : decode cX11_row 48 = .ok (.getfield 172, 3) := by decide +kernel
theorem dX11_row_51 : decode cX11_row 51 = .ok (.goto 11, 3) := by decide +kernel
theorem dX11_row_54 : decode cX11_row 54 = .ok (.aload_n 0, 1) := by decide +kernel
theorem dX11_row_55 : decode cX11_row 55 = .ok (.getfield 51, 3) := by decide +kernel
theorem dX11_row_58 : decode cX11_row 58 = .ok (.iload_n 2, 1) := by decide +kernel
theorem dX11_row_59 : decode cX11_row 59 = .ok (.invokevirtual 173, 3) := by decide +kernel
theorem dX11_row_62 : decode cX11_row 62 = .ok (.ireturn, 1) := by decide +kernel
theorem dX11_age_0 : decode cX11_age 0 = .ok (.aload_n 0, 1) := by decide +kernel
theorem dX11_age_1 : decode cX11_age 1 = .ok (.iload_n 1, 1) := by decide +kernel
theorem dX11_age_2 : decode cX11_age 2 = .ok (.iload_n 2, 1) := by decide +kernel
theorem dX11_age_3 : decode cX11_age 3 = .ok (.invokevirtual 176, 3) := by decide +kernel
theorem dX11_age_6 : decode cX11_age 6 = .ok (.ifCond .eq 15, 3) := by decide +kernel
theorem dX11_age_9 : decode cX11_age 9 = .ok (.iload 4, 2) := by decide +kernel
theorem dX11_age_11 : decode cX11_age 11 = .ok (.ifCond .lt 10, 3) := by decide +kernel
theorem dX11_age_14 : decode cX11_age 14 = .ok (.iload 4, 2) := by decide +kernel
theorem dX11_age_16 : decode cX11_age 16 = .ok (.bipush 8, 2) := by decide +kernel
theorem dX11_age_18 : decode cX11_age 18 = .ok (.if_icmp .lt 5, 3) := by decide +kernel
theorem dX11_age_21 : decode cX11_age 21 = .ok (.iconst (-1), 1) := by decide +kernel
theorem dX11_age_22 : decode cX11_age 22 = .ok (.ireturn, 1) := by decide +kernel
theorem dX11_age_23 : decode cX11_age 23 = .ok (.iload_n 3, 1) := by decide +kernel
theorem dX11_age_24 : decode cX11_age 24 = .ok (.ifCond .lt 8, 3) := by decide +kernel
theorem dX11_age_27 : decode cX11_age 27 = .ok (.iload_n 3, 1) := by decide +kernel
theorem dX11_age_28 : decode cX11_age 28 = .ok (.iconst 1, 1) := by decide +kernel
theorem dX11_age_29 : decode cX11_age 29 = .ok (.if_icmp .le 6, 3) := by decide +kernel
theorem dX11_age_32 : decode cX11_age 32 = .ok (.bipush (-2), 2) := by decide +kernel
theorem dX11_age_34 : decode cX11_age 34 = .ok (.ireturn, 1) := by decide +kernel
theorem dX11_age_35 : decode cX11_age 35 = .ok (.aload_n 0, 1) := by decide +kernel
theorem dX11_age_36 : decode cX11_age 36 = .ok (.getfield 60, 3) := by decide +kernel
theorem dX11_age_39 : decode cX11_age 39 = .ok (.aload_n 0, 1) := by decide +kernel
theorem dX11_age_40 : decode cX11_age 40 = .ok (.getfield 10, 3) := by decide +kernel
theorem dX11_age_43 : decode cX11_age 43 = .ok (.iload_n 1, 1) := by decide +kernel
theorem dX11_age_44 : decode cX11_age 44 = .ok (.invokevirtual 113, 3) := by decide +kernel
theorem dX11_age_47 : decode cX11_age 47 = .ok (.invokevirtual 179, 3) := by decide +kernel
theorem dX11_age_50 : decode cX11_age 50 = .ok (.iload_n 3, 1) := by decide +kernel
theorem dX11_age_51 : decode cX11_age 51 = .ok (.ifCond .ne 16, 3) := by decide +kernel
theorem dX11_age_54 : decode cX11_age 54 = .ok (.aload_n 0, 1) := by decide +kernel
theorem dX11_age_55 : decode cX11_age 55 = .ok (.getfield 60, 3) := by decide +kernel
theorem dX11_age_58 : decode cX11_age 58 = .ok (.iload_n 2, 1) := by decide +kernel
theorem dX11_age_59 : decode cX11_age 59 = .ok (.iload 4, 2) := by decide +kernel
theorem dX11_age_61 : decode cX11_age 61 = .ok (.invokevirtual 182, 3) := by decide +kernel
theorem dX11_age_64 : decode cX11_age 64 = .ok (.goto 13, 3) := by decide +kernel
theorem dX11_age_67 : decode cX11_age 67 = .ok (.aload_n 0, 1) := by decide +kernel
theorem dX11_age_68 : decode cX11_age 68 = .ok (.getfield 60, 3) := by decide +kernel
theorem dX11_age_71 : decode cX11_age 71 = .ok (.iload_n 2, 1) := by decide +kernel
theorem dX11_age_72 : decode cX11_age 72 = .ok (.iload 4, 2) := by decide +kernel
theorem dX11_age_74 : decode cX11_age 74 = .ok (.invokevirtual 186, 3) := by decide +kernel
theorem dX11_age_77 : decode cX11_age 77 = .ok (.ireturn, 1) := by decide +kernel
theorem dX11_sort_0 : decode cX11_sort 0 = .ok (.aload_n 0, 1) := by decide +kernel
theorem dX11_sort_1 : decode cX11_sort 1 = .ok (.iload_n 1, 1) := by decide +kernel
theorem dX11_sort_2 : decode cX11_sort 2 = .ok (.iload_n 2, 1) := by decide +kernel
theorem dX11_sort_3 : decode cX11_sort 3 = .ok (.invokevirtual 176, 3) := by decide +kernel
theorem dX11_sort_6 : decode cX11_sort 6 = .ok (.ifCond .ne 5, 3) := by decide +kernel
theorem dX11_sort_9 : decode cX11_sort 9 = .ok (.iconst (-1), 1) := by decide +kernel
theorem dX11_sort_10 : decode cX11_sort 10 = .ok (.ireturn, 1) := by decide +kernel
theorem dX11_sort_11 : decode cX11_sort 11 = .ok (.aload_n 0, 1) := by decide +kernel
theorem dX11_sort_12 : decode cX11_sort 12 = .ok (.getfield 69, 3) := by decide +kernel
theorem dX11_sort_15 : decode cX11_sort 15 = .ok (.aload_n 0, 1) := by decide +kernel
theorem dX11_sort_16 : decode cX11_sort 16 = .ok (.getfield 10, 3) := by decide +kernel
theorem dX11_sort_19 : decode cX11_sort 19 = .ok (.iload_n 1, 1) := by decide +kernel
theorem dX11_sort_20 : decode cX11_sort 20 = .ok (.invokevirtual 113, 3) := by decide +kernel
theorem dX11_sort_23 : decode cX11_sort 23 = .ok (.invokevirtual 189, 3) := by decide +kernel
theorem dX11_sort_26 : decode cX11_sort 26 = .ok (.aload_n 0, 1) := by decide +kernel
theorem dX11_sort_27 : decode cX11_sort 27 = .ok (.getfield 69, 3) := by decide +kernel
theorem dX11_sort_30 : decode cX11_sort 30 = .ok (.iload_n 2, 1) := by decide +kernel
theorem dX11_sort_31 : decode cX11_sort 31 = .ok (.invokevirtual 192, 3) := by decide +kernel
theorem dX11_sort_34 : decode cX11_sort 34 = .ok (.ireturn, 1) := by decide +kernel
theorem dX11_bound_0 : decode cX11_bound 0 = .ok (.iload_n 1, 1) := by decide +kernel
theorem dX11_bound_1 : decode cX11_bound 1 = .ok (.invokestatic 110, 3) := by decide +kernel
theorem dX11_bound_4 : decode cX11_bound 4 = .ok (.ifCond .ne 5, 3) := by decide +kernel
theorem dX11_bound_7 : decode cX11_bound 7 = .ok (.iconst (-1), 1) := by decide +kernel
theorem dX11_bound_8 : decode cX11_bound 8 = .ok (.ireturn, 1) := by decide +kernel
theorem dX11_bound_9 : decode cX11_bound 9 = .ok (.iload_n 2, 1) := by decide +kernel
theorem dX11_bound_10 : decode cX11_bound 10 = .ok (.ifCond .lt 8, 3) := by decide +kernel
theorem dX11_bound_13 : decode cX11_bound 13 = .ok (.iload_n 2, 1) := by decide +kernel
theorem dX11_bound_14 : decode cX11_bound 14 = .ok (.iconst 1, 1) := by decide +kernel
theorem dX11_bound_15 : decode cX11_bound 15 = .ok (.if_icmp .le 6, 3) := by decide +kernel
theorem dX11_bound_18 : decode cX11_bound 18 = .ok (.bipush (-2), 2) := by decide +kernel
theorem dX11_bound_20 : decode cX11_bound 20 = .ok (.ireturn, 1) := by decide +kernel
theorem dX11_bound_21 : decode cX11_bound 21 = .ok (.aload_n 0, 1) := by decide +kernel
theorem dX11_bound_22 : decode cX11_bound 22 = .ok (.getfield 69, 3) := by decide +kernel
theorem dX11_bound_25 : decode cX11_bound 25 = .ok (.aload_n 0, 1) := by decide +kernel
theorem dX11_bound_26 : decode cX11_bound 26 = .ok (.getfield 10, 3) := by decide +kernel
theorem dX11_bound_29 : decode cX11_bound 29 = .ok (.iload_n 1, 1) := by decide +kernel
theorem dX11_bound_30 : decode cX11_bound 30 = .ok (.invokevirtual 113, 3) := by decide +kernel
theorem dX11_bound_33 : decode cX11_bound 33 = .ok (.invokevirtual 189, 3) := by decide +kernel
theorem dX11_bound_36 : decode cX11_bound 36 = .ok (.iload_n 2, 1) := by decide +kernel
theorem dX11_bound_37 : decode cX11_bound 37 = .ok (.ifCond .ne 13, 3) := by decide +kernel
theorem dX11_bound_40 : decode cX11_bound 40 = .ok (.aload_n 0, 1) := by decide +kernel
theorem dX11_bound_41 : decode cX11_bound 41 = .ok (.getfield 69, 3) := by decide +kernel
theorem dX11_bound_44 : decode cX11_bound 44 = .ok (.invokevirtual 195, 3) := by decide +kernel
theorem dX11_bound_47 : decode cX11_bound 47 = .ok (.goto 10, 3) := by decide +kernel
theorem dX11_bound_50 : decode cX11_bound 50 = .ok (.aload_n 0, 1) := by decide +kernel
theorem dX11_bound_51 : decode cX11_bound 51 = .ok (.getfield 69, 3) := by decide +kernel
theorem dX11_bound_54 : decode cX11_bound 54 = .ok (.invokevirtual 198, 3) := by decide +kernel
theorem dX11_bound_57 : decode cX11_bound 57 = .ok (.ireturn, 1) := by decide +kernel
theorem dX11_fast_0 : decode cX11_fast 0 = .ok (.iload_n 1, 1) := by decide +kernel
theorem dX11_fast_1 : decode cX11_fast 1 = .ok (.invokestatic 110, 3) := by decide +kernel
theorem dX11_fast_4 : decode cX11_fast 4 = .ok (.ifCond .ne 5, 3) := by decide +kernel
theorem dX11_fast_7 : decode cX11_fast 7 = .ok (.iconst (-1), 1) := by decide +kernel
theorem dX11_fast_8 : decode cX11_fast 8 = .ok (.ireturn, 1) := by decide +kernel
theorem dX11_fast_9 : decode cX11_fast 9 = .ok (.iload_n 2, 1) := by decide +kernel
theorem dX11_fast_10 : decode cX11_fast 10 = .ok (.ifCond .lt 8, 3) := by decide +kernel
theorem dX11_fast_13 : decode cX11_fast 13 = .ok (.iload_n 2, 1) := by decide +kernel
theorem dX11_fast_14 : decode cX11_fast 14 = .ok (.iconst 1, 1) := by decide +kernel
theorem dX11_fast_15 : decode cX11_fast 15 = .ok (.if_icmp .le 6, 3) := by decide +kernel
theorem dX11_fast_18 : decode cX11_fast 18 = .ok (.bipush (-2), 2) := by decide +kernel
theorem dX11_fast_20 : decode cX11_fast 20 = .ok (.ireturn, 1) := by decide +kernel
theorem dX11_fast_21 : decode cX11_fast 21 = .ok (.aload_n 0, 1) := by decide +kernel
theorem dX11_fast_22 : decode cX11_fast 22 = .ok (.getfield 44, 3) := by decide +kernel
theorem dX11_fast_25 : decode cX11_fast 25 = .ok (.aload_n 0, 1) := by decide +kernel
theorem dX11_fast_26 : decode cX11_fast 26 = .ok (.getfield 10, 3) := by decide +kernel
theorem dX11_fast_29 : decode cX11_fast 29 = .ok (.iload_n 1, 1) := by decide +kernel
theorem dX11_fast_30 : decode cX11_fast 30 = .ok (.invokevirtual 113, 3) := by decide +kernel
theorem dX11_fast_33 : decode cX11_fast 33 = .ok (.invokevirtual 201, 3) := by decide +kernel
theorem dX11_fast_36 : decode cX11_fast 36 = .ok (.iload_n 2, 1) := by decide +kernel
theorem dX11_fast_37 : decode cX11_fast 37 = .ok (.ifCond .ne 13, 3) := by decide +kernel
theorem dX11_fast_40 : decode cX11_fast 40 = .ok (.aload_n 0, 1) := by decide +kernel
theorem dX11_fast_41 : decode cX11_fast 41 = .ok (.getfield 44, 3) := by decide +kernel
theorem dX11_fast_44 : decode cX11_fast 44 = .ok (.getfield 204, 3) := by decide +kernel
theorem dX11_fast_47 : decode cX11_fast 47 = .ok (.goto 10, 3) := by decide +kernel
theorem dX11_fast_50 : decode cX11_fast 50 = .ok (.aload_n 0, 1) := by decide +kernel
theorem dX11_fast_51 : decode cX11_fast 51 = .ok (.getfield 44, 3) := by decide +kernel
theorem dX11_fast_54 : decode cX11_fast 54 = .ok (.getfield 207, 3) := by decide +kernel
theorem dX11_fast_57 : decode cX11_fast 57 = .ok (.ireturn, 1) := by decide +kernel
theorem dX11_crowd_0 : decode cX11_crowd 0 = .ok (.iload_n 1, 1) := by decide +kernel
theorem dX11_crowd_1 : decode cX11_crowd 1 = .ok (.invokestatic 110, 3) := by decide +kernel
theorem dX11_crowd_4 : decode cX11_crowd 4 = .ok (.ifCond .eq 17, 3) := by decide +kernel
theorem dX11_crowd_7 : decode cX11_crowd 7 = .ok (.aload_n 0, 1) := by decide +kernel
theorem dX11_crowd_8 : decode cX11_crowd 8 = .ok (.getfield 10, 3) := by decide +kernel
theorem dX11_crowd_11 : decode cX11_crowd 11 = .ok (.iload_n 1, 1) := by decide +kernel
theorem dX11_crowd_12 : decode cX11_crowd 12 = .ok (.invokevirtual 113, 3) := by decide +kernel
theorem dX11_crowd_15 : decode cX11_crowd 15 = .ok (.invokevirtual 210, 3) := by decide +kernel
theorem dX11_crowd_18 : decode cX11_crowd 18 = .ok (.goto 4, 3) := by decide +kernel
theorem dX11_crowd_21 : decode cX11_crowd 21 = .ok (.iconst (-1), 1) := by decide +kernel
theorem dX11_crowd_22 : decode cX11_crowd 22 = .ok (.ireturn, 1) := by decide +kernel
theorem dX11_period_0 : decode cX11_period 0 = .ok (.iload_n 1, 1) := by decide +kernel
theorem dX11_period_1 : decode cX11_period 1 = .ok (.invokestatic 110, 3) := by decide +kernel
theorem dX11_period_4 : decode cX11_period 4 = .ok (.ifCond .ne 5, 3) := by decide +kernel
theorem dX11_period_7 : decode cX11_period 7 = .ok (.iconst (-1), 1) := by decide +kernel
theorem dX11_period_8 : decode cX11_period 8 = .ok (.ireturn, 1) := by decide +kernel
theorem dX11_period_9 : decode cX11_period 9 = .ok (.iload_n 2, 1) := by decide +kernel
theorem dX11_period_10 : decode cX11_period 10 = .ok (.ifCond .lt 10, 3) := by decide +kernel
theorem dX11_period_13 : decode cX11_period 13 = .ok (.iload_n 2, 1) := by decide +kernel
theorem dX11_period_14 : decode cX11_period 14 = .ok (.sipush 9999, 3) := by decide +kernel
theorem dX11_period_17 : decode cX11_period 17 = .ok (.if_icmp .le 6, 3) := by decide +kernel
theorem dX11_period_20 : decode cX11_period 20 = .ok (.bipush (-2), 2) := by decide +kernel
theorem dX11_period_22 : decode cX11_period 22 = .ok (.ireturn, 1) := by decide +kernel
theorem dX11_period_23 : decode cX11_period 23 = .ok (.aload_n 0, 1) := by decide +kernel
theorem dX11_period_24 : decode cX11_period 24 = .ok (.getfield 10, 3) := by decide +kernel
theorem dX11_period_27 : decode cX11_period 27 = .ok (.iload_n 1, 1) := by decide +kernel
theorem dX11_period_28 : decode cX11_period 28 = .ok (.invokevirtual 213, 3) := by decide +kernel
theorem dX11_period_31 : decode cX11_period 31 = .ok (.istore_n 3, 1) := by decide +kernel
theorem dX11_period_32 : decode cX11_period 32 = .ok (.aload_n 0, 1) := by decide +kernel
theorem dX11_period_33 : decode cX11_period 33 = .ok (.getfield 10, 3) := by decide +kernel
theorem dX11_period_36 : decode cX11_period 36 = .ok (.iload_n 1, 1) := by decide +kernel
theorem dX11_period_37 : decode cX11_period 37 = .ok (.iload_n 2, 1) := by decide +kernel
theorem dX11_period_38 : decode cX11_period 38 = .ok (.invokevirtual 216, 3) := by decide +kernel
theorem dX11_period_41 : decode cX11_period 41 = .ok (.iload_n 3, 1) := by decide +kernel
theorem dX11_period_42 : decode cX11_period 42 = .ok (.ireturn, 1) := by decide +kernel
theorem dX11_breaks_0 : decode cX11_breaks 0 = .ok (.iload_n 1, 1) := by decide +kernel
theorem dX11_breaks_1 : decode cX11_breaks 1 = .ok (.invokestatic 110, 3) := by decide +kernel
theorem dX11_breaks_4 : decode cX11_breaks 4 = .ok (.ifCond .eq 15, 3) := by decide +kernel
theorem dX11_breaks_7 : decode cX11_breaks 7 = .ok (.iload_n 2, 1) := by decide +kernel
theorem dX11_breaks_8 : decode cX11_breaks 8 = .ok (.invokestatic 110, 3) := by decide +kernel
theorem dX11_breaks_11 : decode cX11_breaks 11 = .ok (.ifCond .eq 8, 3) := by decide +kernel
theorem dX11_breaks_14 : decode cX11_breaks 14 = .ok (.iload_n 2, 1) := by decide +kernel
theorem dX11_breaks_15 : decode cX11_breaks 15 = .ok (.iload_n 1, 1) := by decide +kernel
theorem dX11_breaks_16 : decode cX11_breaks 16 = .ok (.if_icmp .gt 5, 3) := by decide +kernel
theorem dX11_breaks_19 : decode cX11_breaks 19 = .ok (.iconst (-1), 1) := by decide +kernel
theorem dX11_breaks_20 : decode cX11_breaks 20 = .ok (.ireturn, 1) := by decide +kernel
theorem dX11_breaks_21 : decode cX11_breaks 21 = .ok (.aload_n 0, 1) := by decide +kernel
theorem dX11_breaks_22 : decode cX11_breaks 22 = .ok (.getfield 10, 3) := by decide +kernel
theorem dX11_breaks_25 : decode cX11_breaks 25 = .ok (.iload_n 1, 1) := by decide +kernel
theorem dX11_breaks_26 : decode cX11_breaks 26 = .ok (.invokevirtual 219, 3) := by decide +kernel
theorem dX11_breaks_29 : decode cX11_breaks 29 = .ok (.ifCond .eq 14, 3) := by decide +kernel
theorem dX11_breaks_32 : decode cX11_breaks 32 = .ok (.aload_n 0, 1) := by decide +kernel
theorem dX11_breaks_33 : decode cX11_breaks 33 = .ok (.getfield 10, 3) := by decide +kernel
theorem dX11_breaks_36 : decode cX11_breaks 36 = .ok (.iload_n 2, 1) := by decide +kernel
theorem dX11_breaks_37 : decode cX11_breaks 37 = .ok (.invokevirtual 219, 3) := by decide +kernel
theorem dX11_breaks_40 : decode cX11_breaks 40 = .ok (.ifCond .ne 6, 3) := by decide +kernel
theorem dX11_breaks_43 : decode cX11_breaks 43 = .ok (.bipush (-3), 2) := by decide +kernel
theorem dX11_breaks_45 : decode cX11_breaks 45 = .ok (.ireturn, 1) := by decide +kernel
theorem dX11_breaks_46 : decode cX11_breaks 46 = .ok (.aload_n 0, 1) := by decide +kernel
theorem dX11_breaks_47 : decode cX11_breaks 47 = .ok (.getfield 78, 3) := by decide +kernel
theorem dX11_breaks_50 : decode cX11_breaks 50 = .ok (.iload_n 1, 1) := by decide +kernel
theorem dX11_breaks_51 : decode cX11_breaks 51 = .ok (.iload_n 2, 1) := by decide +kernel
theorem dX11_breaks_52 : decode cX11_breaks 52 = .ok (.aload_n 0, 1) := by decide +kernel
theorem dX11_breaks_53 : decode cX11_breaks 53 = .ok (.getfield 10, 3) := by decide +kernel
theorem dX11_breaks_56 : decode cX11_breaks 56 = .ok (.iconst 2, 1) := by decide +kernel
theorem dX11_breaks_57 : decode cX11_breaks 57 = .ok (.invokevirtual 86, 3) := by decide +kernel
theorem dX11_breaks_60 : decode cX11_breaks 60 = .ok (.invokevirtual 222, 3) := by decide +kernel
theorem dX11_breaks_63 : decode cX11_breaks 63 = .ok (.ireturn, 1) := by decide +kernel
theorem dX11_done_0 : decode cX11_done 0 = .ok (.iload_n 1, 1) := by decide +kernel
theorem dX11_done_1 : decode cX11_done 1 = .ok (.invokestatic 110, 3) := by decide +kernel
theorem dX11_done_4 : decode cX11_done 4 = .ok (.ifCond .ne 5, 3) := by decide +kernel
theorem dX11_done_7 : decode cX11_done 7 = .ok (.iconst (-1), 1) := by decide +kernel
theorem dX11_done_8 : decode cX11_done 8 = .ok (.ireturn, 1) := by decide +kernel
theorem dX11_done_9 : decode cX11_done 9 = .ok (.aload_n 0, 1) := by decide +kernel
theorem dX11_done_10 : decode cX11_done 10 = .ok (.getfield 10, 3) := by decide +kernel
theorem dX11_done_13 : decode cX11_done 13 = .ok (.iload_n 1, 1) := by decide +kernel
theorem dX11_done_14 : decode cX11_done 14 = .ok (.invokevirtual 219, 3) := by decide +kernel
theorem dX11_done_17 : decode cX11_done 17 = .ok (.ifCond .ne 6, 3) := by decide +kernel
theorem dX11_done_20 : decode cX11_done 20 = .ok (.bipush (-3), 2) := by decide +kernel
theorem dX11_done_22 : decode cX11_done 22 = .ok (.ireturn, 1) := by decide +kernel
theorem dX11_done_23 : decode cX11_done 23 = .ok (.aload_n 0, 1) := by decide +kernel
theorem dX11_done_24 : decode cX11_done 24 = .ok (.getfield 78, 3) := by decide +kernel
theorem dX11_done_27 : decode cX11_done 27 = .ok (.aload_n 0, 1) := by decide +kernel
theorem dX11_done_28 : decode cX11_done 28 = .ok (.getfield 10, 3) := by decide +kernel
theorem dX11_done_31 : decode cX11_done 31 = .ok (.iconst 2, 1) := by decide +kernel
theorem dX11_done_32 : decode cX11_done 32 = .ok (.invokevirtual 86, 3) := by decide +kernel
theorem dX11_done_35 : decode cX11_done 35 = .ok (.invokevirtual 226, 3) := by decide +kernel
theorem dX11_done_38 : decode cX11_done 38 = .ok (.aload_n 0, 1) := by decide +kernel
theorem dX11_done_39 : decode cX11_done 39 = .ok (.getfield 78, 3) := by decide +kernel
theorem dX11_done_42 : decode cX11_done 42 = .ok (.iload_n 1, 1) := by decide +kernel
theorem dX11_done_43 : decode cX11_done 43 = .ok (.invokevirtual 230, 3) := by decide +kernel
theorem dX11_done_46 : decode cX11_done 46 = .ok (.ireturn, 1) := by decide +kernel
theorem dX11_late_0 : decode cX11_late 0 = .ok (.iload_n 1, 1) := by decide +kernel
theorem dX11_late_1 : decode cX11_late 1 = .ok (.lookupswitch 58 #[(0, 27), (1, 50)], 27) := by decide +kernel
theorem dX11_late_28 : decode cX11_late 28 = .ok (.aload_n 0, 1) := by decide +kernel
theorem dX11_late_29 : decode cX11_late 29 = .ok (.getfield 78, 3) := by decide +kernel
theorem dX11_late_32 : decode cX11_late 32 = .ok (.aload_n 0, 1) := by decide +kernel
theorem dX11_late_33 : decode cX11_late 33 = .ok (.getfield 10, 3) := by decide +kernel
theorem dX11_late_36 : decode cX11_late 36 = .ok (.iconst 2, 1) := by decide +kernel
theorem dX11_late_37 : decode cX11_late 37 = .ok (.invokevirtual 86, 3) := by decide +kernel
theorem dX11_late_40 : decode cX11_late 40 = .ok (.invokevirtual 226, 3) := by decide +kernel
theorem dX11_late_43 : decode cX11_late 43 = .ok (.aload_n 0, 1) := by decide +kernel
theorem dX11_late_44 : decode cX11_late 44 = .ok (.getfield 78, 3) := by decide +kernel
theorem dX11_late_47 : decode cX11_late 47 = .ok (.invokevirtual 233, 3) := by decide +kernel
theorem dX11_late_50 : decode cX11_late 50 = .ok (.ireturn, 1) := by decide +kernel
theorem dX11_late_51 : decode cX11_late 51 = .ok (.aload_n 0, 1) := by decide +kernel
theorem dX11_late_52 : decode cX11_late 52 = .ok (.getfield 78, 3) := by decide +kernel
theorem dX11_late_55 : decode cX11_late 55 = .ok (.invokevirtual 236, 3) := by decide +kernel
theorem dX11_late_58 : decode cX11_late 58 = .ok (.ireturn, 1) := by decide +kernel
theorem dX11_late_59 : decode cX11_late 59 = .ok (.bipush (-2), 2) := by decide +kernel
theorem dX11_late_61 : decode cX11_late 61 = .ok (.ireturn, 1) := by decide +kernel
theorem dX11_image_0 : decode cX11_image 0 = .ok (.iload_n 1, 1) := by decide +kernel
theorem dX11_image_1 : decode cX11_image 1 = .ok (.ifCond .lt 8, 3) := by decide +kernel
theorem dX11_image_4 : decode cX11_image 4 = .ok (.iload_n 1, 1) := by decide +kernel
theorem dX11_image_5 : decode cX11_image 5 = .ok (.iconst 1, 1) := by decide +kernel
theorem dX11_image_6 : decode cX11_image 6 = .ok (.if_icmp .le 6, 3) := by decide +kernel
theorem dX11_image_9 : decode cX11_image 9 = .ok (.bipush (-2), 2) := by decide +kernel
theorem dX11_image_11 : decode cX11_image 11 = .ok (.ireturn, 1) := by decide +kernel
theorem dX11_image_12 : decode cX11_image 12 = .ok (.aload_n 0, 1) := by decide +kernel
theorem dX11_image_13 : decode cX11_image 13 = .ok (.iload_n 1, 1) := by decide +kernel
theorem dX11_image_14 : decode cX11_image 14 = .ok (.invokevirtual 239, 3) := by decide +kernel
theorem dX11_image_17 : decode cX11_image 17 = .ok (.astore_n 2, 1) := by decide +kernel
theorem dX11_image_18 : decode cX11_image 18 = .ok (.aload_n 2, 1) := by decide +kernel
theorem dX11_image_19 : decode cX11_image 19 = .ok (.aload_n 0, 1) := by decide +kernel
theorem dX11_image_20 : decode cX11_image 20 = .ok (.getfield 10, 3) := by decide +kernel
theorem dX11_image_23 : decode cX11_image 23 = .ok (.invokevirtual 243, 3) := by decide +kernel
theorem dX11_image_26 : decode cX11_image 26 = .ok (.aload_n 2, 1) := by decide +kernel
theorem dX11_image_27 : decode cX11_image 27 = .ok (.iconst 1, 1) := by decide +kernel
theorem dX11_image_28 : decode cX11_image 28 = .ok (.putfield 246, 3) := by decide +kernel
theorem dX11_image_31 : decode cX11_image 31 = .ok (.iconst 1, 1) := by decide +kernel
theorem dX11_image_32 : decode cX11_image 32 = .ok (.ireturn, 1) := by decide +kernel
theorem dX11_restore_0 : decode cX11_restore 0 = .ok (.iload_n 1, 1) := by decide +kernel
theorem dX11_restore_1 : decode cX11_restore 1 = .ok (.ifCond .lt 8, 3) := by decide +kernel
theorem dX11_restore_4 : decode cX11_restore 4 = .ok (.iload_n 1, 1) := by decide +kernel
theorem dX11_restore_5 : decode cX11_restore 5 = .ok (.iconst 1, 1) := by decide +kernel
theorem dX11_restore_6 : decode cX11_restore 6 = .ok (.if_icmp .le 6, 3) := by decide +kernel
theorem dX11_restore_9 : decode cX11_restore 9 = .ok (.bipush (-2), 2) := by decide +kernel
theorem dX11_restore_11 : decode cX11_restore 11 = .ok (.ireturn, 1) := by decide +kernel
theorem dX11_restore_12 : decode cX11_restore 12 = .ok (.aload_n 0, 1) := by decide +kernel
theorem dX11_restore_13 : decode cX11_restore 13 = .ok (.iload_n 1, 1) := by decide +kernel
theorem dX11_restore_14 : decode cX11_restore 14 = .ok (.invokevirtual 239, 3) := by decide +kernel
theorem dX11_restore_17 : decode cX11_restore 17 = .ok (.astore_n 2, 1) := by decide +kernel
theorem dX11_restore_18 : decode cX11_restore 18 = .ok (.aload_n 2, 1) := by decide +kernel
theorem dX11_restore_19 : decode cX11_restore 19 = .ok (.getfield 246, 3) := by decide +kernel
theorem dX11_restore_22 : decode cX11_restore 22 = .ok (.ifCond .ne 6, 3) := by decide +kernel
theorem dX11_restore_25 : decode cX11_restore 25 = .ok (.bipush (-3), 2) := by decide +kernel
theorem dX11_restore_27 : decode cX11_restore 27 = .ok (.ireturn, 1) := by decide +kernel
theorem dX11_restore_28 : decode cX11_restore 28 = .ok (.aload_n 0, 1) := by decide +kernel
theorem dX11_restore_29 : decode cX11_restore 29 = .ok (.getfield 10, 3) := by decide +kernel
theorem dX11_restore_32 : decode cX11_restore 32 = .ok (.aload_n 2, 1) := by decide +kernel
theorem dX11_restore_33 : decode cX11_restore 33 = .ok (.invokevirtual 243, 3) := by decide +kernel
theorem dX11_restore_36 : decode cX11_restore 36 = .ok (.iconst 1, 1) := by decide +kernel
theorem dX11_restore_37 : decode cX11_restore 37 = .ok (.ireturn, 1) := by decide +kernel
theorem dX11_told_0 : decode cX11_told 0 = .ok (.iload_n 1, 1) := by decide +kernel
theorem dX11_told_1 : decode cX11_told 1 = .ok (.ifCond .ne 11, 3) := by decide +kernel
theorem dX11_told_4 : decode cX11_told 4 = .ok (.aload_n 0, 1) := by decide +kernel
theorem dX11_told_5 : decode cX11_told 5 = .ok (.getfield 25, 3) := by decide +kernel
theorem dX11_told_8 : decode cX11_told 8 = .ok (.getfield 102, 3) := by decide +kernel
theorem dX11_told_11 : decode cX11_told 11 = .ok (.ireturn, 1) := by decide +kernel
theorem dX11_told_12 : decode cX11_told 12 = .ok (.iload_n 1, 1) := by decide +kernel
theorem dX11_told_13 : decode cX11_told 13 = .ok (.iconst 1, 1) := by decide +kernel
theorem dX11_told_14 : decode cX11_told 14 = .ok (.if_icmp .ne 11, 3) := by decide +kernel
theorem dX11_told_17 : decode cX11_told 17 = .ok (.aload_n 0, 1) := by decide +kernel
theorem dX11_told_18 : decode cX11_told 18 = .ok (.getfield 10, 3) := by decide +kernel
theorem dX11_told_21 : decode cX11_told 21 = .ok (.getfield 140, 3) := by decide +kernel
theorem dX11_told_24 : decode cX11_told 24 = .ok (.ireturn, 1) := by decide +kernel
theorem dX11_told_25 : decode cX11_told 25 = .ok (.iload_n 1, 1) := by decide +kernel
theorem dX11_told_26 : decode cX11_told 26 = .ok (.iconst 2, 1) := by decide +kernel
theorem dX11_told_27 : decode cX11_told 27 = .ok (.if_icmp .lt 19, 3) := by decide +kernel
theorem dX11_told_30 : decode cX11_told 30 = .ok (.iload_n 1, 1) := by decide +kernel
theorem dX11_told_31 : decode cX11_told 31 = .ok (.iconst 5, 1) := by decide +kernel
theorem dX11_told_32 : decode cX11_told 32 = .ok (.if_icmp .gt 14, 3) := by decide +kernel
theorem dX11_told_35 : decode cX11_told 35 = .ok (.aload_n 0, 1) := by decide +kernel
theorem dX11_told_36 : decode cX11_told 36 = .ok (.getfield 10, 3) := by decide +kernel
theorem dX11_told_39 : decode cX11_told 39 = .ok (.iload_n 1, 1) := by decide +kernel
theorem dX11_told_40 : decode cX11_told 40 = .ok (.iconst 2, 1) := by decide +kernel
theorem dX11_told_41 : decode cX11_told 41 = .ok (.isub, 1) := by decide +kernel
theorem dX11_told_42 : decode cX11_told 42 = .ok (.invokevirtual 86, 3) := by decide +kernel
theorem dX11_told_45 : decode cX11_told 45 = .ok (.ireturn, 1) := by decide +kernel
theorem dX11_told_46 : decode cX11_told 46 = .ok (.iload_n 1, 1) := by decide +kernel
theorem dX11_told_47 : decode cX11_told 47 = .ok (.bipush 10, 2) := by decide +kernel
theorem dX11_told_49 : decode cX11_told 49 = .ok (.isub, 1) := by decide +kernel
theorem dX11_told_50 : decode cX11_told 50 = .ok (.invokestatic 110, 3) := by decide +kernel
theorem dX11_told_53 : decode cX11_told 53 = .ok (.ifCond .eq 15, 3) := by decide +kernel
theorem dX11_told_56 : decode cX11_told 56 = .ok (.aload_n 0, 1) := by decide +kernel
theorem dX11_told_57 : decode cX11_told 57 = .ok (.getfield 10, 3) := by decide +kernel
theorem dX11_told_60 : decode cX11_told 60 = .ok (.iload_n 1, 1) := by decide +kernel
theorem dX11_told_61 : decode cX11_told 61 = .ok (.bipush 10, 2) := by decide +kernel
theorem dX11_told_63 : decode cX11_told 63 = .ok (.isub, 1) := by decide +kernel
theorem dX11_told_64 : decode cX11_told 64 = .ok (.invokevirtual 213, 3) := by decide +kernel
theorem dX11_told_67 : decode cX11_told 67 = .ok (.ireturn, 1) := by decide +kernel
theorem dX11_told_68 : decode cX11_told 68 = .ok (.iload_n 1, 1) := by decide +kernel
theorem dX11_told_69 : decode cX11_told 69 = .ok (.bipush 20, 2) := by decide +kernel
theorem dX11_told_71 : decode cX11_told 71 = .ok (.isub, 1) := by decide +kernel
theorem dX11_told_72 : decode cX11_told 72 = .ok (.invokestatic 110, 3) := by decide +kernel
theorem dX11_told_75 : decode cX11_told 75 = .ok (.ifCond .eq 18, 3) := by decide +kernel
theorem dX11_told_78 : decode cX11_told 78 = .ok (.aload_n 0, 1) := by decide +kernel
theorem dX11_told_79 : decode cX11_told 79 = .ok (.getfield 10, 3) := by decide +kernel
theorem dX11_told_82 : decode cX11_told 82 = .ok (.iload_n 1, 1) := by decide +kernel
theorem dX11_told_83 : decode cX11_told 83 = .ok (.bipush 20, 2) := by decide +kernel
theorem dX11_told_85 : decode cX11_told 85 = .ok (.isub, 1) := by decide +kernel
theorem dX11_told_86 : decode cX11_told 86 = .ok (.invokevirtual 113, 3) := by decide +kernel
theorem dX11_told_89 : decode cX11_told 89 = .ok (.getfield 127, 3) := by decide +kernel
theorem dX11_told_92 : decode cX11_told 92 = .ok (.ireturn, 1) := by decide +kernel
theorem dX11_told_93 : decode cX11_told 93 = .ok (.bipush (-2), 2) := by decide +kernel
theorem dX11_told_95 : decode cX11_told 95 = .ok (.ireturn, 1) := by decide +kernel
theorem dX11_imageOf_0 : decode cX11_imageOf 0 = .ok (.iload_n 1, 1) := by decide +kernel
theorem dX11_imageOf_1 : decode cX11_imageOf 1 = .ok (.ifCond .ne 10, 3) := by decide +kernel
theorem dX11_imageOf_4 : decode cX11_imageOf 4 = .ok (.aload_n 0, 1) := by decide +kernel
theorem dX11_imageOf_5 : decode cX11_imageOf 5 = .ok (.getfield 16, 3) := by decide +kernel
theorem dX11_imageOf_8 : decode cX11_imageOf 8 = .ok (.goto 7, 3) := by decide +kernel
theorem dX11_imageOf_11 : decode cX11_imageOf 11 = .ok (.aload_n 0, 1) := by decide +kernel
theorem dX11_imageOf_12 : decode cX11_imageOf 12 = .ok (.getfield 19, 3) := by decide +kernel
theorem dX11_imageOf_15 : decode cX11_imageOf 15 = .ok (.areturn, 1) := by decide +kernel
theorem dX11_isFetch_0 : decode cX11_isFetch 0 = .ok (.iload_n 1, 1) := by decide +kernel
theorem dX11_isFetch_1 : decode cX11_isFetch 1 = .ok (.invokestatic 110, 3) := by decide +kernel
theorem dX11_isFetch_4 : decode cX11_isFetch 4 = .ok (.ifCond .eq 22, 3) := by decide +kernel
theorem dX11_isFetch_7 : decode cX11_isFetch 7 = .ok (.aload_n 0, 1) := by decide +kernel
theorem dX11_isFetch_8 : decode cX11_isFetch 8 = .ok (.getfield 10, 3) := by decide +kernel
theorem dX11_isFetch_11 : decode cX11_isFetch 11 = .ok (.iload_n 1, 1) := by decide +kernel
theorem dX11_isFetch_12 : decode cX11_isFetch 12 = .ok (.invokevirtual 113, 3) := by decide +kernel
theorem dX11_isFetch_15 : decode cX11_isFetch 15 = .ok (.iload_n 2, 1) := by decide +kernel
theorem dX11_isFetch_16 : decode cX11_isFetch 16 = .ok (.invokevirtual 250, 3) := by decide +kernel
theorem dX11_isFetch_19 : decode cX11_isFetch 19 = .ok (.ifCond .eq 7, 3) := by decide +kernel
theorem dX11_isFetch_22 : decode cX11_isFetch 22 = .ok (.iconst 1, 1) := by decide +kernel
theorem dX11_isFetch_23 : decode cX11_isFetch 23 = .ok (.goto 4, 3) := by decide +kernel
theorem dX11_isFetch_26 : decode cX11_isFetch 26 = .ok (.iconst 0, 1) := by decide +kernel
theorem dX11_isFetch_27 : decode cX11_isFetch 27 = .ok (.ireturn, 1) := by decide +kernel
theorem dX11_isProgram_0 : decode cX11_isProgram 0 = .ok (.iload_n 0, 1) := by decide +kernel
theorem dX11_isProgram_1 : decode cX11_isProgram 1 = .ok (.ifCond .lt 12, 3) := by decide +kernel
theorem dX11_isProgram_4 : decode cX11_isProgram 4 = .ok (.iload_n 0, 1) := by decide +kernel
theorem dX11_isProgram_5 : decode cX11_isProgram 5 = .ok (.iconst 4, 1) := by decide +kernel
theorem dX11_isProgram_6 : decode cX11_isProgram 6 = .ok (.if_icmp .ge 7, 3) := by decide +kernel
theorem dX11_isProgram_9 : decode cX11_isProgram 9 = .ok (.iconst 1, 1) := by decide +kernel
theorem dX11_isProgram_10 : decode cX11_isProgram 10 = .ok (.goto 4, 3) := by decide +kernel
theorem dX11_isProgram_13 : decode cX11_isProgram 13 = .ok (.iconst 0, 1) := by decide +kernel
theorem dX11_isProgram_14 : decode cX11_isProgram 14 = .ok (.ireturn, 1) := by decide +kernel
theorem dX11_isIn_0 : decode cX11_isIn 0 = .ok (.iload_n 0, 1) := by decide +kernel
theorem dX11_isIn_1 : decode cX11_isIn 1 = .ok (.iload_n 1, 1) := by decide +kernel
theorem dX11_isIn_2 : decode cX11_isIn 2 = .ok (.ishr, 1) := by decide +kernel
theorem dX11_isIn_3 : decode cX11_isIn 3 = .ok (.iconst 1, 1) := by decide +kernel
theorem dX11_isIn_4 : decode cX11_isIn 4 = .ok (.iand, 1) := by decide +kernel
theorem dX11_isIn_5 : decode cX11_isIn 5 = .ok (.iconst 1, 1) := by decide +kernel
theorem dX11_isIn_6 : decode cX11_isIn 6 = .ok (.if_icmp .ne 7, 3) := by decide +kernel
theorem dX11_isIn_9 : decode cX11_isIn 9 = .ok (.iconst 1, 1) := by decide +kernel
theorem dX11_isIn_10 : decode cX11_isIn 10 = .ok (.goto 4, 3) := by decide +kernel
theorem dX11_isIn_13 : decode cX11_isIn 13 = .ok (.iconst 0, 1) := by decide +kernel
theorem dX11_isIn_14 : decode cX11_isIn 14 = .ok (.ireturn, 1) := by decide +kernel
theorem dX11_setOf_0 : decode cX11_setOf 0 = .ok (.iload_n 0, 1) := by decide +kernel
theorem dX11_setOf_1 : decode cX11_setOf 1 = .ok (.iload_n 1, 1) := by decide +kernel
theorem dX11_setOf_2 : decode cX11_setOf 2 = .ok (.iconst 1, 1) := by decide +kernel
theorem dX11_setOf_3 : decode cX11_setOf 3 = .ok (.isub, 1) := by decide +kernel
theorem dX11_setOf_4 : decode cX11_setOf 4 = .ok (.iand, 1) := by decide +kernel
theorem dX11_setOf_5 : decode cX11_setOf 5 = .ok (.ireturn, 1) := by decide +kernel
theorem dX11_linesOfSet_0 : decode cX11_linesOfSet 0 = .ok (.iload_n 1, 1) := by decide +kernel
theorem dX11_linesOfSet_1 : decode cX11_linesOfSet 1 = .ok (.lookupswitch 36 #[(1, 27), (2, 31)], 27) := by decide +kernel
theorem dX11_linesOfSet_28 : decode cX11_linesOfSet 28 = .ok (.sipush 255, 3) := by decide +kernel
theorem dX11_linesOfSet_31 : decode cX11_linesOfSet 31 = .ok (.ireturn, 1) := by decide +kernel
theorem dX11_linesOfSet_32 : decode cX11_linesOfSet 32 = .ok (.bipush 85, 2) := by decide +kernel
theorem dX11_linesOfSet_34 : decode cX11_linesOfSet 34 = .ok (.iload_n 0, 1) := by decide +kernel
theorem dX11_linesOfSet_35 : decode cX11_linesOfSet 35 = .ok (.ishl, 1) := by decide +kernel
theorem dX11_linesOfSet_36 : decode cX11_linesOfSet 36 = .ok (.ireturn, 1) := by decide +kernel
theorem dX11_linesOfSet_37 : decode cX11_linesOfSet 37 = .ok (.bipush 17, 2) := by decide +kernel
theorem dX11_linesOfSet_39 : decode cX11_linesOfSet 39 = .ok (.iload_n 0, 1) := by decide +kernel
theorem dX11_linesOfSet_40 : decode cX11_linesOfSet 40 = .ok (.ishl, 1) := by decide +kernel
theorem dX11_linesOfSet_41 : decode cX11_linesOfSet 41 = .ok (.ireturn, 1) := by decide +kernel
theorem dX11_mayBeHeld_0 : decode cX11_mayBeHeld 0 = .ok (.iconst 0, 1) := by decide +kernel
theorem dX11_mayBeHeld_1 : decode cX11_mayBeHeld 1 = .ok (.istore_n 3, 1) := by decide +kernel
theorem dX11_mayBeHeld_2 : decode cX11_mayBeHeld 2 = .ok (.iload_n 3, 1) := by decide +kernel
theorem dX11_mayBeHeld_3 : decode cX11_mayBeHeld 3 = .ok (.iload_n 0, 1) := by decide +kernel
theorem dX11_mayBeHeld_4 : decode cX11_mayBeHeld 4 = .ok (.if_icmp .ge 25, 3) := by decide +kernel
theorem dX11_mayBeHeld_7 : decode cX11_mayBeHeld 7 = .ok (.iload_n 2, 1) := by decide +kernel
theorem dX11_mayBeHeld_8 : decode cX11_mayBeHeld 8 = .ok (.iload_n 3, 1) := by decide +kernel
theorem dX11_mayBeHeld_9 : decode cX11_mayBeHeld 9 = .ok (.iload_n 0, 1) := by decide +kernel
theorem dX11_mayBeHeld_10 : decode cX11_mayBeHeld 10 = .ok (.invokestatic 253, 3) := by decide +kernel
theorem dX11_mayBeHeld_13 : decode cX11_mayBeHeld 13 = .ok (.iand, 1) := by decide +kernel
theorem dX11_mayBeHeld_14 : decode cX11_mayBeHeld 14 = .ok (.invokestatic 256, 3) := by decide +kernel
theorem dX11_mayBeHeld_17 : decode cX11_mayBeHeld 17 = .ok (.iload_n 1, 1) := by decide +kernel
theorem dX11_mayBeHeld_18 : decode cX11_mayBeHeld 18 = .ok (.if_icmp .le 5, 3) := by decide +kernel
theorem dX11_mayBeHeld_21 : decode cX11_mayBeHeld 21 = .ok (.iconst 0, 1) := by decide +kernel
theorem dX11_mayBeHeld_22 : decode cX11_mayBeHeld 22 = .ok (.ireturn, 1) := by decide +kernel
theorem dX11_mayBeHeld_23 : decode cX11_mayBeHeld 23 = .ok (.iinc 3 1, 3) := by decide +kernel
theorem dX11_mayBeHeld_26 : decode cX11_mayBeHeld 26 = .ok (.goto (-24), 3) := by decide +kernel
theorem dX11_mayBeHeld_29 : decode cX11_mayBeHeld 29 = .ok (.iconst 1, 1) := by decide +kernel
theorem dX11_mayBeHeld_30 : decode cX11_mayBeHeld 30 = .ok (.ireturn, 1) := by decide +kernel
theorem dX11_partsOf_0 : decode cX11_partsOf 0 = .ok (.iload_n 0, 1) := by decide +kernel
theorem dX11_partsOf_1 : decode cX11_partsOf 1 = .ok (.lookupswitch 65 #[(45, 63), (59, 59), (63, 59), (98, 61), (99, 61), (100, 61)], 59) := by decide +kernel
theorem dX11_partsOf_60 : decode cX11_partsOf 60 = .ok (.iconst 2, 1) := by decide +kernel
theorem dX11_partsOf_61 : decode cX11_partsOf 61 = .ok (.ireturn, 1) := by decide +kernel
theorem dX11_partsOf_62 : decode cX11_partsOf 62 = .ok (.iconst 1, 1) := by decide +kernel
theorem dX11_partsOf_63 : decode cX11_partsOf 63 = .ok (.ireturn, 1) := by decide +kernel
theorem dX11_partsOf_64 : decode cX11_partsOf 64 = .ok (.iconst 0, 1) := by decide +kernel
theorem dX11_partsOf_65 : decode cX11_partsOf 65 = .ok (.ireturn, 1) := by decide +kernel
theorem dX11_partsOf_66 : decode cX11_partsOf 66 = .ok (.iload_n 0, 1) := by decide +kernel
theorem dX11_partsOf_67 : decode cX11_partsOf 67 = .ok (.invokestatic 261, 3) := by decide +kernel
theorem dX11_partsOf_70 : decode cX11_partsOf 70 = .ok (.ifCond .eq 7, 3) := by decide +kernel
theorem dX11_partsOf_73 : decode cX11_partsOf 73 = .ok (.iconst 0, 1) := by decide +kernel
theorem dX11_partsOf_74 : decode cX11_partsOf 74 = .ok (.goto 4, 3) := by decide +kernel
theorem dX11_partsOf_77 : decode cX11_partsOf 77 = .ok (.iconst (-1), 1) := by decide +kernel
theorem dX11_partsOf_78 : decode cX11_partsOf 78 = .ok (.ireturn, 1) := by decide +kernel
theorem dX11_isLineSign_0 : decode cX11_isLineSign 0 = .ok (.iload_n 0, 1) := by decide +kernel
theorem dX11_isLineSign_1 : decode cX11_isLineSign 1 = .ok (.bipush 48, 2) := by decide +kernel
theorem dX11_isLineSign_3 : decode cX11_isLineSign 3 = .ok (.if_icmp .lt 13, 3) := by decide +kernel
theorem dX11_isLineSign_6 : decode cX11_isLineSign 6 = .ok (.iload_n 0, 1) := by decide +kernel
theorem dX11_isLineSign_7 : decode cX11_isLineSign 7 = .ok (.bipush 55, 2) := by decide +kernel
theorem dX11_isLineSign_9 : decode cX11_isLineSign 9 = .ok (.if_icmp .gt 7, 3) := by decide +kernel
theorem dX11_isLineSign_12 : decode cX11_isLineSign 12 = .ok (.iconst 1, 1) := by decide +kernel
theorem dX11_isLineSign_13 : decode cX11_isLineSign 13 = .ok (.goto 4, 3) := by decide +kernel
theorem dX11_isLineSign_16 : decode cX11_isLineSign 16 = .ok (.iconst 0, 1) := by decide +kernel
theorem dX11_isLineSign_17 : decode cX11_isLineSign 17 = .ok (.ireturn, 1) := by decide +kernel
theorem dX12_init_0 : decode cX12_init 0 = .ok (.aload_n 0, 1) := by decide +kernel
theorem dX12_init_1 : decode cX12_init 1 = .ok (.invokespecial 1, 3) := by decide +kernel
theorem dX12_init_4 : decode cX12_init 4 = .ok (.aload_n 0, 1) := by decide +kernel
theorem dX12_init_5 : decode cX12_init 5 = .ok (.iconst 4, 1) := by decide +kernel
theorem dX12_init_6 : decode cX12_init 6 = .ok (.newarray .int, 2) := by decide +kernel
theorem dX12_init_8 : decode cX12_init 8 = .ok (.putfield 7, 3) := by decide +kernel
theorem dX12_init_11 : decode cX12_init 11 = .ok (.aload_n 0, 1) := by decide +kernel
theorem dX12_init_12 : decode cX12_init 12 = .ok (.bipush 30, 2) := by decide +kernel
theorem dX12_init_14 : decode cX12_init 14 = .ok (.newarray .int, 2) := by decide +kernel
theorem dX12_init_16 : decode cX12_init 16 = .ok (.putfield 13, 3) := by decide +kernel
theorem dX12_init_19 : decode cX12_init 19 = .ok (.aload_n 0, 1) := by decide +kernel
theorem dX12_init_20 : decode cX12_init 20 = .ok (.iconst 4, 1) := by decide +kernel
theorem dX12_init_21 : decode cX12_init 21 = .ok (.newarray .int, 2) := by decide +kernel
theorem dX12_init_23 : decode cX12_init 23 = .ok (.putfield 16, 3) := by decide +kernel
theorem dX12_init_26 : decode cX12_init 26 = .ok (.aload_n 0, 1) := by decide +kernel
theorem dX12_init_27 : decode cX12_init 27 = .ok (.bipush 120, 2) := by decide +kernel
theorem dX12_init_29 : decode cX12_init 29 = .ok (.newarray .int, 2) := by decide +kernel
theorem dX12_init_31 : decode cX12_init 31 = .ok (.putfield 19, 3) := by decide +kernel
theorem dX12_init_34 : decode cX12_init 34 = .ok (.aload_n 0, 1) := by decide +kernel
theorem dX12_init_35 : decode cX12_init 35 = .ok (.bipush 120, 2) := by decide +kernel
theorem dX12_init_37 : decode cX12_init 37 = .ok (.newarray .int, 2) := by decide +kernel
theorem dX12_init_39 : decode cX12_init 39 = .ok (.putfield 22, 3) := by decide +kernel
theorem dX12_init_42 : decode cX12_init 42 = .ok (.aload_n 0, 1) := by decide +kernel
theorem dX12_init_43 : decode cX12_init 43 = .ok (.iconst 4, 1) := by decide +kernel
theorem dX12_init_44 : decode cX12_init 44 = .ok (.newarray .int, 2) := by decide +kernel
theorem dX12_init_46 : decode cX12_init 46 = .ok (.putfield 25, 3) := by decide +kernel
theorem dX12_init_49 : decode cX12_init 49 = .ok (.aload_n 0, 1) := by decide +kernel
theorem dX12_init_50 : decode cX12_init 50 = .ok (.bipush 20, 2) := by decide +kernel
theorem dX12_init_52 : decode cX12_init 52 = .ok (.newarray .int, 2) := by decide +kernel
theorem dX12_init_54 : decode cX12_init 54 = .ok (.putfield 28, 3) := by decide +kernel
theorem dX12_init_57 : decode cX12_init 57 = .ok (.aload_n 0, 1) := by decide +kernel
theorem dX12_init_58 : decode cX12_init 58 = .ok (.iconst 5, 1) := by decide +kernel
theorem dX12_init_59 : decode cX12_init 59 = .ok (.newarray .int, 2) := by decide +kernel
theorem dX12_init_61 : decode cX12_init 61 = .ok (.putfield 31, 3) := by decide +kernel
theorem dX12_init_64 : decode cX12_init 64 = .ok (.aload_n 0, 1) := by decide +kernel
theorem dX12_init_65 : decode cX12_init 65 = .ok (.sipush 625, 3) := by decide +kernel
theorem dX12_init_68 : decode cX12_init 68 = .ok (.newarray .int, 2) := by decide +kernel
theorem dX12_init_70 : decode cX12_init 70 = .ok (.putfield 34, 3) := by decide +kernel
theorem dX12_init_73 : decode cX12_init 73 = .ok (.aload_n 0, 1) := by decide +kernel
theorem dX12_init_74 : decode cX12_init 74 = .ok (.bipush 6, 2) := by decide +kernel
theorem dX12_init_76 : decode cX12_init 76 = .ok (.newarray .int, 2) := by decide +kernel
theorem dX12_init_78 : decode cX12_init 78 = .ok (.putfield 37, 3) := by decide +kernel
theorem dX12_init_81 : decode cX12_init 81 = .ok (.aload_n 0, 1) := by decide +kernel
theorem dX12_init_82 : decode cX12_init 82 = .ok (.bipush 6, 2) := by decide +kernel
theorem dX12_init_84 : decode cX12_init 84 = .ok (.newarray .int, 2) := by decide +kernel
theorem dX12_init_86 : decode cX12_init 86 = .ok (.putfield 40, 3) := by decide +kernel
theorem dX12_init_89 : decode cX12_init 89 = .ok (.aload_n 0, 1) := by decide +kernel
theorem dX12_init_90 : decode cX12_init 90 = .ok (.bipush 6, 2) := by decide +kernel
theorem dX12_init_92 : decode cX12_init 92 = .ok (.newarray .int, 2) := by decide +kernel
theorem dX12_init_94 : decode cX12_init 94 = .ok (.putfield 43, 3) := by decide +kernel
theorem dX12_init_97 : decode cX12_init 97 = .ok (.aload_n 0, 1) := by decide +kernel
theorem dX12_init_98 : decode cX12_init 98 = .ok (.sipush 3750, 3) := by decide +kernel
theorem dX12_init_101 : decode cX12_init 101 = .ok (.newarray .int, 2) := by decide +kernel
theorem dX12_init_103 : decode cX12_init 103 = .ok (.putfield 46, 3) := by decide +kernel
theorem dX12_init_106 : decode cX12_init 106 = .ok (.aload_n 0, 1) := by decide +kernel
theorem dX12_init_107 : decode cX12_init 107 = .ok (.sipush 3750, 3) := by decide +kernel
theorem dX12_init_110 : decode cX12_init 110 = .ok (.newarray .int, 2) := by decide +kernel
theorem dX12_init_112 : decode cX12_init 112 = .ok (.putfield 49, 3) := by decide +kernel
theorem dX12_init_115 : decode cX12_init 115 = .ok (.aload_n 0, 1) := by decide +kernel
theorem dX12_init_116 : decode cX12_init 116 = .ok (.bipush 21, 2) := by decide +kernel
theorem dX12_init_118 : decode cX12_init 118 = .ok (.newarray .int, 2) := by decide +kernel
theorem dX12_init_120 : decode cX12_init 120 = .ok (.putfield 52, 3) := by decide +kernel
theorem dX12_init_123 : decode cX12_init 123 = .ok (.aload_n 0, 1) := by decide +kernel
theorem dX12_init_124 : decode cX12_init 124 = .ok (.sipush 625, 3) := by decide +kernel
theorem dX12_init_127 : decode cX12_init 127 = .ok (.newarray .int, 2) := by decide +kernel
theorem dX12_init_129 : decode cX12_init 129 = .ok (.putfield 55, 3) := by decide +kernel
theorem dX12_init_132 : decode cX12_init 132 = .ok (.aload_n 0, 1) := by decide +kernel
theorem dX12_init_133 : decode cX12_init 133 = .ok (.bipush 16, 2) := by decide +kernel
theorem dX12_init_135 : decode cX12_init 135 = .ok (.newarray .int, 2) := by decide +kernel
theorem dX12_init_137 : decode cX12_init 137 = .ok (.putfield 58, 3) := by decide +kernel
theorem dX12_init_140 : decode cX12_init 140 = .ok (.aload_n 0, 1) := by decide +kernel
theorem dX12_init_141 : decode cX12_init 141 = .ok (.bipush 96, 2) := by decide +kernel
theorem dX12_init_143 : decode cX12_init 143 = .ok (.newarray .int, 2) := by decide +kernel
theorem dX12_init_145 : decode cX12_init 145 = .ok (.putfield 61, 3) := by decide +kernel
theorem dX12_init_148 : decode cX12_init 148 = .ok (.aload_n 0, 1) := by decide +kernel
theorem dX12_init_149 : decode cX12_init 149 = .ok (.sipush 480, 3) := by decide +kernel
theorem dX12_init_152 : decode cX12_init 152 = .ok (.newarray .int, 2) := by decide +kernel
theorem dX12_init_154 : decode cX12_init 154 = .ok (.putfield 64, 3) := by decide +kernel
theorem dX12_init_157 : decode cX12_init 157 = .ok (.aload_n 0, 1) := by decide +kernel
theorem dX12_init_158 : decode cX12_init 158 = .ok (.bipush 30, 2) := by decide +kernel
theorem dX12_init_160 : decode cX12_init 160 = .ok (.newarray .int, 2) := by decide +kernel
theorem dX12_init_162 : decode cX12_init 162 = .ok (.putfield 67, 3) := by decide +kernel
theorem dX12_init_165 : decode cX12_init 165 = .ok (.aload_n 0, 1) := by decide +kernel
theorem dX12_init_166 : decode cX12_init 166 = .ok (.iconst 4, 1) := by decide +kernel
theorem dX12_init_167 : decode cX12_init 167 = .ok (.newarray .int, 2) := by decide +kernel
theorem dX12_init_169 : decode cX12_init 169 = .ok (.putfield 70, 3) := by decide +kernel
theorem dX12_init_172 : decode cX12_init 172 = .ok (.aload_n 0, 1) := by decide +kernel
theorem dX12_init_173 : decode cX12_init 173 = .ok (.sipush 320, 3) := by decide +kernel
theorem dX12_init_176 : decode cX12_init 176 = .ok (.newarray .int, 2) := by decide +kernel
theorem dX12_init_178 : decode cX12_init 178 = .ok (.putfield 73, 3) := by decide +kernel
theorem dX12_init_181 : decode cX12_init 181 = .ok (.aload_n 0, 1) := by decide +kernel
theorem dX12_init_182 : decode cX12_init 182 = .ok (.iconst 2, 1) := by decide +kernel
theorem dX12_init_183 : decode cX12_init 183 = .ok (.newarray .boolean, 2) := by decide +kernel
theorem dX12_init_185 : decode cX12_init 185 = .ok (.putfield 76, 3) := by decide +kernel
theorem dX12_init_188 : decode cX12_init 188 = .ok (.aload_n 0, 1) := by decide +kernel
theorem dX12_init_189 : decode cX12_init 189 = .ok (.getfield 7, 3) := by decide +kernel
theorem dX12_init_192 : decode cX12_init 192 = .ok (.iconst 0, 1) := by decide +kernel
theorem dX12_init_193 : decode cX12_init 193 = .ok (.iconst 2, 1) := by decide +kernel
theorem dX12_init_194 : decode cX12_init 194 = .ok (.iastore, 1) := by decide +kernel
theorem dX12_init_195 : decode cX12_init 195 = .ok (.aload_n 0, 1) := by decide +kernel
theorem dX12_init_196 : decode cX12_init 196 = .ok (.getfield 7, 3) := by decide +kernel
theorem dX12_init_199 : decode cX12_init 199 = .ok (.iconst 1, 1) := by decide +kernel
theorem dX12_init_200 : decode cX12_init 200 = .ok (.iconst 2, 1) := by decide +kernel
theorem dX12_init_201 : decode cX12_init 201 = .ok (.iastore, 1) := by decide +kernel
theorem dX12_init_202 : decode cX12_init 202 = .ok (.aload_n 0, 1) := by decide +kernel
theorem dX12_init_203 : decode cX12_init 203 = .ok (.getfield 7, 3) := by decide +kernel
theorem dX12_init_206 : decode cX12_init 206 = .ok (.iconst 2, 1) := by decide +kernel
theorem dX12_init_207 : decode cX12_init 207 = .ok (.bipush 10, 2) := by decide +kernel
theorem dX12_init_209 : decode cX12_init 209 = .ok (.iastore, 1) := by decide +kernel
theorem dX12_init_210 : decode cX12_init 210 = .ok (.iconst 0, 1) := by decide +kernel
theorem dX12_init_211 : decode cX12_init 211 = .ok (.istore_n 1, 1) := by decide +kernel
theorem dX12_init_212 : decode cX12_init 212 = .ok (.iload_n 1, 1) := by decide +kernel
theorem dX12_init_213 : decode cX12_init 213 = .ok (.iconst 4, 1) := by decide +kernel
theorem dX12_init_214 : decode cX12_init 214 = .ok (.if_icmp .ge 37, 3) := by decide +kernel
theorem dX12_init_217 : decode cX12_init 217 = .ok (.aload_n 0, 1) := by decide +kernel
theorem dX12_init_218 : decode cX12_init 218 = .ok (.getfield 16, 3) := by decide +kernel
theorem dX12_init_221 : decode cX12_init 221 = .ok (.iload_n 1, 1) := by decide +kernel
theorem dX12_init_222 : decode cX12_init 222 = .ok (.iconst 1, 1) := by decide +kernel
theorem dX12_init_223 : decode cX12_init 223 = .ok (.iastore, 1) := by decide +kernel
theorem dX12_init_224 : decode cX12_init 224 = .ok (.aload_n 0, 1) := by decide +kernel
theorem dX12_init_225 : decode cX12_init 225 = .ok (.getfield 19, 3) := by decide +kernel
theorem dX12_init_228 : decode cX12_init 228 = .ok (.bipush 30, 2) := by decide +kernel
theorem dX12_init_230 : decode cX12_init 230 = .ok (.iload_n 1, 1) := by decide +kernel
theorem dX12_init_231 : decode cX12_init 231 = .ok (.imul, 1) := by decide +kernel
theorem dX12_init_232 : decode cX12_init 232 = .ok (.bipush 45, 2) := by decide +kernel
theorem dX12_init_234 : decode cX12_init 234 = .ok (.iastore, 1) := by decide +kernel
theorem dX12_init_235 : decode cX12_init 235 = .ok (.aload_n 0, 1) := by decide +kernel
theorem dX12_init_236 : decode cX12_init 236 = .ok (.getfield 22, 3) := by decide +kernel
theorem dX12_init_239 : decode cX12_init 239 = .ok (.bipush 30, 2) := by decide +kernel
theorem dX12_init_241 : decode cX12_init 241 = .ok (.iload_n 1, 1) := by decide +kernel
theorem dX12_init_242 : decode cX12_init 242 = .ok (.imul, 1) := by decide +kernel
theorem dX12_init_243 : decode cX12_init 243 = .ok (.iconst 1, 1) := by decide +kernel
theorem dX12_init_244 : decode cX12_init 244 = .ok (.iastore, 1) := by decide +kernel
theorem dX12_init_245 : decode cX12_init 245 = .ok (.iinc 1 1, 3) := by decide +kernel
theorem dX12_init_248 : decode cX12_init 248 = .ok (.goto (-36), 3) := by decide +kernel
theorem dX12_init_251 : decode cX12_init 251 = .ok (.return_, 1) := by decide +kernel
theorem dX12_in_0 : decode cX12_in 0 = .ok (.iload_n 0, 1) := by decide +kernel
theorem dX12_in_1 : decode cX12_in 1 = .ok (.iload_n 1, 1) := by decide +kernel
theorem dX12_in_2 : decode cX12_in 2 = .ok (.if_icmp .lt 12, 3) := by decide +kernel
theorem dX12_in_5 : decode cX12_in 5 = .ok (.iload_n 0, 1) := by decide +kernel
theorem dX12_in_6 : decode cX12_in 6 = .ok (.iload_n 2, 1) := by decide +kernel
theorem dX12_in_7 : decode cX12_in 7 = .ok (.if_icmp .gt 7, 3) := by decide +kernel
theorem dX12_in_10 : decode cX12_in 10 = .ok (.iconst 1, 1) := by decide +kernel
theorem dX12_in_11 : decode cX12_in 11 = .ok (.goto 4, 3) := by decide +kernel
theorem dX12_in_14 : decode cX12_in 14 = .ok (.iconst 0, 1) := by decide +kernel
theorem dX12_in_15 : decode cX12_in 15 = .ok (.ireturn, 1) := by decide +kernel
theorem dX12_isProgram_0 : decode cX12_isProgram 0 = .ok (.iload_n 0, 1) := by decide +kernel
theorem dX12_isProgram_1 : decode cX12_isProgram 1 = .ok (.iconst 0, 1) := by decide +kernel
theorem dX12_isProgram_2 : decode cX12_isProgram 2 = .ok (.iconst 3, 1) := by decide +kernel
theorem dX12_isProgram_3 : decode cX12_isProgram 3 = .ok (.invokestatic 80, 3) := by decide +kernel
theorem dX12_isProgram_6 : decode cX12_isProgram 6 = .ok (.ireturn, 1) := by decide +kernel
theorem dX12_bits_0 : decode cX12_bits 0 = .ok (.iconst 0, 1) := by decide +kernel
theorem dX12_bits_1 : decode cX12_bits 1 = .ok (.istore_n 1, 1) := by decide +kernel
theorem dX12_bits_2 : decode cX12_bits 2 = .ok (.iconst 0, 1) := by decide +kernel
theorem dX12_bits_3 : decode cX12_bits 3 = .ok (.istore_n 2, 1) := by decide +kernel
theorem dX12_bits_4 : decode cX12_bits 4 = .ok (.iload_n 2, 1) := by decide +kernel
theorem dX12_bits_5 : decode cX12_bits 5 = .ok (.bipush 8, 2) := by decide +kernel
theorem dX12_bits_7 : decode cX12_bits 7 = .ok (.if_icmp .ge 17, 3) := by decide +kernel
theorem dX12_bits_10 : decode cX12_bits 10 = .ok (.iload_n 1, 1) := by decide +kernel
theorem dX12_bits_11 : decode cX12_bits 11 = .ok (.iload_n 0, 1) := by decide +kernel
theorem dX12_bits_12 : decode cX12_bits 12 = .ok (.iload_n 2, 1) := by decide +kernel
theorem dX12_bits_13 : decode cX12_bits 13 = .ok (.ishr, 1) := by decide +kernel
theorem dX12_bits_14 : decode cX12_bits 14 = .ok (.iconst 1, 1) := by decide +kernel
theorem dX12_bits_15 : decode cX12_bits 15 = .ok (.iand, 1) := by decide +kernel
theorem dX12_bits_16 : decode cX12_bits 16 = .ok (.iadd, 1) := by decide +kernel
theorem dX12_bits_17 : decode cX12_bits 17 = .ok (.istore_n 1, 1) := by decide +kernel
theorem dX12_bits_18 : decode cX12_bits 18 = .ok (.iinc 2 1, 3) := by decide +kernel
theorem dX12_bits_21 : decode cX12_bits 21 = .ok (.goto (-17), 3) := by decide +kernel
theorem dX12_bits_24 : decode cX12_bits 24 = .ok (.iload_n 1, 1) := by decide +kernel
theorem dX12_bits_25 : decode cX12_bits 25 = .ok (.ireturn, 1) := by decide +kernel
theorem dX12_mayHold_0 : decode cX12_mayHold 0 = .ok (.iconst 0, 1) := by decide +kernel
theorem dX12_mayHold_1 : decode cX12_mayHold 1 = .ok (.istore 4, 2) := by decide +kernel
theorem dX12_mayHold_3 : decode cX12_mayHold 3 = .ok (.iload 4, 2) := by decide +kernel
theorem dX12_mayHold_5 : decode cX12_mayHold 5 = .ok (.iload_n 1, 1) := by decide +kernel
theorem dX12_mayHold_6 : decode cX12_mayHold 6 = .ok (.if_icmp .ge 51, 3) := by decide +kernel
theorem dX12_mayHold_9 : decode cX12_mayHold 9 = .ok (.iconst 0, 1) := by decide +kernel
theorem dX12_mayHold_10 : decode cX12_mayHold 10 = .ok (.istore 5, 2) := by decide +kernel
theorem dX12_mayHold_12 : decode cX12_mayHold 12 = .ok (.iload 4, 2) := by decide +kernel
theorem dX12_mayHold_14 : decode cX12_mayHold 14 = .ok (.istore 6, 2) := by decide +kernel
theorem dX12_mayHold_16 : decode cX12_mayHold 16 = .ok (.iload 6, 2) := by decide +kernel
theorem dX12_mayHold_18 : decode cX12_mayHold 18 = .ok (.bipush 8, 2) := by decide +kernel
theorem dX12_mayHold_20 : decode cX12_mayHold 20 = .ok (.if_icmp .ge 23, 3) := by decide +kernel
theorem dX12_mayHold_23 : decode cX12_mayHold 23 = .ok (.iload 5, 2) := by decide +kernel
theorem dX12_mayHold_25 : decode cX12_mayHold 25 = .ok (.iload_n 3, 1) := by decide +kernel
theorem dX12_mayHold_26 : decode cX12_mayHold 26 = .ok (.iload 6, 2) := by decide +kernel
theorem dX12_mayHold_28 : decode cX12_mayHold 28 = .ok (.ishr, 1) := by decide +kernel
theorem dX12_mayHold_29 : decode cX12_mayHold 29 = .ok (.iconst 1, 1) := by decide +kernel
theorem dX12_mayHold_30 : decode cX12_mayHold 30 = .ok (.iand, 1) := by decide +kernel
theorem dX12_mayHold_31 : decode cX12_mayHold 31 = .ok (.iadd, 1) := by decide +kernel
theorem dX12_mayHold_32 : decode cX12_mayHold 32 = .ok (.istore 5, 2) := by decide +kernel
theorem dX12_mayHold_34 : decode cX12_mayHold 34 = .ok (.iload 6, 2) := by decide +kernel
theorem dX12_mayHold_36 : decode cX12_mayHold 36 = .ok (.iload_n 1, 1) := by decide +kernel
theorem dX12_mayHold_37 : decode cX12_mayHold 37 = .ok (.iadd, 1) := by decide +kernel
theorem dX12_mayHold_38 : decode cX12_mayHold 38 = .ok (.istore 6, 2) := by decide +kernel
theorem dX12_mayHold_40 : decode cX12_mayHold 40 = .ok (.goto (-24), 3) := by decide +kernel
theorem dX12_mayHold_43 : decode cX12_mayHold 43 = .ok (.iload 5, 2) := by decide +kernel
theorem dX12_mayHold_45 : decode cX12_mayHold 45 = .ok (.iload_n 2, 1) := by decide +kernel
theorem dX12_mayHold_46 : decode cX12_mayHold 46 = .ok (.if_icmp .le 5, 3) := by decide +kernel
theorem dX12_mayHold_49 : decode cX12_mayHold 49 = .ok (.iconst 0, 1) := by decide +kernel
theorem dX12_mayHold_50 : decode cX12_mayHold 50 = .ok (.ireturn, 1) := by decide +kernel
theorem dX12_mayHold_51 : decode cX12_mayHold 51 = .ok (.iinc 4 1, 3) := by decide +kernel
theorem dX12_mayHold_54 : decode cX12_mayHold 54 = .ok (.goto (-51), 3) := by decide +kernel
theorem dX12_mayHold_57 : decode cX12_mayHold 57 = .ok (.iconst 1, 1) := by decide +kernel
theorem dX12_mayHold_58 : decode cX12_mayHold 58 = .ok (.ireturn, 1) := by decide +kernel
theorem dX12_shelf_0 : decode cX12_shelf 0 = .ok (.iload_n 1, 1) := by decide +kernel
theorem dX12_shelf_1 : decode cX12_shelf 1 = .ok (.ifCond .ne 26, 3) := by decide +kernel
theorem dX12_shelf_4 : decode cX12_shelf 4 = .ok (.iload_n 2, 1) := by decide +kernel
theorem dX12_shelf_5 : decode cX12_shelf 5 = .ok (.iconst 1, 1) := by decide +kernel
theorem dX12_shelf_6 : decode cX12_shelf 6 = .ok (.if_icmp .eq 13, 3) := by decide +kernel
theorem dX12_shelf_9 : decode cX12_shelf 9 = .ok (.iload_n 2, 1) := by decide +kernel
theorem dX12_shelf_10 : decode cX12_shelf 10 = .ok (.iconst 2, 1) := by decide +kernel
theorem dX12_shelf_11 : decode cX12_shelf 11 = .ok (.if_icmp .eq 8, 3) := by decide +kernel
theorem dX12_shelf_14 : decode cX12_shelf 14 = .ok (.iload_n 2, 1) := by decide +kernel
theorem dX12_shelf_15 : decode cX12_shelf 15 = .ok (.iconst 4, 1) := by decide +kernel
theorem dX12_shelf_16 : decode cX12_shelf 16 = .ok (.if_icmp .ne 7, 3) := by decide +kernel
theorem dX12_shelf_19 : decode cX12_shelf 19 = .ok (.iconst 1, 1) := by decide +kernel
theorem dX12_shelf_20 : decode cX12_shelf 20 = .ok (.goto 57, 3) := by decide +kernel
theorem dX12_shelf_23 : decode cX12_shelf 23 = .ok (.iconst 0, 1) := by decide +kernel
theorem dX12_shelf_24 : decode cX12_shelf 24 = .ok (.goto 53, 3) := by decide +kernel
theorem dX12_shelf_27 : decode cX12_shelf 27 = .ok (.iload_n 1, 1) := by decide +kernel
theorem dX12_shelf_28 : decode cX12_shelf 28 = .ok (.iconst 1, 1) := by decide +kernel
theorem dX12_shelf_29 : decode cX12_shelf 29 = .ok (.if_icmp .ne 12, 3) := by decide +kernel
theorem dX12_shelf_32 : decode cX12_shelf 32 = .ok (.iload_n 2, 1) := by decide +kernel
theorem dX12_shelf_33 : decode cX12_shelf 33 = .ok (.iconst 1, 1) := by decide +kernel
theorem dX12_shelf_34 : decode cX12_shelf 34 = .ok (.iconst 2, 1) := by decide +kernel
theorem dX12_shelf_35 : decode cX12_shelf 35 = .ok (.invokestatic 80, 3) := by decide +kernel
theorem dX12_shelf_38 : decode cX12_shelf 38 = .ok (.goto 39, 3) := by decide +kernel
theorem dX12_shelf_41 : decode cX12_shelf 41 = .ok (.iload_n 1, 1) := by decide +kernel
theorem dX12_shelf_42 : decode cX12_shelf 42 = .ok (.iconst 2, 1) := by decide +kernel
theorem dX12_shelf_43 : decode cX12_shelf 43 = .ok (.if_icmp .ne 13, 3) := by decide +kernel
theorem dX12_shelf_46 : decode cX12_shelf 46 = .ok (.iload_n 2, 1) := by decide +kernel
theorem dX12_shelf_47 : decode cX12_shelf 47 = .ok (.iconst 2, 1) := by decide +kernel
theorem dX12_shelf_48 : decode cX12_shelf 48 = .ok (.bipush 20, 2) := by decide +kernel
theorem dX12_shelf_50 : decode cX12_shelf 50 = .ok (.invokestatic 80, 3) := by decide +kernel
theorem dX12_shelf_53 : decode cX12_shelf 53 = .ok (.goto 24, 3) := by decide +kernel
theorem dX12_shelf_56 : decode cX12_shelf 56 = .ok (.iload_n 1, 1) := by decide +kernel
theorem dX12_shelf_57 : decode cX12_shelf 57 = .ok (.iconst 3, 1) := by decide +kernel
theorem dX12_shelf_58 : decode cX12_shelf 58 = .ok (.if_icmp .ne 18, 3) := by decide +kernel
theorem dX12_shelf_61 : decode cX12_shelf 61 = .ok (.iload_n 2, 1) := by decide +kernel
theorem dX12_shelf_62 : decode cX12_shelf 62 = .ok (.iconst 0, 1) := by decide +kernel
theorem dX12_shelf_63 : decode cX12_shelf 63 = .ok (.sipush 255, 3) := by decide +kernel
theorem dX12_shelf_66 : decode cX12_shelf 66 = .ok (.invokestatic 80, 3) := by decide +kernel
theorem dX12_shelf_69 : decode cX12_shelf 69 = .ok (.ifCond .eq 7, 3) := by decide +kernel
theorem dX12_shelf_72 : decode cX12_shelf 72 = .ok (.iconst 1, 1) := by decide +kernel
theorem dX12_shelf_73 : decode cX12_shelf 73 = .ok (.goto 4, 3) := by decide +kernel
theorem dX12_shelf_76 : decode cX12_shelf 76 = .ok (.iconst 0, 1) := by decide +kernel
theorem dX12_shelf_77 : decode cX12_shelf 77 = .ok (.istore_n 3, 1) := by decide +kernel
theorem dX12_shelf_78 : decode cX12_shelf 78 = .ok (.iload_n 3, 1) := by decide +kernel
theorem dX12_shelf_79 : decode cX12_shelf 79 = .ok (.ifCond .ne 6, 3) := by decide +kernel
theorem dX12_shelf_82 : decode cX12_shelf 82 = .ok (.bipush (-2), 2) := by decide +kernel
theorem dX12_shelf_84 : decode cX12_shelf 84 = .ok (.ireturn, 1) := by decide +kernel
theorem dX12_shelf_85 : decode cX12_shelf 85 = .ok (.aload_n 0, 1) := by decide +kernel
theorem dX12_shelf_86 : decode cX12_shelf 86 = .ok (.getfield 7, 3) := by decide +kernel
theorem dX12_shelf_89 : decode cX12_shelf 89 = .ok (.iload_n 1, 1) := by decide +kernel
theorem dX12_shelf_90 : decode cX12_shelf 90 = .ok (.iaload, 1) := by decide +kernel
theorem dX12_shelf_91 : decode cX12_shelf 91 = .ok (.istore 4, 2) := by decide +kernel
theorem dX12_shelf_93 : decode cX12_shelf 93 = .ok (.aload_n 0, 1) := by decide +kernel
theorem dX12_shelf_94 : decode cX12_shelf 94 = .ok (.getfield 7, 3) := by decide +kernel
theorem dX12_shelf_97 : decode cX12_shelf 97 = .ok (.iload_n 1, 1) := by decide +kernel
theorem dX12_shelf_98 : decode cX12_shelf 98 = .ok (.iload_n 2, 1) := by decide +kernel
theorem dX12_shelf_99 : decode cX12_shelf 99 = .ok (.iastore, 1) := by decide +kernel
theorem dX12_shelf_100 : decode cX12_shelf 100 = .ok (.aload_n 0, 1) := by decide +kernel
theorem dX12_shelf_101 : decode cX12_shelf 101 = .ok (.aload_n 0, 1) := by decide +kernel
theorem dX12_shelf_102 : decode cX12_shelf 102 = .ok (.getfield 7, 3) := by decide +kernel
theorem dX12_shelf_105 : decode cX12_shelf 105 = .ok (.iconst 0, 1) := by decide +kernel
theorem dX12_shelf_106 : decode cX12_shelf 106 = .ok (.iaload, 1) := by decide +kernel
theorem dX12_shelf_107 : decode cX12_shelf 107 = .ok (.aload_n 0, 1) := by decide +kernel
theorem dX12_shelf_108 : decode cX12_shelf 108 = .ok (.getfield 7, 3) := by decide +kernel
theorem dX12_shelf_111 : decode cX12_shelf 111 = .ok (.iconst 1, 1) := by decide +kernel
theorem dX12_shelf_112 : decode cX12_shelf 112 = .ok (.iaload, 1) := by decide +kernel
theorem dX12_shelf_113 : decode cX12_shelf 113 = .ok (.aload_n 0, 1) := by decide +kernel
theorem dX12_shelf_114 : decode cX12_shelf 114 = .ok (.getfield 7, 3) := by decide +kernel
theorem dX12_shelf_117 : decode cX12_shelf 117 = .ok (.iconst 3, 1) := by decide +kernel
theorem dX12_shelf_118 : decode cX12_shelf 118 = .ok (.iaload, 1) := by decide +kernel
theorem dX12_shelf_119 : decode cX12_shelf 119 = .ok (.invokevirtual 84, 3) := by decide +kernel
theorem dX12_shelf_122 : decode cX12_shelf 122 = .ok (.ifCond .eq 6, 3) := by decide +kernel
theorem dX12_shelf_125 : decode cX12_shelf 125 = .ok (.iload 4, 2) := by decide +kernel
theorem dX12_shelf_127 : decode cX12_shelf 127 = .ok (.ireturn, 1) := by decide +kernel
theorem dX12_shelf_128 : decode cX12_shelf 128 = .ok (.aload_n 0, 1) := by decide +kernel
theorem dX12_shelf_129 : decode cX12_shelf 129 = .ok (.getfield 7, 3) := by decide +kernel
theorem dX12_shelf_132 : decode cX12_shelf 132 = .ok (.iload_n 1, 1) := by decide +kernel
theorem dX12_shelf_133 : decode cX12_shelf 133 = .ok (.iload 4, 2) := by decide +kernel
theorem dX12_shelf_135 : decode cX12_shelf 135 = .ok (.iastore, 1) := by decide +kernel
theorem dX12_shelf_136 : decode cX12_shelf 136 = .ok (.bipush (-5), 2) := by decide +kernel
theorem dX12_shelf_138 : decode cX12_shelf 138 = .ok (.ireturn, 1) := by decide +kernel
theorem dX12_isHeld_0 : decode cX12_isHeld 0 = .ok (.aload_n 0, 1) := by decide +kernel
theorem dX12_isHeld_1 : decode cX12_isHeld 1 = .ok (.getfield 7, 3) := by decide +kernel
theorem dX12_isHeld_4 : decode cX12_isHeld 4 = .ok (.iconst 3, 1) := by decide +kernel
theorem dX12_isHeld_5 : decode cX12_isHeld 5 = .ok (.iaload, 1) := by decide +kernel
theorem dX12_isHeld_6 : decode cX12_isHeld 6 = .ok (.iload_n 1, 1) := by decide +kernel
theorem dX12_isHeld_7 : decode cX12_isHeld 7 = .ok (.ishr, 1) := by decide +kernel
theorem dX12_isHeld_8 : decode cX12_isHeld 8 = .ok (.iconst 1, 1) := by decide +kernel
theorem dX12_isHeld_9 : decode cX12_isHeld 9 = .ok (.iand, 1) := by decide +kernel
theorem dX12_isHeld_10 : decode cX12_isHeld 10 = .ok (.iconst 1, 1) := by decide +kernel
theorem dX12_isHeld_11 : decode cX12_isHeld 11 = .ok (.if_icmp .ne 7, 3) := by decide +kernel
theorem dX12_isHeld_14 : decode cX12_isHeld 14 = .ok (.iconst 1, 1) := by decide +kernel
theorem dX12_isHeld_15 : decode cX12_isHeld 15 = .ok (.goto 4, 3) := by decide +kernel
theorem dX12_isHeld_18 : decode cX12_isHeld 18 = .ok (.iconst 0, 1) := by decide +kernel
theorem dX12_isHeld_19 : decode cX12_isHeld 19 = .ok (.ireturn, 1) := by decide +kernel
theorem dX12_setOf_0 : decode cX12_setOf 0 = .ok (.iload_n 1, 1) := by decide +kernel
theorem dX12_setOf_1 : decode cX12_setOf 1 = .ok (.aload_n 0, 1) := by decide +kernel
theorem dX12_setOf_2 : decode cX12_setOf 2 = .ok (.getfield 7, 3) := by decide +kernel
theorem dX12_setOf_5 : decode cX12_setOf 5 = .ok (.iconst 0, 1) := by decide +kernel
theorem dX12_setOf_6 : decode cX12_setOf 6 = .ok (.iaload, 1) := by decide +kernel
theorem dX12_setOf_7 : decode cX12_setOf 7 = .ok (.irem, 1) := by decide +kernel
theorem dX12_setOf_8 : decode cX12_setOf 8 = .ok (.ireturn, 1) := by decide +kernel
theorem dX12_roomOf_0 : decode cX12_roomOf 0 = .ok (.aload_n 0, 1) := by decide +kernel
theorem dX12_roomOf_1 : decode cX12_roomOf 1 = .ok (.getfield 7, 3) := by decide +kernel
theorem dX12_roomOf_4 : decode cX12_roomOf 4 = .ok (.iconst 1, 1) := by decide +kernel
theorem dX12_roomOf_5 : decode cX12_roomOf 5 = .ok (.iaload, 1) := by decide +kernel
theorem dX12_roomOf_6 : decode cX12_roomOf 6 = .ok (.istore_n 2, 1) := by decide +kernel
theorem dX12_roomOf_7 : decode cX12_roomOf 7 = .ok (.iload_n 1, 1) := by decide +kernel
theorem dX12_roomOf_8 : decode cX12_roomOf 8 = .ok (.istore_n 3, 1) := by decide +kernel
theorem dX12_roomOf_9 : decode cX12_roomOf 9 = .ok (.iload_n 3, 1) := by decide +kernel
theorem dX12_roomOf_10 : decode cX12_roomOf 10 = .ok (.bipush 8, 2) := by decide +kernel
theorem dX12_roomOf_12 : decode cX12_roomOf 12 = .ok (.if_icmp .ge 28, 3) := by decide +kernel
theorem dX12_roomOf_15 : decode cX12_roomOf 15 = .ok (.iload_n 2, 1) := by decide +kernel
theorem dX12_roomOf_16 : decode cX12_roomOf 16 = .ok (.aload_n 0, 1) := by decide +kernel
theorem dX12_roomOf_17 : decode cX12_roomOf 17 = .ok (.getfield 7, 3) := by decide +kernel
theorem dX12_roomOf_20 : decode cX12_roomOf 20 = .ok (.iconst 3, 1) := by decide +kernel
theorem dX12_roomOf_21 : decode cX12_roomOf 21 = .ok (.iaload, 1) := by decide +kernel
theorem dX12_roomOf_22 : decode cX12_roomOf 22 = .ok (.iload_n 3, 1) := by decide +kernel
theorem dX12_roomOf_23 : decode cX12_roomOf 23 = .ok (.ishr, 1) := by decide +kernel
theorem dX12_roomOf_24 : decode cX12_roomOf 24 = .ok (.iconst 1, 1) := by decide +kernel
theorem dX12_roomOf_25 : decode cX12_roomOf 25 = .ok (.iand, 1) := by decide +kernel
theorem dX12_roomOf_26 : decode cX12_roomOf 26 = .ok (.isub, 1) := by decide +kernel
theorem dX12_roomOf_27 : decode cX12_roomOf 27 = .ok (.istore_n 2, 1) := by decide +kernel
theorem dX12_roomOf_28 : decode cX12_roomOf 28 = .ok (.iload_n 3, 1) := by decide +kernel
theorem dX12_roomOf_29 : decode cX12_roomOf 29 = .ok (.aload_n 0, 1) := by decide +kernel
theorem dX12_roomOf_30 : decode cX12_roomOf 30 = .ok (.getfield 7, 3) := by decide +kernel
theorem dX12_roomOf_33 : decode cX12_roomOf 33 = .ok (.iconst 0, 1) := by decide +kernel
theorem dX12_roomOf_34 : decode cX12_roomOf 34 = .ok (.iaload, 1) := by decide +kernel
theorem dX12_roomOf_35 : decode cX12_roomOf 35 = .ok (.iadd, 1) := by decide +kernel
theorem dX12_roomOf_36 : decode cX12_roomOf 36 = .ok (.istore_n 3, 1) := by decide +kernel
theorem dX12_roomOf_37 : decode cX12_roomOf 37 = .ok (.goto (-28), 3) := by decide +kernel
theorem dX12_roomOf_40 : decode cX12_roomOf 40 = .ok (.iload_n 2, 1) := by decide +kernel
theorem dX12_roomOf_41 : decode cX12_roomOf 41 = .ok (.ireturn, 1) := by decide +kernel
theorem dX12_say_0 : decode cX12_say 0 = .ok (.iload_n 1, 1) := by decide +kernel
theorem dX12_say_1 : decode cX12_say 1 = .ok (.bipush 33, 2) := by decide +kernel
theorem dX12_say_3 : decode cX12_say 3 = .ok (.bipush 126, 2) := by decide +kernel
theorem dX12_say_5 : decode cX12_say 5 = .ok (.invokestatic 80, 3) := by decide +kernel
theorem dX12_say_8 : decode cX12_say 8 = .ok (.ifCond .ne 6, 3) := by decide +kernel
theorem dX12_say_11 : decode cX12_say 11 = .ok (.bipush (-2), 2) := by decide +kernel
theorem dX12_say_13 : decode cX12_say 13 = .ok (.ireturn, 1) := by decide +kernel
theorem dX12_say_14 : decode cX12_say 14 = .ok (.aload_n 0, 1) := by decide +kernel
theorem dX12_say_15 : decode cX12_say 15 = .ok (.getfield 87, 3) := by decide +kernel
theorem dX12_say_18 : decode cX12_say 18 = .ok (.bipush 30, 2) := by decide +kernel
theorem dX12_say_20 : decode cX12_say 20 = .ok (.if_icmp .ne 6, 3) := by decide +kernel
theorem dX12_say_23 : decode cX12_say 23 = .ok (.bipush (-4), 2) := by decide +kernel
theorem dX12_say_25 : decode cX12_say 25 = .ok (.ireturn, 1) := by decide +kernel
theorem dX12_say_26 : decode cX12_say 26 = .ok (.aload_n 0, 1) := by decide +kernel
theorem dX12_say_27 : decode cX12_say 27 = .ok (.getfield 13, 3) := by decide +kernel
theorem dX12_say_30 : decode cX12_say 30 = .ok (.aload_n 0, 1) := by decide +kernel
theorem dX12_say_31 : decode cX12_say 31 = .ok (.getfield 87, 3) := by decide +kernel
theorem dX12_say_34 : decode cX12_say 34 = .ok (.iload_n 1, 1) := by decide +kernel
theorem dX12_say_35 : decode cX12_say 35 = .ok (.iastore, 1) := by decide +kernel
theorem dX12_say_36 : decode cX12_say 36 = .ok (.aload_n 0, 1) := by decide +kernel
theorem dX12_say_37 : decode cX12_say 37 = .ok (.dup, 1) := by decide +kernel
theorem dX12_say_38 : decode cX12_say 38 = .ok (.getfield 87, 3) := by decide +kernel
theorem dX12_say_41 : decode cX12_say 41 = .ok (.iconst 1, 1) := by decide +kernel
theorem dX12_say_42 : decode cX12_say 42 = .ok (.iadd, 1) := by decide +kernel
theorem dX12_say_43 : decode cX12_say 43 = .ok (.putfield 87, 3) := by decide +kernel
theorem dX12_say_46 : decode cX12_say 46 = .ok (.aload_n 0, 1) := by decide +kernel
theorem dX12_say_47 : decode cX12_say 47 = .ok (.getfield 87, 3) := by decide +kernel
theorem dX12_say_50 : decode cX12_say 50 = .ok (.ireturn, 1) := by decide +kernel
theorem dX12_wipe_0 : decode cX12_wipe 0 = .ok (.aload_n 0, 1) := by decide +kernel
theorem dX12_wipe_1 : decode cX12_wipe 1 = .ok (.getfield 87, 3) := by decide +kernel
theorem dX12_wipe_4 : decode cX12_wipe 4 = .ok (.istore_n 1, 1) := by decide +kernel
theorem dX12_wipe_5 : decode cX12_wipe 5 = .ok (.aload_n 0, 1) := by decide +kernel
theorem dX12_wipe_6 : decode cX12_wipe 6 = .ok (.iconst 0, 1) := by decide +kernel
theorem dX12_wipe_7 : decode cX12_wipe 7 = .ok (.putfield 87, 3) := by decide +kernel
theorem dX12_wipe_10 : decode cX12_wipe 10 = .ok (.iload_n 1, 1) := by decide +kernel
theorem dX12_wipe_11 : decode cX12_wipe 11 = .ok (.ireturn, 1) := by decide +kernel
theorem dX12_isLoop_0 : decode cX12_isLoop 0 = .ok (.iload_n 0, 1) := by decide +kernel
theorem dX12_isLoop_1 : decode cX12_isLoop 1 = .ok (.bipush 98, 2) := by decide +kernel
theorem dX12_isLoop_3 : decode cX12_isLoop 3 = .ok (.bipush 100, 2) := by decide +kernel
theorem dX12_isLoop_5 : decode cX12_isLoop 5 = .ok (.invokestatic 80, 3) := by decide +kernel
theorem dX12_isLoop_8 : decode cX12_isLoop 8 = .ok (.ireturn, 1) := by decide +kernel
theorem dX12_partsOf_0 : decode cX12_partsOf 0 = .ok (.iload_n 0, 1) := by decide +kernel
theorem dX12_partsOf_1 : decode cX12_partsOf 1 = .ok (.bipush 48, 2) := by decide +kernel
theorem dX12_partsOf_3 : decode cX12_partsOf 3 = .ok (.bipush 55, 2) := by decide +kernel
theorem dX12_partsOf_5 : decode cX12_partsOf 5 = .ok (.invokestatic 80, 3) := by decide +kernel
theorem dX12_partsOf_8 : decode cX12_partsOf 8 = .ok (.ifCond .ne 9, 3) := by decide +kernel
theorem dX12_partsOf_11 : decode cX12_partsOf 11 = .ok (.iload_n 0, 1) := by decide +kernel
theorem dX12_partsOf_12 : decode cX12_partsOf 12 = .ok (.bipush 45, 2) := by decide +kernel
theorem dX12_partsOf_14 : decode cX12_partsOf 14 = .ok (.if_icmp .ne 7, 3) := by decide +kernel
theorem dX12_partsOf_17 : decode cX12_partsOf 17 = .ok (.iconst 0, 1) := by decide +kernel
theorem dX12_partsOf_18 : decode cX12_partsOf 18 = .ok (.goto 32, 3) := by decide +kernel
theorem dX12_partsOf_21 : decode cX12_partsOf 21 = .ok (.iload_n 0, 1) := by decide +kernel
theorem dX12_partsOf_22 : decode cX12_partsOf 22 = .ok (.invokestatic 91, 3) := by decide +kernel
theorem dX12_partsOf_25 : decode cX12_partsOf 25 = .ok (.ifCond .eq 7, 3) := by decide +kernel
theorem dX12_partsOf_28 : decode cX12_partsOf 28 = .ok (.iconst 1, 1) := by decide +kernel
theorem dX12_partsOf_29 : decode cX12_partsOf 29 = .ok (.goto 21, 3) := by decide +kernel
theorem dX12_partsOf_32 : decode cX12_partsOf 32 = .ok (.iload_n 0, 1) := by decide +kernel
theorem dX12_partsOf_33 : decode cX12_partsOf 33 = .ok (.bipush 59, 2) := by decide +kernel
theorem dX12_partsOf_35 : decode cX12_partsOf 35 = .ok (.if_icmp .eq 9, 3) := by decide +kernel
theorem dX12_partsOf_38 : decode cX12_partsOf 38 = .ok (.iload_n 0, 1) := by decide +kernel
theorem dX12_partsOf_39 : decode cX12_partsOf 39 = .ok (.bipush 63, 2) := by decide +kernel
theorem dX12_partsOf_41 : decode cX12_partsOf 41 = .ok (.if_icmp .ne 7, 3) := by decide +kernel
theorem dX12_partsOf_44 : decode cX12_partsOf 44 = .ok (.iconst 2, 1) := by decide +kernel
theorem dX12_partsOf_45 : decode cX12_partsOf 45 = .ok (.goto 5, 3) := by decide +kernel
theorem dX12_partsOf_48 : decode cX12_partsOf 48 = .ok (.bipush (-6), 2) := by decide +kernel
theorem dX12_partsOf_50 : decode cX12_partsOf 50 = .ok (.ireturn, 1) := by decide +kernel
theorem dX12_timesOf_0 : decode cX12_timesOf 0 = .ok (.iload_n 0, 1) := by decide +kernel
theorem dX12_timesOf_1 : decode cX12_timesOf 1 = .ok (.bipush 98, 2) := by decide +kernel
theorem dX12_timesOf_3 : decode cX12_timesOf 3 = .ok (.isub, 1) := by decide +kernel
theorem dX12_timesOf_4 : decode cX12_timesOf 4 = .ok (.iconst 2, 1) := by decide +kernel
theorem dX12_timesOf_5 : decode cX12_timesOf 5 = .ok (.iadd, 1) := by decide +kernel
theorem dX12_timesOf_6 : decode cX12_timesOf 6 = .ok (.ireturn, 1) := by decide +kernel
theorem dX12_faultOf_0 : decode cX12_faultOf 0 = .ok (.iconst 0, 1) := by decide +kernel
theorem dX12_faultOf_1 : decode cX12_faultOf 1 = .ok (.istore_n 1, 1) := by decide +kernel
theorem dX12_faultOf_2 : decode cX12_faultOf 2 = .ok (.iconst 0, 1) := by decide +kernel
theorem dX12_faultOf_3 : decode cX12_faultOf 3 = .ok (.istore_n 2, 1) := by decide +kernel
theorem dX12_faultOf_4 : decode cX12_faultOf 4 = .ok (.iload_n 2, 1) := by decide +kernel
theorem dX12_faultOf_5 : decode cX12_faultOf 5 = .ok (.aload_n 0, 1) := by decide +kernel
theorem dX12_faultOf_6 : decode cX12_faultOf 6 = .ok (.getfield 87, 3) := by decide +kernel
theorem dX12_faultOf_9 : decode cX12_faultOf 9 = .ok (.if_icmp .ge 152, 3) := by decide +kernel
theorem dX12_faultOf_12 : decode cX12_faultOf 12 = .ok (.aload_n 0, 1) := by decide +kernel
theorem dX12_faultOf_13 : decode cX12_faultOf 13 = .ok (.getfield 13, 3) := by decide +kernel
theorem dX12_faultOf_16 : decode cX12_faultOf 16 = .ok (.iload_n 2, 1) := by decide +kernel
theorem dX12_faultOf_17 : decode cX12_faultOf 17 = .ok (.iaload, 1) := by decide +kernel
theorem dX12_faultOf_18 : decode cX12_faultOf 18 = .ok (.invokestatic 95, 3) := by decide +kernel
theorem dX12_faultOf_21 : decode cX12_faultOf 21 = .ok (.istore_n 3, 1) := by decide +kernel
theorem dX12_faultOf_22 : decode cX12_faultOf 22 = .ok (.iload_n 3, 1) := by decide +kernel
theorem dX12_faultOf_23 : decode cX12_faultOf 23 = .ok (.ifCond .lt 12, 3) := by decide +kernel
theorem dX12_faultOf_26 : decode cX12_faultOf 26 = .ok (.iload_n 3, 1) := by decide +kernel
theorem dX12_faultOf_27 : decode cX12_faultOf 27 = .ok (.ifCond .le 10, 3) := by decide +kernel
theorem dX12_faultOf_30 : decode cX12_faultOf 30 = .ok (.iload_n 1, 1) := by decide +kernel
theorem dX12_faultOf_31 : decode cX12_faultOf 31 = .ok (.iconst 4, 1) := by decide +kernel
theorem dX12_faultOf_32 : decode cX12_faultOf 32 = .ok (.if_icmp .ne 5, 3) := by decide +kernel
theorem dX12_faultOf_35 : decode cX12_faultOf 35 = .ok (.iload_n 2, 1) := by decide +kernel
theorem dX12_faultOf_36 : decode cX12_faultOf 36 = .ok (.ireturn, 1) := by decide +kernel
theorem dX12_faultOf_37 : decode cX12_faultOf 37 = .ok (.iload_n 3, 1) := by decide +kernel
theorem dX12_faultOf_38 : decode cX12_faultOf 38 = .ok (.ifCond .le 16, 3) := by decide +kernel
theorem dX12_faultOf_41 : decode cX12_faultOf 41 = .ok (.aload_n 0, 1) := by decide +kernel
theorem dX12_faultOf_42 : decode cX12_faultOf 42 = .ok (.getfield 31, 3) := by decide +kernel
theorem dX12_faultOf_45 : decode cX12_faultOf 45 = .ok (.iload_n 1, 1) := by decide +kernel
theorem dX12_faultOf_46 : decode cX12_faultOf 46 = .ok (.iload_n 3, 1) := by decide +kernel
theorem dX12_faultOf_47 : decode cX12_faultOf 47 = .ok (.iastore, 1) := by decide +kernel
theorem dX12_faultOf_48 : decode cX12_faultOf 48 = .ok (.iinc 1 1, 3) := by decide +kernel
theorem dX12_faultOf_51 : decode cX12_faultOf 51 = .ok (.goto 104, 3) := by decide +kernel
theorem dX12_faultOf_54 : decode cX12_faultOf 54 = .ok (.iload_n 1, 1) := by decide +kernel
theorem dX12_faultOf_55 : decode cX12_faultOf 55 = .ok (.ifCond .le 7, 3) := by decide +kernel
theorem dX12_faultOf_58 : decode cX12_faultOf 58 = .ok (.iconst 1, 1) := by decide +kernel
theorem dX12_faultOf_59 : decode cX12_faultOf 59 = .ok (.goto 4, 3) := by decide +kernel
theorem dX12_faultOf_62 : decode cX12_faultOf 62 = .ok (.iconst 0, 1) := by decide +kernel
theorem dX12_faultOf_63 : decode cX12_faultOf 63 = .ok (.istore 4, 2) := by decide +kernel
theorem dX12_faultOf_65 : decode cX12_faultOf 65 = .ok (.iload 4, 2) := by decide +kernel
theorem dX12_faultOf_67 : decode cX12_faultOf 67 = .ok (.ifCond .eq 65, 3) := by decide +kernel
theorem dX12_faultOf_70 : decode cX12_faultOf 70 = .ok (.aload_n 0, 1) := by decide +kernel
theorem dX12_faultOf_71 : decode cX12_faultOf 71 = .ok (.getfield 31, 3) := by decide +kernel
theorem dX12_faultOf_74 : decode cX12_faultOf 74 = .ok (.iload_n 1, 1) := by decide +kernel
theorem dX12_faultOf_75 : decode cX12_faultOf 75 = .ok (.iconst 1, 1) := by decide +kernel
theorem dX12_faultOf_76 : decode cX12_faultOf 76 = .ok (.isub, 1) := by decide +kernel
theorem dX12_faultOf_77 : decode cX12_faultOf 77 = .ok (.dup2, 1) := by decide +kernel
theorem dX12_faultOf_78 : decode cX12_faultOf 78 = .ok (.iaload, 1) := by decide +kernel
theorem dX12_faultOf_79 : decode cX12_faultOf 79 = .ok (.iconst 1, 1) := by decide +kernel
theorem dX12_faultOf_80 : decode cX12_faultOf 80 = .ok (.isub, 1) := by decide +kernel
theorem dX12_faultOf_81 : decode cX12_faultOf 81 = .ok (.iastore, 1) := by decide +kernel
theorem dX12_faultOf_82 : decode cX12_faultOf 82 = .ok (.aload_n 0, 1) := by decide +kernel
theorem dX12_faultOf_83 : decode cX12_faultOf 83 = .ok (.getfield 31, 3) := by decide +kernel
theorem dX12_faultOf_86 : decode cX12_faultOf 86 = .ok (.iload_n 1, 1) := by decide +kernel
theorem dX12_faultOf_87 : decode cX12_faultOf 87 = .ok (.iconst 1, 1) := by decide +kernel
theorem dX12_faultOf_88 : decode cX12_faultOf 88 = .ok (.isub, 1) := by decide +kernel
theorem dX12_faultOf_89 : decode cX12_faultOf 89 = .ok (.iaload, 1) := by decide +kernel
theorem dX12_faultOf_90 : decode cX12_faultOf 90 = .ok (.ifCond .ne 7, 3) := by decide +kernel
theorem dX12_faultOf_93 : decode cX12_faultOf 93 = .ok (.iconst 1, 1) := by decide +kernel
theorem dX12_faultOf_94 : decode cX12_faultOf 94 = .ok (.goto 4, 3) := by decide +kernel
theorem dX12_faultOf_97 : decode cX12_faultOf 97 = .ok (.iconst 0, 1) := by decide +kernel
theorem dX12_faultOf_98 : decode cX12_faultOf 98 = .ok (.istore 4, 2) := by decide +kernel
theorem dX12_faultOf_100 : decode cX12_faultOf 100 = .ok (.iload_n 1, 1) := by decide +kernel
theorem dX12_faultOf_101 : decode cX12_faultOf 101 = .ok (.iload 4, 2) := by decide +kernel
theorem dX12_faultOf_103 : decode cX12_faultOf 103 = .ok (.ifCond .eq 7, 3) := by decide +kernel
theorem dX12_faultOf_106 : decode cX12_faultOf 106 = .ok (.iconst 1, 1) := by decide +kernel
theorem dX12_faultOf_107 : decode cX12_faultOf 107 = .ok (.goto 4, 3) := by decide +kernel
theorem dX12_faultOf_110 : decode cX12_faultOf 110 = .ok (.iconst 0, 1) := by decide +kernel
theorem dX12_faultOf_111 : decode cX12_faultOf 111 = .ok (.isub, 1) := by decide +kernel
theorem dX12_faultOf_112 : decode cX12_faultOf 112 = .ok (.istore_n 1, 1) := by decide +kernel
theorem dX12_faultOf_113 : decode cX12_faultOf 113 = .ok (.iload 4, 2) := by decide +kernel
theorem dX12_faultOf_115 : decode cX12_faultOf 115 = .ok (.ifCond .eq 11, 3) := by decide +kernel
theorem dX12_faultOf_118 : decode cX12_faultOf 118 = .ok (.iload_n 1, 1) := by decide +kernel
theorem dX12_faultOf_119 : decode cX12_faultOf 119 = .ok (.ifCond .le 7, 3) := by decide +kernel
theorem dX12_faultOf_122 : decode cX12_faultOf 122 = .ok (.iconst 1, 1) := by decide +kernel
theorem dX12_faultOf_123 : decode cX12_faultOf 123 = .ok (.goto 4, 3) := by decide +kernel
theorem dX12_faultOf_126 : decode cX12_faultOf 126 = .ok (.iconst 0, 1) := by decide +kernel
theorem dX12_faultOf_127 : decode cX12_faultOf 127 = .ok (.istore 4, 2) := by decide +kernel
theorem dX12_faultOf_129 : decode cX12_faultOf 129 = .ok (.goto (-64), 3) := by decide +kernel
theorem dX12_faultOf_132 : decode cX12_faultOf 132 = .ok (.iload_n 1, 1) := by decide +kernel
theorem dX12_faultOf_133 : decode cX12_faultOf 133 = .ok (.ifCond .ne 22, 3) := by decide +kernel
theorem dX12_faultOf_136 : decode cX12_faultOf 136 = .ok (.iload_n 2, 1) := by decide +kernel
theorem dX12_faultOf_137 : decode cX12_faultOf 137 = .ok (.iconst 1, 1) := by decide +kernel
theorem dX12_faultOf_138 : decode cX12_faultOf 138 = .ok (.iadd, 1) := by decide +kernel
theorem dX12_faultOf_139 : decode cX12_faultOf 139 = .ok (.aload_n 0, 1) := by decide +kernel
theorem dX12_faultOf_140 : decode cX12_faultOf 140 = .ok (.getfield 87, 3) := by decide +kernel
theorem dX12_faultOf_143 : decode cX12_faultOf 143 = .ok (.if_icmp .ne 8, 3) := by decide +kernel
theorem dX12_faultOf_146 : decode cX12_faultOf 146 = .ok (.bipush (-6), 2) := by decide +kernel
theorem dX12_faultOf_148 : decode cX12_faultOf 148 = .ok (.goto 6, 3) := by decide +kernel
theorem dX12_faultOf_151 : decode cX12_faultOf 151 = .ok (.iload_n 2, 1) := by decide +kernel
theorem dX12_faultOf_152 : decode cX12_faultOf 152 = .ok (.iconst 1, 1) := by decide +kernel
theorem dX12_faultOf_153 : decode cX12_faultOf 153 = .ok (.iadd, 1) := by decide +kernel
theorem dX12_faultOf_154 : decode cX12_faultOf 154 = .ok (.ireturn, 1) := by decide +kernel
theorem dX12_faultOf_155 : decode cX12_faultOf 155 = .ok (.iinc 2 1, 3) := by decide +kernel
theorem dX12_faultOf_158 : decode cX12_faultOf 158 = .ok (.goto (-154), 3) := by decide +kernel
theorem dX12_faultOf_161 : decode cX12_faultOf 161 = .ok (.aload_n 0, 1) := by decide +kernel
theorem dX12_faultOf_162 : decode cX12_faultOf 162 = .ok (.getfield 87, 3) := by decide +kernel
theorem dX12_faultOf_165 : decode cX12_faultOf 165 = .ok (.ireturn, 1) := by decide +kernel
theorem dX12_fault_0 : decode cX12_fault 0 = .ok (.aload_n 0, 1) := by decide +kernel
theorem dX12_fault_1 : decode cX12_fault 1 = .ok (.invokevirtual 99, 3) := by decide +kernel
theorem dX12_fault_4 : decode cX12_fault 4 = .ok (.ireturn, 1) := by decide +kernel
theorem dX12_program_0 : decode cX12_program 0 = .ok (.iload_n 1, 1) := by decide +kernel
theorem dX12_program_1 : decode cX12_program 1 = .ok (.invokestatic 103, 3) := by decide +kernel
theorem dX12_program_4 : decode cX12_program 4 = .ok (.ifCond .ne 5, 3) := by decide +kernel
theorem dX12_program_7 : decode cX12_program 7 = .ok (.iconst (-1), 1) := by decide +kernel
theorem dX12_program_8 : decode cX12_program 8 = .ok (.ireturn, 1) := by decide +kernel
theorem dX12_program_9 : decode cX12_program 9 = .ok (.aload_n 0, 1) := by decide +kernel
theorem dX12_program_10 : decode cX12_program 10 = .ok (.invokevirtual 99, 3) := by decide +kernel
theorem dX12_program_13 : decode cX12_program 13 = .ok (.ifCond .lt 6, 3) := by decide +kernel
theorem dX12_program_16 : decode cX12_program 16 = .ok (.bipush (-5), 2) := by decide +kernel
theorem dX12_program_18 : decode cX12_program 18 = .ok (.ireturn, 1) := by decide +kernel
theorem dX12_program_19 : decode cX12_program 19 = .ok (.aload_n 0, 1) := by decide +kernel
theorem dX12_program_20 : decode cX12_program 20 = .ok (.getfield 16, 3) := by decide +kernel
theorem dX12_program_23 : decode cX12_program 23 = .ok (.iload_n 1, 1) := by decide +kernel
theorem dX12_program_24 : decode cX12_program 24 = .ok (.aload_n 0, 1) := by decide +kernel
theorem dX12_program_25 : decode cX12_program 25 = .ok (.getfield 87, 3) := by decide +kernel
theorem dX12_program_28 : decode cX12_program 28 = .ok (.iastore, 1) := by decide +kernel
theorem dX12_program_29 : decode cX12_program 29 = .ok (.iconst 0, 1) := by decide +kernel
theorem dX12_program_30 : decode cX12_program 30 = .ok (.istore_n 2, 1) := by decide +kernel
theorem dX12_program_31 : decode cX12_program 31 = .ok (.iload_n 2, 1) := by decide +kernel
theorem dX12_program_32 : decode cX12_program 32 = .ok (.aload_n 0, 1) := by decide +kernel
theorem dX12_program_33 : decode cX12_program 33 = .ok (.getfield 87, 3) := by decide +kernel
theorem dX12_program_36 : decode cX12_program 36 = .ok (.if_icmp .ge 26, 3) := by decide +kernel
theorem dX12_program_39 : decode cX12_program 39 = .ok (.aload_n 0, 1) := by decide +kernel
theorem dX12_program_40 : decode cX12_program 40 = .ok (.getfield 19, 3) := by decide +kernel
theorem dX12_program_43 : decode cX12_program 43 = .ok (.bipush 30, 2) := by decide +kernel
theorem dX12_program_45 : decode cX12_program 45 = .ok (.iload_n 1, 1) := by decide +kernel
theorem dX12_program_46 : decode cX12_program 46 = .ok (.imul, 1) := by decide +kernel
theorem dX12_program_47 : decode cX12_program 47 = .ok (.iload_n 2, 1) := by decide +kernel
theorem dX12_program_48 : decode cX12_program 48 = .ok (.iadd, 1) := by decide +kernel
theorem dX12_program_49 : decode cX12_program 49 = .ok (.aload_n 0, 1) := by decide +kernel
theorem dX12_program_50 : decode cX12_program 50 = .ok (.getfield 13, 3) := by decide +kernel
theorem dX12_program_53 : decode cX12_program 53 = .ok (.iload_n 2, 1) := by decide +kernel
theorem dX12_program_54 : decode cX12_program 54 = .ok (.iaload, 1) := by decide +kernel
theorem dX12_program_55 : decode cX12_program 55 = .ok (.iastore, 1) := by decide +kernel
theorem dX12_program_56 : decode cX12_program 56 = .ok (.iinc 2 1, 3) := by decide +kernel
theorem dX12_program_59 : decode cX12_program 59 = .ok (.goto (-28), 3) := by decide +kernel
theorem dX12_program_62 : decode cX12_program 62 = .ok (.aload_n 0, 1) := by decide +kernel
theorem dX12_program_63 : decode cX12_program 63 = .ok (.iconst 0, 1) := by decide +kernel
theorem dX12_program_64 : decode cX12_program 64 = .ok (.putfield 87, 3) := by decide +kernel
theorem dX12_program_67 : decode cX12_program 67 = .ok (.aload_n 0, 1) := by decide +kernel
theorem dX12_program_68 : decode cX12_program 68 = .ok (.iload_n 1, 1) := by decide +kernel
theorem dX12_program_69 : decode cX12_program 69 = .ok (.invokevirtual 106, 3) := by decide +kernel
theorem dX12_program_72 : decode cX12_program 72 = .ok (.aload_n 0, 1) := by decide +kernel
theorem dX12_program_73 : decode cX12_program 73 = .ok (.getfield 16, 3) := by decide +kernel
theorem dX12_program_76 : decode cX12_program 76 = .ok (.iload_n 1, 1) := by decide +kernel
theorem dX12_program_77 : decode cX12_program 77 = .ok (.iaload, 1) := by decide +kernel
theorem dX12_program_78 : decode cX12_program 78 = .ok (.ireturn, 1) := by decide +kernel
theorem dX12_laySizes_0 : decode cX12_laySizes 0 = .ok (.aload_n 0, 1) := by decide +kernel
theorem dX12_laySizes_1 : decode cX12_laySizes 1 = .ok (.getfield 16, 3) := by decide +kernel
theorem dX12_laySizes_4 : decode cX12_laySizes 4 = .ok (.iload_n 1, 1) := by decide +kernel
theorem dX12_laySizes_5 : decode cX12_laySizes 5 = .ok (.iaload, 1) := by decide +kernel
theorem dX12_laySizes_6 : decode cX12_laySizes 6 = .ok (.iconst 1, 1) := by decide +kernel
theorem dX12_laySizes_7 : decode cX12_laySizes 7 = .ok (.isub, 1) := by decide +kernel
theorem dX12_laySizes_8 : decode cX12_laySizes 8 = .ok (.istore_n 2, 1) := by decide +kernel
theorem dX12_laySizes_9 : decode cX12_laySizes 9 = .ok (.iload_n 2, 1) := by decide +kernel
theorem dX12_laySizes_10 : decode cX12_laySizes 10 = .ok (.ifCond .lt 64, 3) := by decide +kernel
theorem dX12_laySizes_13 : decode cX12_laySizes 13 = .ok (.bipush 30, 2) := by decide +kernel
theorem dX12_laySizes_15 : decode cX12_laySizes 15 = .ok (.iload_n 1, 1) := by decide +kernel
theorem dX12_laySizes_16 : decode cX12_laySizes 16 = .ok (.imul, 1) := by decide +kernel
theorem dX12_laySizes_17 : decode cX12_laySizes 17 = .ok (.iload_n 2, 1) := by decide +kernel
theorem dX12_laySizes_18 : decode cX12_laySizes 18 = .ok (.iadd, 1) := by decide +kernel
theorem dX12_laySizes_19 : decode cX12_laySizes 19 = .ok (.istore_n 3, 1) := by decide +kernel
theorem dX12_laySizes_20 : decode cX12_laySizes 20 = .ok (.iconst 1, 1) := by decide +kernel
theorem dX12_laySizes_21 : decode cX12_laySizes 21 = .ok (.istore 4, 2) := by decide +kernel
theorem dX12_laySizes_23 : decode cX12_laySizes 23 = .ok (.iconst 0, 1) := by decide +kernel
theorem dX12_laySizes_24 : decode cX12_laySizes 24 = .ok (.istore 5, 2) := by decide +kernel
theorem dX12_laySizes_26 : decode cX12_laySizes 26 = .ok (.iload 5, 2) := by decide +kernel
theorem dX12_laySizes_28 : decode cX12_laySizes 28 = .ok (.aload_n 0, 1) := by decide +kernel
theorem dX12_laySizes_29 : decode cX12_laySizes 29 = .ok (.getfield 19, 3) := by decide +kernel
theorem dX12_laySizes_32 : decode cX12_laySizes 32 = .ok (.iload_n 3, 1) := by decide +kernel
theorem dX12_laySizes_33 : decode cX12_laySizes 33 = .ok (.iaload, 1) := by decide +kernel
theorem dX12_laySizes_34 : decode cX12_laySizes 34 = .ok (.invokestatic 95, 3) := by decide +kernel
theorem dX12_laySizes_37 : decode cX12_laySizes 37 = .ok (.if_icmp .ge 23, 3) := by decide +kernel
theorem dX12_laySizes_40 : decode cX12_laySizes 40 = .ok (.iload 4, 2) := by decide +kernel
theorem dX12_laySizes_42 : decode cX12_laySizes 42 = .ok (.aload_n 0, 1) := by decide +kernel
theorem dX12_laySizes_43 : decode cX12_laySizes 43 = .ok (.getfield 22, 3) := by decide +kernel
theorem dX12_laySizes_46 : decode cX12_laySizes 46 = .ok (.iload_n 3, 1) := by decide +kernel
theorem dX12_laySizes_47 : decode cX12_laySizes 47 = .ok (.iload 4, 2) := by decide +kernel
theorem dX12_laySizes_49 : decode cX12_laySizes 49 = .ok (.iadd, 1) := by decide +kernel
theorem dX12_laySizes_50 : decode cX12_laySizes 50 = .ok (.iaload, 1) := by decide +kernel
theorem dX12_laySizes_51 : decode cX12_laySizes 51 = .ok (.iadd, 1) := by decide +kernel
theorem dX12_laySizes_52 : decode cX12_laySizes 52 = .ok (.istore 4, 2) := by decide +kernel
theorem dX12_laySizes_54 : decode cX12_laySizes 54 = .ok (.iinc 5 1, 3) := by decide +kernel
theorem dX12_laySizes_57 : decode cX12_laySizes 57 = .ok (.goto (-31), 3) := by decide +kernel
theorem dX12_laySizes_60 : decode cX12_laySizes 60 = .ok (.aload_n 0, 1) := by decide +kernel
theorem dX12_laySizes_61 : decode cX12_laySizes 61 = .ok (.getfield 22, 3) := by decide +kernel
theorem dX12_laySizes_64 : decode cX12_laySizes 64 = .ok (.iload_n 3, 1) := by decide +kernel
theorem dX12_laySizes_65 : decode cX12_laySizes 65 = .ok (.iload 4, 2) := by decide +kernel
theorem dX12_laySizes_67 : decode cX12_laySizes 67 = .ok (.iastore, 1) := by decide +kernel
theorem dX12_laySizes_68 : decode cX12_laySizes 68 = .ok (.iinc 2 (-1), 3) := by decide +kernel
theorem dX12_laySizes_71 : decode cX12_laySizes 71 = .ok (.goto (-62), 3) := by decide +kernel
theorem dX12_laySizes_74 : decode cX12_laySizes 74 = .ok (.return_, 1) := by decide +kernel
theorem dX12_isNode_0 : decode cX12_isNode 0 = .ok (.iload_n 1, 1) := by decide +kernel
theorem dX12_isNode_1 : decode cX12_isNode 1 = .ok (.invokestatic 103, 3) := by decide +kernel
theorem dX12_isNode_4 : decode cX12_isNode 4 = .ok (.ifCond .eq 23, 3) := by decide +kernel
theorem dX12_isNode_7 : decode cX12_isNode 7 = .ok (.iload_n 2, 1) := by decide +kernel
theorem dX12_isNode_8 : decode cX12_isNode 8 = .ok (.iconst 0, 1) := by decide +kernel
theorem dX12_isNode_9 : decode cX12_isNode 9 = .ok (.aload_n 0, 1) := by decide +kernel
theorem dX12_isNode_10 : decode cX12_isNode 10 = .ok (.getfield 16, 3) := by decide +kernel
theorem dX12_isNode_13 : decode cX12_isNode 13 = .ok (.iload_n 1, 1) := by decide +kernel
theorem dX12_isNode_14 : decode cX12_isNode 14 = .ok (.iaload, 1) := by decide +kernel
theorem dX12_isNode_15 : decode cX12_isNode 15 = .ok (.iconst 1, 1) := by decide +kernel
theorem dX12_isNode_16 : decode cX12_isNode 16 = .ok (.isub, 1) := by decide +kernel
theorem dX12_isNode_17 : decode cX12_isNode 17 = .ok (.invokestatic 80, 3) := by decide +kernel
theorem dX12_isNode_20 : decode cX12_isNode 20 = .ok (.ifCond .eq 7, 3) := by decide +kernel
theorem dX12_isNode_23 : decode cX12_isNode 23 = .ok (.iconst 1, 1) := by decide +kernel
theorem dX12_isNode_24 : decode cX12_isNode 24 = .ok (.goto 4, 3) := by decide +kernel
theorem dX12_isNode_27 : decode cX12_isNode 27 = .ok (.iconst 0, 1) := by decide +kernel
theorem dX12_isNode_28 : decode cX12_isNode 28 = .ok (.ireturn, 1) := by decide +kernel
theorem dX12_node_0 : decode cX12_node 0 = .ok (.aload_n 0, 1) := by decide +kernel
theorem dX12_node_1 : decode cX12_node 1 = .ok (.iload_n 1, 1) := by decide +kernel
theorem dX12_node_2 : decode cX12_node 2 = .ok (.iload_n 2, 1) := by decide +kernel
theorem dX12_node_3 : decode cX12_node 3 = .ok (.invokevirtual 110, 3) := by decide +kernel
theorem dX12_node_6 : decode cX12_node 6 = .ok (.ifCond .ne 5, 3) := by decide +kernel
theorem dX12_node_9 : decode cX12_node 9 = .ok (.iconst (-1), 1) := by decide +kernel
theorem dX12_node_10 : decode cX12_node 10 = .ok (.ireturn, 1) := by decide +kernel
theorem dX12_node_11 : decode cX12_node 11 = .ok (.iload_n 3, 1) := by decide +kernel
theorem dX12_node_12 : decode cX12_node 12 = .ok (.ifCond .ne 17, 3) := by decide +kernel
theorem dX12_node_15 : decode cX12_node 15 = .ok (.aload_n 0, 1) := by decide +kernel
theorem dX12_node_16 : decode cX12_node 16 = .ok (.getfield 19, 3) := by decide +kernel
theorem dX12_node_19 : decode cX12_node 19 = .ok (.bipush 30, 2) := by decide +kernel
theorem dX12_node_21 : decode cX12_node 21 = .ok (.iload_n 1, 1) := by decide +kernel
theorem dX12_node_22 : decode cX12_node 22 = .ok (.imul, 1) := by decide +kernel
theorem dX12_node_23 : decode cX12_node 23 = .ok (.iload_n 2, 1) := by decide +kernel
theorem dX12_node_24 : decode cX12_node 24 = .ok (.iadd, 1) := by decide +kernel
theorem dX12_node_25 : decode cX12_node 25 = .ok (.iaload, 1) := by decide +kernel
theorem dX12_node_26 : decode cX12_node 26 = .ok (.goto 24, 3) := by decide +kernel
theorem dX12_node_29 : decode cX12_node 29 = .ok (.iload_n 3, 1) := by decide +kernel
theorem dX12_node_30 : decode cX12_node 30 = .ok (.iconst 1, 1) := by decide +kernel
theorem dX12_node_31 : decode cX12_node 31 = .ok (.if_icmp .ne 17, 3) := by decide +kernel
theorem dX12_node_34 : decode cX12_node 34 = .ok (.aload_n 0, 1) := by decide +kernel
theorem dX12_node_35 : decode cX12_node 35 = .ok (.getfield 22, 3) := by decide +kernel
theorem dX12_node_38 : decode cX12_node 38 = .ok (.bipush 30, 2) := by decide +kernel
theorem dX12_node_40 : decode cX12_node 40 = .ok (.iload_n 1, 1) := by decide +kernel
theorem dX12_node_41 : decode cX12_node 41 = .ok (.imul, 1) := by decide +kernel
theorem dX12_node_42 : decode cX12_node 42 = .ok (.iload_n 2, 1) := by decide +kernel
theorem dX12_node_43 : decode cX12_node 43 = .ok (.iadd, 1) := by decide +kernel
theorem dX12_node_44 : decode cX12_node 44 = .ok (.iaload, 1) := by decide +kernel
theorem dX12_node_45 : decode cX12_node 45 = .ok (.goto 5, 3) := by decide +kernel
theorem dX12_node_48 : decode cX12_node 48 = .ok (.bipush (-2), 2) := by decide +kernel
theorem dX12_node_50 : decode cX12_node 50 = .ok (.ireturn, 1) := by decide +kernel
theorem dX12_linesInSet_0 : decode cX12_linesInSet 0 = .ok (.bipush 8, 2) := by decide +kernel
theorem dX12_linesInSet_2 : decode cX12_linesInSet 2 = .ok (.aload_n 0, 1) := by decide +kernel
theorem dX12_linesInSet_3 : decode cX12_linesInSet 3 = .ok (.getfield 7, 3) := by decide +kernel
theorem dX12_linesInSet_6 : decode cX12_linesInSet 6 = .ok (.iconst 0, 1) := by decide +kernel
theorem dX12_linesInSet_7 : decode cX12_linesInSet 7 = .ok (.iaload, 1) := by decide +kernel
theorem dX12_linesInSet_8 : decode cX12_linesInSet 8 = .ok (.idiv, 1) := by decide +kernel
theorem dX12_linesInSet_9 : decode cX12_linesInSet 9 = .ok (.ireturn, 1) := by decide +kernel
theorem dX12_statesOfSet_0 : decode cX12_statesOfSet 0 = .ok (.aload_n 0, 1) := by decide +kernel
theorem dX12_statesOfSet_1 : decode cX12_statesOfSet 1 = .ok (.invokevirtual 114, 3) := by decide +kernel
theorem dX12_statesOfSet_4 : decode cX12_statesOfSet 4 = .ok (.istore_n 1, 1) := by decide +kernel
theorem dX12_statesOfSet_5 : decode cX12_statesOfSet 5 = .ok (.iconst 1, 1) := by decide +kernel
theorem dX12_statesOfSet_6 : decode cX12_statesOfSet 6 = .ok (.iload_n 1, 1) := by decide +kernel
theorem dX12_statesOfSet_7 : decode cX12_statesOfSet 7 = .ok (.iadd, 1) := by decide +kernel
theorem dX12_statesOfSet_8 : decode cX12_statesOfSet 8 = .ok (.iload_n 1, 1) := by decide +kernel
theorem dX12_statesOfSet_9 : decode cX12_statesOfSet 9 = .ok (.iload_n 1, 1) := by decide +kernel
theorem dX12_statesOfSet_10 : decode cX12_statesOfSet 10 = .ok (.iconst 1, 1) := by decide +kernel
theorem dX12_statesOfSet_11 : decode cX12_statesOfSet 11 = .ok (.isub, 1) := by decide +kernel
theorem dX12_statesOfSet_12 : decode cX12_statesOfSet 12 = .ok (.imul, 1) := by decide +kernel
theorem dX12_statesOfSet_13 : decode cX12_statesOfSet 13 = .ok (.iadd, 1) := by decide +kernel
theorem dX12_statesOfSet_14 : decode cX12_statesOfSet 14 = .ok (.ireturn, 1) := by decide +kernel
theorem dX12_states_0 : decode cX12_states 0 = .ok (.iconst 1, 1) := by decide +kernel
theorem dX12_states_1 : decode cX12_states 1 = .ok (.istore_n 1, 1) := by decide +kernel
theorem dX12_states_2 : decode cX12_states 2 = .ok (.iconst 0, 1) := by decide +kernel
theorem dX12_states_3 : decode cX12_states 3 = .ok (.istore_n 2, 1) := by decide +kernel
theorem dX12_states_4 : decode cX12_states 4 = .ok (.iload_n 2, 1) := by decide +kernel
theorem dX12_states_5 : decode cX12_states 5 = .ok (.aload_n 0, 1) := by decide +kernel
theorem dX12_states_6 : decode cX12_states 6 = .ok (.getfield 7, 3) := by decide +kernel
theorem dX12_states_9 : decode cX12_states 9 = .ok (.iconst 0, 1) := by decide +kernel
theorem dX12_states_10 : decode cX12_states 10 = .ok (.iaload, 1) := by decide +kernel
theorem dX12_states_11 : decode cX12_states 11 = .ok (.if_icmp .ge 16, 3) := by decide +kernel
theorem dX12_states_14 : decode cX12_states 14 = .ok (.iload_n 1, 1) := by decide +kernel
theorem dX12_states_15 : decode cX12_states 15 = .ok (.aload_n 0, 1) := by decide +kernel
theorem dX12_states_16 : decode cX12_states 16 = .ok (.invokevirtual 117, 3) := by decide +kernel
theorem dX12_states_19 : decode cX12_states 19 = .ok (.imul, 1) := by decide +kernel
theorem dX12_states_20 : decode cX12_states 20 = .ok (.istore_n 1, 1) := by decide +kernel
theorem dX12_states_21 : decode cX12_states 21 = .ok (.iinc 2 1, 3) := by decide +kernel
theorem dX12_states_24 : decode cX12_states 24 = .ok (.goto (-20), 3) := by decide +kernel
theorem dX12_states_27 : decode cX12_states 27 = .ok (.iload_n 1, 1) := by decide +kernel
theorem dX12_states_28 : decode cX12_states 28 = .ok (.ireturn, 1) := by decide +kernel
theorem dX12_pair_0 : decode cX12_pair 0 = .ok (.iconst 1, 1) := by decide +kernel
theorem dX12_pair_1 : decode cX12_pair 1 = .ok (.iload_n 0, 1) := by decide +kernel
theorem dX12_pair_2 : decode cX12_pair 2 = .ok (.iadd, 1) := by decide +kernel
theorem dX12_pair_3 : decode cX12_pair 3 = .ok (.iload_n 1, 1) := by decide +kernel
theorem dX12_pair_4 : decode cX12_pair 4 = .ok (.iload_n 0, 1) := by decide +kernel
theorem dX12_pair_5 : decode cX12_pair 5 = .ok (.iconst 1, 1) := by decide +kernel
theorem dX12_pair_6 : decode cX12_pair 6 = .ok (.isub, 1) := by decide +kernel
theorem dX12_pair_7 : decode cX12_pair 7 = .ok (.imul, 1) := by decide +kernel
theorem dX12_pair_8 : decode cX12_pair 8 = .ok (.iadd, 1) := by decide +kernel
theorem dX12_pair_9 : decode cX12_pair 9 = .ok (.iload_n 2, 1) := by decide +kernel
theorem dX12_pair_10 : decode cX12_pair 10 = .ok (.iload_n 1, 1) := by decide +kernel
theorem dX12_pair_11 : decode cX12_pair 11 = .ok (.if_icmp .ge 7, 3) := by decide +kernel
theorem dX12_pair_14 : decode cX12_pair 14 = .ok (.iload_n 2, 1) := by decide +kernel
theorem dX12_pair_15 : decode cX12_pair 15 = .ok (.goto 6, 3) := by decide +kernel
theorem dX12_pair_18 : decode cX12_pair 18 = .ok (.iload_n 2, 1) := by decide +kernel
theorem dX12_pair_19 : decode cX12_pair 19 = .ok (.iconst 1, 1) := by decide +kernel
theorem dX12_pair_20 : decode cX12_pair 20 = .ok (.isub, 1) := by decide +kernel
theorem dX12_pair_21 : decode cX12_pair 21 = .ok (.iadd, 1) := by decide +kernel
theorem dX12_pair_22 : decode cX12_pair 22 = .ok (.ireturn, 1) := by decide +kernel
theorem dX12_newestOf_0 : decode cX12_newestOf 0 = .ok (.iload_n 2, 1) := by decide +kernel
theorem dX12_newestOf_1 : decode cX12_newestOf 1 = .ok (.ifCond .ne 8, 3) := by decide +kernel
theorem dX12_newestOf_4 : decode cX12_newestOf 4 = .ok (.bipush (-6), 2) := by decide +kernel
theorem dX12_newestOf_6 : decode cX12_newestOf 6 = .ok (.goto 23, 3) := by decide +kernel
theorem dX12_newestOf_9 : decode cX12_newestOf 9 = .ok (.iload_n 2, 1) := by decide +kernel
theorem dX12_newestOf_10 : decode cX12_newestOf 10 = .ok (.iload_n 1, 1) := by decide +kernel
theorem dX12_newestOf_11 : decode cX12_newestOf 11 = .ok (.if_icmp .gt 9, 3) := by decide +kernel
theorem dX12_newestOf_14 : decode cX12_newestOf 14 = .ok (.iload_n 2, 1) := by decide +kernel
theorem dX12_newestOf_15 : decode cX12_newestOf 15 = .ok (.iconst 1, 1) := by decide +kernel
theorem dX12_newestOf_16 : decode cX12_newestOf 16 = .ok (.isub, 1) := by decide +kernel
theorem dX12_newestOf_17 : decode cX12_newestOf 17 = .ok (.goto 12, 3) := by decide +kernel
theorem dX12_newestOf_20 : decode cX12_newestOf 20 = .ok (.iload_n 2, 1) := by decide +kernel
theorem dX12_newestOf_21 : decode cX12_newestOf 21 = .ok (.iconst 1, 1) := by decide +kernel
theorem dX12_newestOf_22 : decode cX12_newestOf 22 = .ok (.isub, 1) := by decide +kernel
theorem dX12_newestOf_23 : decode cX12_newestOf 23 = .ok (.iload_n 1, 1) := by decide +kernel
theorem dX12_newestOf_24 : decode cX12_newestOf 24 = .ok (.isub, 1) := by decide +kernel
theorem dX12_newestOf_25 : decode cX12_newestOf 25 = .ok (.iload_n 1, 1) := by decide +kernel
theorem dX12_newestOf_26 : decode cX12_newestOf 26 = .ok (.iconst 1, 1) := by decide +kernel
theorem dX12_newestOf_27 : decode cX12_newestOf 27 = .ok (.isub, 1) := by decide +kernel
theorem dX12_newestOf_28 : decode cX12_newestOf 28 = .ok (.idiv, 1) := by decide +kernel
theorem dX12_newestOf_29 : decode cX12_newestOf 29 = .ok (.ireturn, 1) := by decide +kernel
theorem dX12_olderOf_0 : decode cX12_olderOf 0 = .ok (.iload_n 2, 1) := by decide +kernel
theorem dX12_olderOf_1 : decode cX12_olderOf 1 = .ok (.iload_n 1, 1) := by decide +kernel
theorem dX12_olderOf_2 : decode cX12_olderOf 2 = .ok (.if_icmp .gt 6, 3) := by decide +kernel
theorem dX12_olderOf_5 : decode cX12_olderOf 5 = .ok (.bipush (-6), 2) := by decide +kernel
theorem dX12_olderOf_7 : decode cX12_olderOf 7 = .ok (.ireturn, 1) := by decide +kernel
theorem dX12_olderOf_8 : decode cX12_olderOf 8 = .ok (.iload_n 2, 1) := by decide +kernel
theorem dX12_olderOf_9 : decode cX12_olderOf 9 = .ok (.iconst 1, 1) := by decide +kernel
theorem dX12_olderOf_10 : decode cX12_olderOf 10 = .ok (.isub, 1) := by decide +kernel
theorem dX12_olderOf_11 : decode cX12_olderOf 11 = .ok (.iload_n 1, 1) := by decide +kernel
theorem dX12_olderOf_12 : decode cX12_olderOf 12 = .ok (.isub, 1) := by decide +kernel
theorem dX12_olderOf_13 : decode cX12_olderOf 13 = .ok (.iload_n 1, 1) := by decide +kernel
theorem dX12_olderOf_14 : decode cX12_olderOf 14 = .ok (.iconst 1, 1) := by decide +kernel
theorem dX12_olderOf_15 : decode cX12_olderOf 15 = .ok (.isub, 1) := by decide +kernel
theorem dX12_olderOf_16 : decode cX12_olderOf 16 = .ok (.irem, 1) := by decide +kernel
theorem dX12_olderOf_17 : decode cX12_olderOf 17 = .ok (.istore_n 3, 1) := by decide +kernel
theorem dX12_olderOf_18 : decode cX12_olderOf 18 = .ok (.iload_n 3, 1) := by decide +kernel
theorem dX12_olderOf_19 : decode cX12_olderOf 19 = .ok (.aload_n 0, 1) := by decide +kernel
theorem dX12_olderOf_20 : decode cX12_olderOf 20 = .ok (.iload_n 1, 1) := by decide +kernel
theorem dX12_olderOf_21 : decode cX12_olderOf 21 = .ok (.iload_n 2, 1) := by decide +kernel
theorem dX12_olderOf_22 : decode cX12_olderOf 22 = .ok (.invokevirtual 120, 3) := by decide +kernel
theorem dX12_olderOf_25 : decode cX12_olderOf 25 = .ok (.if_icmp .ge 7, 3) := by decide +kernel
theorem dX12_olderOf_28 : decode cX12_olderOf 28 = .ok (.iload_n 3, 1) := by decide +kernel
theorem dX12_olderOf_29 : decode cX12_olderOf 29 = .ok (.goto 6, 3) := by decide +kernel
theorem dX12_olderOf_32 : decode cX12_olderOf 32 = .ok (.iload_n 3, 1) := by decide +kernel
theorem dX12_olderOf_33 : decode cX12_olderOf 33 = .ok (.iconst 1, 1) := by decide +kernel
theorem dX12_olderOf_34 : decode cX12_olderOf 34 = .ok (.iadd, 1) := by decide +kernel
theorem dX12_olderOf_35 : decode cX12_olderOf 35 = .ok (.ireturn, 1) := by decide +kernel
theorem dX12_fetch_0 : decode cX12_fetch 0 = .ok (.aload_n 0, 1) := by decide +kernel
theorem dX12_fetch_1 : decode cX12_fetch 1 = .ok (.aload_n 0, 1) := by decide +kernel
theorem dX12_fetch_2 : decode cX12_fetch 2 = .ok (.iload_n 2, 1) := by decide +kernel
theorem dX12_fetch_3 : decode cX12_fetch 3 = .ok (.invokevirtual 124, 3) := by decide +kernel
theorem dX12_fetch_6 : decode cX12_fetch 6 = .ok (.putfield 127, 3) := by decide +kernel
theorem dX12_fetch_9 : decode cX12_fetch 9 = .ok (.aload_n 0, 1) := by decide +kernel
theorem dX12_fetch_10 : decode cX12_fetch 10 = .ok (.getfield 127, 3) := by decide +kernel
theorem dX12_fetch_13 : decode cX12_fetch 13 = .ok (.ifCond .eq 5, 3) := by decide +kernel
theorem dX12_fetch_16 : decode cX12_fetch 16 = .ok (.iload_n 1, 1) := by decide +kernel
theorem dX12_fetch_17 : decode cX12_fetch 17 = .ok (.ireturn, 1) := by decide +kernel
theorem dX12_fetch_18 : decode cX12_fetch 18 = .ok (.aload_n 0, 1) := by decide +kernel
theorem dX12_fetch_19 : decode cX12_fetch 19 = .ok (.invokevirtual 114, 3) := by decide +kernel
theorem dX12_fetch_22 : decode cX12_fetch 22 = .ok (.istore_n 3, 1) := by decide +kernel
theorem dX12_fetch_23 : decode cX12_fetch 23 = .ok (.aload_n 0, 1) := by decide +kernel
theorem dX12_fetch_24 : decode cX12_fetch 24 = .ok (.invokevirtual 117, 3) := by decide +kernel
theorem dX12_fetch_27 : decode cX12_fetch 27 = .ok (.istore 4, 2) := by decide +kernel
theorem dX12_fetch_29 : decode cX12_fetch 29 = .ok (.iconst 1, 1) := by decide +kernel
theorem dX12_fetch_30 : decode cX12_fetch 30 = .ok (.istore 5, 2) := by decide +kernel
theorem dX12_fetch_32 : decode cX12_fetch 32 = .ok (.iconst 0, 1) := by decide +kernel
theorem dX12_fetch_33 : decode cX12_fetch 33 = .ok (.istore 6, 2) := by decide +kernel
theorem dX12_fetch_35 : decode cX12_fetch 35 = .ok (.iload 6, 2) := by decide +kernel
theorem dX12_fetch_37 : decode cX12_fetch 37 = .ok (.aload_n 0, 1) := by decide +kernel
theorem dX12_fetch_38 : decode cX12_fetch 38 = .ok (.iload_n 2, 1) := by decide +kernel
theorem dX12_fetch_39 : decode cX12_fetch 39 = .ok (.invokevirtual 131, 3) := by decide +kernel
theorem dX12_fetch_42 : decode cX12_fetch 42 = .ok (.if_icmp .ge 16, 3) := by decide +kernel
theorem dX12_fetch_45 : decode cX12_fetch 45 = .ok (.iload 5, 2) := by decide +kernel
theorem dX12_fetch_47 : decode cX12_fetch 47 = .ok (.iload 4, 2) := by decide +kernel
theorem dX12_fetch_49 : decode cX12_fetch 49 = .ok (.imul, 1) := by decide +kernel
theorem dX12_fetch_50 : decode cX12_fetch 50 = .ok (.istore 5, 2) := by decide +kernel
theorem dX12_fetch_52 : decode cX12_fetch 52 = .ok (.iinc 6 1, 3) := by decide +kernel
theorem dX12_fetch_55 : decode cX12_fetch 55 = .ok (.goto (-20), 3) := by decide +kernel
theorem dX12_fetch_58 : decode cX12_fetch 58 = .ok (.iload_n 1, 1) := by decide +kernel
theorem dX12_fetch_59 : decode cX12_fetch 59 = .ok (.iload 5, 2) := by decide +kernel
theorem dX12_fetch_61 : decode cX12_fetch 61 = .ok (.idiv, 1) := by decide +kernel
theorem dX12_fetch_62 : decode cX12_fetch 62 = .ok (.iload 4, 2) := by decide +kernel
theorem dX12_fetch_64 : decode cX12_fetch 64 = .ok (.irem, 1) := by decide +kernel
theorem dX12_fetch_65 : decode cX12_fetch 65 = .ok (.istore 6, 2) := by decide +kernel
theorem dX12_fetch_67 : decode cX12_fetch 67 = .ok (.aload_n 0, 1) := by decide +kernel
theorem dX12_fetch_68 : decode cX12_fetch 68 = .ok (.aload_n 0, 1) := by decide +kernel
theorem dX12_fetch_69 : decode cX12_fetch 69 = .ok (.iload_n 2, 1) := by decide +kernel
theorem dX12_fetch_70 : decode cX12_fetch 70 = .ok (.invokevirtual 131, 3) := by decide +kernel
theorem dX12_fetch_73 : decode cX12_fetch 73 = .ok (.invokevirtual 134, 3) := by decide +kernel
theorem dX12_fetch_76 : decode cX12_fetch 76 = .ok (.istore 7, 2) := by decide +kernel
theorem dX12_fetch_78 : decode cX12_fetch 78 = .ok (.iload_n 2, 1) := by decide +kernel
theorem dX12_fetch_79 : decode cX12_fetch 79 = .ok (.aload_n 0, 1) := by decide +kernel
theorem dX12_fetch_80 : decode cX12_fetch 80 = .ok (.getfield 7, 3) := by decide +kernel
theorem dX12_fetch_83 : decode cX12_fetch 83 = .ok (.iconst 0, 1) := by decide +kernel
theorem dX12_fetch_84 : decode cX12_fetch 84 = .ok (.iaload, 1) := by decide +kernel
theorem dX12_fetch_85 : decode cX12_fetch 85 = .ok (.idiv, 1) := by decide +kernel
theorem dX12_fetch_86 : decode cX12_fetch 86 = .ok (.istore 8, 2) := by decide +kernel
theorem dX12_fetch_88 : decode cX12_fetch 88 = .ok (.aload_n 0, 1) := by decide +kernel
theorem dX12_fetch_89 : decode cX12_fetch 89 = .ok (.iload_n 3, 1) := by decide +kernel
theorem dX12_fetch_90 : decode cX12_fetch 90 = .ok (.iload 6, 2) := by decide +kernel
theorem dX12_fetch_92 : decode cX12_fetch 92 = .ok (.invokevirtual 120, 3) := by decide +kernel
theorem dX12_fetch_95 : decode cX12_fetch 95 = .ok (.istore 9, 2) := by decide +kernel
theorem dX12_fetch_97 : decode cX12_fetch 97 = .ok (.aload_n 0, 1) := by decide +kernel
theorem dX12_fetch_98 : decode cX12_fetch 98 = .ok (.iload_n 3, 1) := by decide +kernel
theorem dX12_fetch_99 : decode cX12_fetch 99 = .ok (.iload 6, 2) := by decide +kernel
theorem dX12_fetch_101 : decode cX12_fetch 101 = .ok (.invokevirtual 137, 3) := by decide +kernel
theorem dX12_fetch_104 : decode cX12_fetch 104 = .ok (.istore 10, 2) := by decide +kernel
theorem dX12_fetch_106 : decode cX12_fetch 106 = .ok (.aload_n 0, 1) := by decide +kernel
theorem dX12_fetch_107 : decode cX12_fetch 107 = .ok (.iload 9, 2) := by decide +kernel
theorem dX12_fetch_109 : decode cX12_fetch 109 = .ok (.iload 8, 2) := by decide +kernel
theorem dX12_fetch_111 : decode cX12_fetch 111 = .ok (.if_icmp .eq 10, 3) := by decide +kernel
theorem dX12_fetch_114 : decode cX12_fetch 114 = .ok (.iload 10, 2) := by decide +kernel
theorem dX12_fetch_116 : decode cX12_fetch 116 = .ok (.iload 8, 2) := by decide +kernel
theorem dX12_fetch_118 : decode cX12_fetch 118 = .ok (.if_icmp .ne 7, 3) := by decide +kernel
theorem dX12_fetch_121 : decode cX12_fetch 121 = .ok (.iconst 1, 1) := by decide +kernel
theorem dX12_fetch_122 : decode cX12_fetch 122 = .ok (.goto 4, 3) := by decide +kernel
theorem dX12_fetch_125 : decode cX12_fetch 125 = .ok (.iconst 0, 1) := by decide +kernel
theorem dX12_fetch_126 : decode cX12_fetch 126 = .ok (.putfield 127, 3) := by decide +kernel
theorem dX12_fetch_129 : decode cX12_fetch 129 = .ok (.iload 6, 2) := by decide +kernel
theorem dX12_fetch_131 : decode cX12_fetch 131 = .ok (.istore 11, 2) := by decide +kernel
theorem dX12_fetch_133 : decode cX12_fetch 133 = .ok (.iload 7, 2) := by decide +kernel
theorem dX12_fetch_135 : decode cX12_fetch 135 = .ok (.iconst 1, 1) := by decide +kernel
theorem dX12_fetch_136 : decode cX12_fetch 136 = .ok (.if_icmp .eq 14, 3) := by decide +kernel
theorem dX12_fetch_139 : decode cX12_fetch 139 = .ok (.iload 7, 2) := by decide +kernel
theorem dX12_fetch_141 : decode cX12_fetch 141 = .ok (.iconst 2, 1) := by decide +kernel
theorem dX12_fetch_142 : decode cX12_fetch 142 = .ok (.if_icmp .ne 17, 3) := by decide +kernel
theorem dX12_fetch_145 : decode cX12_fetch 145 = .ok (.iload 9, 2) := by decide +kernel
theorem dX12_fetch_147 : decode cX12_fetch 147 = .ok (.ifCond .ge 12, 3) := by decide +kernel
theorem dX12_fetch_150 : decode cX12_fetch 150 = .ok (.iconst 1, 1) := by decide +kernel
theorem dX12_fetch_151 : decode cX12_fetch 151 = .ok (.iload 8, 2) := by decide +kernel
theorem dX12_fetch_153 : decode cX12_fetch 153 = .ok (.iadd, 1) := by decide +kernel
theorem dX12_fetch_154 : decode cX12_fetch 154 = .ok (.istore 11, 2) := by decide +kernel
theorem dX12_fetch_156 : decode cX12_fetch 156 = .ok (.goto 26, 3) := by decide +kernel
theorem dX12_fetch_159 : decode cX12_fetch 159 = .ok (.iload 7, 2) := by decide +kernel
theorem dX12_fetch_161 : decode cX12_fetch 161 = .ok (.iconst 2, 1) := by decide +kernel
theorem dX12_fetch_162 : decode cX12_fetch 162 = .ok (.if_icmp .ne 20, 3) := by decide +kernel
theorem dX12_fetch_165 : decode cX12_fetch 165 = .ok (.iload 9, 2) := by decide +kernel
theorem dX12_fetch_167 : decode cX12_fetch 167 = .ok (.iload 8, 2) := by decide +kernel
theorem dX12_fetch_169 : decode cX12_fetch 169 = .ok (.if_icmp .eq 13, 3) := by decide +kernel
theorem dX12_fetch_172 : decode cX12_fetch 172 = .ok (.iload_n 3, 1) := by decide +kernel
theorem dX12_fetch_173 : decode cX12_fetch 173 = .ok (.iload 8, 2) := by decide +kernel
theorem dX12_fetch_175 : decode cX12_fetch 175 = .ok (.iload 9, 2) := by decide +kernel
theorem dX12_fetch_177 : decode cX12_fetch 177 = .ok (.invokestatic 140, 3) := by decide +kernel
theorem dX12_fetch_180 : decode cX12_fetch 180 = .ok (.istore 11, 2) := by decide +kernel
theorem dX12_fetch_182 : decode cX12_fetch 182 = .ok (.iload_n 1, 1) := by decide +kernel
theorem dX12_fetch_183 : decode cX12_fetch 183 = .ok (.iload 11, 2) := by decide +kernel
theorem dX12_fetch_185 : decode cX12_fetch 185 = .ok (.iload 6, 2) := by decide +kernel
theorem dX12_fetch_187 : decode cX12_fetch 187 = .ok (.isub, 1) := by decide +kernel
theorem dX12_fetch_188 : decode cX12_fetch 188 = .ok (.iload 5, 2) := by decide +kernel
theorem dX12_fetch_190 : decode cX12_fetch 190 = .ok (.imul, 1) := by decide +kernel
theorem dX12_fetch_191 : decode cX12_fetch 191 = .ok (.iadd, 1) := by decide +kernel
theorem dX12_fetch_192 : decode cX12_fetch 192 = .ok (.ireturn, 1) := by decide +kernel
theorem dX12_linesIn_0 : decode cX12_linesIn 0 = .ok (.aload_n 0, 1) := by decide +kernel
theorem dX12_linesIn_1 : decode cX12_linesIn 1 = .ok (.invokevirtual 114, 3) := by decide +kernel
theorem dX12_linesIn_4 : decode cX12_linesIn 4 = .ok (.istore_n 2, 1) := by decide +kernel
theorem dX12_linesIn_5 : decode cX12_linesIn 5 = .ok (.aload_n 0, 1) := by decide +kernel
theorem dX12_linesIn_6 : decode cX12_linesIn 6 = .ok (.invokevirtual 117, 3) := by decide +kernel
theorem dX12_linesIn_9 : decode cX12_linesIn 9 = .ok (.istore_n 3, 1) := by decide +kernel
theorem dX12_linesIn_10 : decode cX12_linesIn 10 = .ok (.aload_n 0, 1) := by decide +kernel
theorem dX12_linesIn_11 : decode cX12_linesIn 11 = .ok (.getfield 7, 3) := by decide +kernel
theorem dX12_linesIn_14 : decode cX12_linesIn 14 = .ok (.iconst 3, 1) := by decide +kernel
theorem dX12_linesIn_15 : decode cX12_linesIn 15 = .ok (.iaload, 1) := by decide +kernel
theorem dX12_linesIn_16 : decode cX12_linesIn 16 = .ok (.istore 4, 2) := by decide +kernel
theorem dX12_linesIn_18 : decode cX12_linesIn 18 = .ok (.iload_n 1, 1) := by decide +kernel
theorem dX12_linesIn_19 : decode cX12_linesIn 19 = .ok (.istore 5, 2) := by decide +kernel
theorem dX12_linesIn_21 : decode cX12_linesIn 21 = .ok (.iconst 0, 1) := by decide +kernel
theorem dX12_linesIn_22 : decode cX12_linesIn 22 = .ok (.istore 6, 2) := by decide +kernel
theorem dX12_linesIn_24 : decode cX12_linesIn 24 = .ok (.iload 6, 2) := by decide +kernel
theorem dX12_linesIn_26 : decode cX12_linesIn 26 = .ok (.aload_n 0, 1) := by decide +kernel
theorem dX12_linesIn_27 : decode cX12_linesIn 27 = .ok (.getfield 7, 3) := by decide +kernel
theorem dX12_linesIn_30 : decode cX12_linesIn 30 = .ok (.iconst 0, 1) := by decide +kernel
theorem dX12_linesIn_31 : decode cX12_linesIn 31 = .ok (.iaload, 1) := by decide +kernel
theorem dX12_linesIn_32 : decode cX12_linesIn 32 = .ok (.if_icmp .ge 93, 3) := by decide +kernel
theorem dX12_linesIn_35 : decode cX12_linesIn 35 = .ok (.aload_n 0, 1) := by decide +kernel
theorem dX12_linesIn_36 : decode cX12_linesIn 36 = .ok (.iload_n 2, 1) := by decide +kernel
theorem dX12_linesIn_37 : decode cX12_linesIn 37 = .ok (.iload 5, 2) := by decide +kernel
theorem dX12_linesIn_39 : decode cX12_linesIn 39 = .ok (.iload_n 3, 1) := by decide +kernel
theorem dX12_linesIn_40 : decode cX12_linesIn 40 = .ok (.irem, 1) := by decide +kernel
theorem dX12_linesIn_41 : decode cX12_linesIn 41 = .ok (.invokevirtual 120, 3) := by decide +kernel
theorem dX12_linesIn_44 : decode cX12_linesIn 44 = .ok (.istore 7, 2) := by decide +kernel
theorem dX12_linesIn_46 : decode cX12_linesIn 46 = .ok (.aload_n 0, 1) := by decide +kernel
theorem dX12_linesIn_47 : decode cX12_linesIn 47 = .ok (.iload_n 2, 1) := by decide +kernel
theorem dX12_linesIn_48 : decode cX12_linesIn 48 = .ok (.iload 5, 2) := by decide +kernel
theorem dX12_linesIn_50 : decode cX12_linesIn 50 = .ok (.iload_n 3, 1) := by decide +kernel
theorem dX12_linesIn_51 : decode cX12_linesIn 51 = .ok (.irem, 1) := by decide +kernel
theorem dX12_linesIn_52 : decode cX12_linesIn 52 = .ok (.invokevirtual 137, 3) := by decide +kernel
theorem dX12_linesIn_55 : decode cX12_linesIn 55 = .ok (.istore 8, 2) := by decide +kernel
theorem dX12_linesIn_57 : decode cX12_linesIn 57 = .ok (.iload 4, 2) := by decide +kernel
theorem dX12_linesIn_59 : decode cX12_linesIn 59 = .ok (.iload 7, 2) := by decide +kernel
theorem dX12_linesIn_61 : decode cX12_linesIn 61 = .ok (.ifCond .ge 7, 3) := by decide +kernel
theorem dX12_linesIn_64 : decode cX12_linesIn 64 = .ok (.iconst 0, 1) := by decide +kernel
theorem dX12_linesIn_65 : decode cX12_linesIn 65 = .ok (.goto 17, 3) := by decide +kernel
theorem dX12_linesIn_68 : decode cX12_linesIn 68 = .ok (.iconst 1, 1) := by decide +kernel
theorem dX12_linesIn_69 : decode cX12_linesIn 69 = .ok (.iload 7, 2) := by decide +kernel
theorem dX12_linesIn_71 : decode cX12_linesIn 71 = .ok (.aload_n 0, 1) := by decide +kernel
theorem dX12_linesIn_72 : decode cX12_linesIn 72 = .ok (.getfield 7, 3) := by decide +kernel
theorem dX12_linesIn_75 : decode cX12_linesIn 75 = .ok (.iconst 0, 1) := by decide +kernel
theorem dX12_linesIn_76 : decode cX12_linesIn 76 = .ok (.iaload, 1) := by decide +kernel
theorem dX12_linesIn_77 : decode cX12_linesIn 77 = .ok (.imul, 1) := by decide +kernel
theorem dX12_linesIn_78 : decode cX12_linesIn 78 = .ok (.iload 6, 2) := by decide +kernel
theorem dX12_linesIn_80 : decode cX12_linesIn 80 = .ok (.iadd, 1) := by decide +kernel
theorem dX12_linesIn_81 : decode cX12_linesIn 81 = .ok (.ishl, 1) := by decide +kernel
theorem dX12_linesIn_82 : decode cX12_linesIn 82 = .ok (.ior, 1) := by decide +kernel
theorem dX12_linesIn_83 : decode cX12_linesIn 83 = .ok (.istore 4, 2) := by decide +kernel
theorem dX12_linesIn_85 : decode cX12_linesIn 85 = .ok (.iload 4, 2) := by decide +kernel
theorem dX12_linesIn_87 : decode cX12_linesIn 87 = .ok (.iload 8, 2) := by decide +kernel
theorem dX12_linesIn_89 : decode cX12_linesIn 89 = .ok (.ifCond .ge 7, 3) := by decide +kernel
theorem dX12_linesIn_92 : decode cX12_linesIn 92 = .ok (.iconst 0, 1) := by decide +kernel
theorem dX12_linesIn_93 : decode cX12_linesIn 93 = .ok (.goto 17, 3) := by decide +kernel
theorem dX12_linesIn_96 : decode cX12_linesIn 96 = .ok (.iconst 1, 1) := by decide +kernel
theorem dX12_linesIn_97 : decode cX12_linesIn 97 = .ok (.iload 8, 2) := by decide +kernel
theorem dX12_linesIn_99 : decode cX12_linesIn 99 = .ok (.aload_n 0, 1) := by decide +kernel
theorem dX12_linesIn_100 : decode cX12_linesIn 100 = .ok (.getfield 7, 3) := by decide +kernel
theorem dX12_linesIn_103 : decode cX12_linesIn 103 = .ok (.iconst 0, 1) := by decide +kernel
theorem dX12_linesIn_104 : decode cX12_linesIn 104 = .ok (.iaload, 1) := by decide +kernel
theorem dX12_linesIn_105 : decode cX12_linesIn 105 = .ok (.imul, 1) := by decide +kernel
theorem dX12_linesIn_106 : decode cX12_linesIn 106 = .ok (.iload 6, 2) := by decide +kernel
theorem dX12_linesIn_108 : decode cX12_linesIn 108 = .ok (.iadd, 1) := by decide +kernel
theorem dX12_linesIn_109 : decode cX12_linesIn 109 = .ok (.ishl, 1) := by decide +kernel
theorem dX12_linesIn_110 : decode cX12_linesIn 110 = .ok (.ior, 1) := by decide +kernel
theorem dX12_linesIn_111 : decode cX12_linesIn 111 = .ok (.istore 4, 2) := by decide +kernel
theorem dX12_linesIn_113 : decode cX12_linesIn 113 = .ok (.iload 5, 2) := by decide +kernel
theorem dX12_linesIn_115 : decode cX12_linesIn 115 = .ok (.iload_n 3, 1) := by decide +kernel
theorem dX12_linesIn_116 : decode cX12_linesIn 116 = .ok (.idiv, 1) := by decide +kernel
theorem dX12_linesIn_117 : decode cX12_linesIn 117 = .ok (.istore 5, 2) := by decide +kernel
theorem dX12_linesIn_119 : decode cX12_linesIn 119 = .ok (.iinc 6 1, 3) := by decide +kernel
theorem dX12_linesIn_122 : decode cX12_linesIn 122 = .ok (.goto (-98), 3) := by decide +kernel
theorem dX12_linesIn_125 : decode cX12_linesIn 125 = .ok (.iload 4, 2) := by decide +kernel
theorem dX12_linesIn_127 : decode cX12_linesIn 127 = .ok (.ireturn, 1) := by decide +kernel
theorem dX12_isBetter_0 : decode cX12_isBetter 0 = .ok (.iload_n 2, 1) := by decide +kernel
theorem dX12_isBetter_1 : decode cX12_isBetter 1 = .ok (.ifCond .ge 15, 3) := by decide +kernel
theorem dX12_isBetter_4 : decode cX12_isBetter 4 = .ok (.iload_n 1, 1) := by decide +kernel
theorem dX12_isBetter_5 : decode cX12_isBetter 5 = .ok (.ifCond .lt 7, 3) := by decide +kernel
theorem dX12_isBetter_8 : decode cX12_isBetter 8 = .ok (.iconst 1, 1) := by decide +kernel
theorem dX12_isBetter_9 : decode cX12_isBetter 9 = .ok (.goto 36, 3) := by decide +kernel
theorem dX12_isBetter_12 : decode cX12_isBetter 12 = .ok (.iconst 0, 1) := by decide +kernel
theorem dX12_isBetter_13 : decode cX12_isBetter 13 = .ok (.goto 32, 3) := by decide +kernel
theorem dX12_isBetter_16 : decode cX12_isBetter 16 = .ok (.iload_n 1, 1) := by decide +kernel
theorem dX12_isBetter_17 : decode cX12_isBetter 17 = .ok (.ifCond .lt 27, 3) := by decide +kernel
theorem dX12_isBetter_20 : decode cX12_isBetter 20 = .ok (.aload_n 0, 1) := by decide +kernel
theorem dX12_isBetter_21 : decode cX12_isBetter 21 = .ok (.getfield 144, 3) := by decide +kernel
theorem dX12_isBetter_24 : decode cX12_isBetter 24 = .ok (.ifCond .eq 11, 3) := by decide +kernel
theorem dX12_isBetter_27 : decode cX12_isBetter 27 = .ok (.iload_n 1, 1) := by decide +kernel
theorem dX12_isBetter_28 : decode cX12_isBetter 28 = .ok (.iload_n 2, 1) := by decide +kernel
theorem dX12_isBetter_29 : decode cX12_isBetter 29 = .ok (.if_icmp .le 15, 3) := by decide +kernel
theorem dX12_isBetter_32 : decode cX12_isBetter 32 = .ok (.goto 8, 3) := by decide +kernel
theorem dX12_isBetter_35 : decode cX12_isBetter 35 = .ok (.iload_n 1, 1) := by decide +kernel
theorem dX12_isBetter_36 : decode cX12_isBetter 36 = .ok (.iload_n 2, 1) := by decide +kernel
theorem dX12_isBetter_37 : decode cX12_isBetter 37 = .ok (.if_icmp .ge 7, 3) := by decide +kernel
theorem dX12_isBetter_40 : decode cX12_isBetter 40 = .ok (.iconst 1, 1) := by decide +kernel
theorem dX12_isBetter_41 : decode cX12_isBetter 41 = .ok (.goto 4, 3) := by decide +kernel
theorem dX12_isBetter_44 : decode cX12_isBetter 44 = .ok (.iconst 0, 1) := by decide +kernel
theorem dX12_isBetter_45 : decode cX12_isBetter 45 = .ok (.ireturn, 1) := by decide +kernel
theorem dX12_fetchAll_0 : decode cX12_fetchAll 0 = .ok (.iconst 0, 1) := by decide +kernel
theorem dX12_fetchAll_1 : decode cX12_fetchAll 1 = .ok (.istore_n 2, 1) := by decide +kernel
theorem dX12_fetchAll_2 : decode cX12_fetchAll 2 = .ok (.iload_n 2, 1) := by decide +kernel
theorem dX12_fetchAll_3 : decode cX12_fetchAll 3 = .ok (.aload_n 0, 1) := by decide +kernel
theorem dX12_fetchAll_4 : decode cX12_fetchAll 4 = .ok (.getfield 147, 3) := by decide +kernel
theorem dX12_fetchAll_7 : decode cX12_fetchAll 7 = .ok (.if_icmp .ge 16, 3) := by decide +kernel
theorem dX12_fetchAll_10 : decode cX12_fetchAll 10 = .ok (.aload_n 0, 1) := by decide +kernel
theorem dX12_fetchAll_11 : decode cX12_fetchAll 11 = .ok (.getfield 55, 3) := by decide +kernel
theorem dX12_fetchAll_14 : decode cX12_fetchAll 14 = .ok (.iload_n 2, 1) := by decide +kernel
theorem dX12_fetchAll_15 : decode cX12_fetchAll 15 = .ok (.iconst (-1), 1) := by decide +kernel
theorem dX12_fetchAll_16 : decode cX12_fetchAll 16 = .ok (.iastore, 1) := by decide +kernel
theorem dX12_fetchAll_17 : decode cX12_fetchAll 17 = .ok (.iinc 2 1, 3) := by decide +kernel
theorem dX12_fetchAll_20 : decode cX12_fetchAll 20 = .ok (.goto (-18), 3) := by decide +kernel
theorem dX12_fetchAll_23 : decode cX12_fetchAll 23 = .ok (.iconst 0, 1) := by decide +kernel
theorem dX12_fetchAll_24 : decode cX12_fetchAll 24 = .ok (.istore_n 2, 1) := by decide +kernel
theorem dX12_fetchAll_25 : decode cX12_fetchAll 25 = .ok (.iload_n 2, 1) := by decide +kernel
theorem dX12_fetchAll_26 : decode cX12_fetchAll 26 = .ok (.aload_n 0, 1) := by decide +kernel
theorem dX12_fetchAll_27 : decode cX12_fetchAll 27 = .ok (.getfield 147, 3) := by decide +kernel
theorem dX12_fetchAll_30 : decode cX12_fetchAll 30 = .ok (.if_icmp .ge 83, 3) := by decide +kernel
theorem dX12_fetchAll_33 : decode cX12_fetchAll 33 = .ok (.aload_n 0, 1) := by decide +kernel
theorem dX12_fetchAll_34 : decode cX12_fetchAll 34 = .ok (.getfield 34, 3) := by decide +kernel
theorem dX12_fetchAll_37 : decode cX12_fetchAll 37 = .ok (.iload_n 2, 1) := by decide +kernel
theorem dX12_fetchAll_38 : decode cX12_fetchAll 38 = .ok (.iaload, 1) := by decide +kernel
theorem dX12_fetchAll_39 : decode cX12_fetchAll 39 = .ok (.ifCond .lt 68, 3) := by decide +kernel
theorem dX12_fetchAll_42 : decode cX12_fetchAll 42 = .ok (.aload_n 0, 1) := by decide +kernel
theorem dX12_fetchAll_43 : decode cX12_fetchAll 43 = .ok (.iload_n 2, 1) := by decide +kernel
theorem dX12_fetchAll_44 : decode cX12_fetchAll 44 = .ok (.iload_n 1, 1) := by decide +kernel
theorem dX12_fetchAll_45 : decode cX12_fetchAll 45 = .ok (.invokevirtual 150, 3) := by decide +kernel
theorem dX12_fetchAll_48 : decode cX12_fetchAll 48 = .ok (.istore_n 3, 1) := by decide +kernel
theorem dX12_fetchAll_49 : decode cX12_fetchAll 49 = .ok (.aload_n 0, 1) := by decide +kernel
theorem dX12_fetchAll_50 : decode cX12_fetchAll 50 = .ok (.getfield 34, 3) := by decide +kernel
theorem dX12_fetchAll_53 : decode cX12_fetchAll 53 = .ok (.iload_n 2, 1) := by decide +kernel
theorem dX12_fetchAll_54 : decode cX12_fetchAll 54 = .ok (.iaload, 1) := by decide +kernel
theorem dX12_fetchAll_55 : decode cX12_fetchAll 55 = .ok (.aload_n 0, 1) := by decide +kernel
theorem dX12_fetchAll_56 : decode cX12_fetchAll 56 = .ok (.getfield 127, 3) := by decide +kernel
theorem dX12_fetchAll_59 : decode cX12_fetchAll 59 = .ok (.ifCond .eq 7, 3) := by decide +kernel
theorem dX12_fetchAll_62 : decode cX12_fetchAll 62 = .ok (.iconst 1, 1) := by decide +kernel
theorem dX12_fetchAll_63 : decode cX12_fetchAll 63 = .ok (.goto 9, 3) := by decide +kernel
theorem dX12_fetchAll_66 : decode cX12_fetchAll 66 = .ok (.aload_n 0, 1) := by decide +kernel
theorem dX12_fetchAll_67 : decode cX12_fetchAll 67 = .ok (.getfield 7, 3) := by decide +kernel
theorem dX12_fetchAll_70 : decode cX12_fetchAll 70 = .ok (.iconst 2, 1) := by decide +kernel
theorem dX12_fetchAll_71 : decode cX12_fetchAll 71 = .ok (.iaload, 1) := by decide +kernel
theorem dX12_fetchAll_72 : decode cX12_fetchAll 72 = .ok (.iadd, 1) := by decide +kernel
theorem dX12_fetchAll_73 : decode cX12_fetchAll 73 = .ok (.istore 4, 2) := by decide +kernel
theorem dX12_fetchAll_75 : decode cX12_fetchAll 75 = .ok (.aload_n 0, 1) := by decide +kernel
theorem dX12_fetchAll_76 : decode cX12_fetchAll 76 = .ok (.getfield 55, 3) := by decide +kernel
theorem dX12_fetchAll_79 : decode cX12_fetchAll 79 = .ok (.iload_n 3, 1) := by decide +kernel
theorem dX12_fetchAll_80 : decode cX12_fetchAll 80 = .ok (.aload_n 0, 1) := by decide +kernel
theorem dX12_fetchAll_81 : decode cX12_fetchAll 81 = .ok (.iload 4, 2) := by decide +kernel
theorem dX12_fetchAll_83 : decode cX12_fetchAll 83 = .ok (.aload_n 0, 1) := by decide +kernel
theorem dX12_fetchAll_84 : decode cX12_fetchAll 84 = .ok (.getfield 55, 3) := by decide +kernel
theorem dX12_fetchAll_87 : decode cX12_fetchAll 87 = .ok (.iload_n 3, 1) := by decide +kernel
theorem dX12_fetchAll_88 : decode cX12_fetchAll 88 = .ok (.iaload, 1) := by decide +kernel
theorem dX12_fetchAll_89 : decode cX12_fetchAll 89 = .ok (.invokevirtual 153, 3) := by decide +kernel
theorem dX12_fetchAll_92 : decode cX12_fetchAll 92 = .ok (.ifCond .eq 8, 3) := by decide +kernel
theorem dX12_fetchAll_95 : decode cX12_fetchAll 95 = .ok (.iload 4, 2) := by decide +kernel
theorem dX12_fetchAll_97 : decode cX12_fetchAll 97 = .ok (.goto 9, 3) := by decide +kernel
theorem dX12_fetchAll_100 : decode cX12_fetchAll 100 = .ok (.aload_n 0, 1) := by decide +kernel
theorem dX12_fetchAll_101 : decode cX12_fetchAll 101 = .ok (.getfield 55, 3) := by decide +kernel
theorem dX12_fetchAll_104 : decode cX12_fetchAll 104 = .ok (.iload_n 3, 1) := by decide +kernel
theorem dX12_fetchAll_105 : decode cX12_fetchAll 105 = .ok (.iaload, 1) := by decide +kernel
theorem dX12_fetchAll_106 : decode cX12_fetchAll 106 = .ok (.iastore, 1) := by decide +kernel
theorem dX12_fetchAll_107 : decode cX12_fetchAll 107 = .ok (.iinc 2 1, 3) := by decide +kernel
theorem dX12_fetchAll_110 : decode cX12_fetchAll 110 = .ok (.goto (-85), 3) := by decide +kernel
theorem dX12_fetchAll_113 : decode cX12_fetchAll 113 = .ok (.iconst 0, 1) := by decide +kernel
theorem dX12_fetchAll_114 : decode cX12_fetchAll 114 = .ok (.istore_n 2, 1) := by decide +kernel
theorem dX12_fetchAll_115 : decode cX12_fetchAll 115 = .ok (.iload_n 2, 1) := by decide +kernel
theorem dX12_fetchAll_116 : decode cX12_fetchAll 116 = .ok (.aload_n 0, 1) := by decide +kernel
theorem dX12_fetchAll_117 : decode cX12_fetchAll 117 = .ok (.getfield 147, 3) := by decide +kernel
theorem dX12_fetchAll_120 : decode cX12_fetchAll 120 = .ok (.if_icmp .ge 21, 3) := by decide +kernel
theorem dX12_fetchAll_123 : decode cX12_fetchAll 123 = .ok (.aload_n 0, 1) := by decide +kernel
theorem dX12_fetchAll_124 : decode cX12_fetchAll 124 = .ok (.getfield 34, 3) := by decide +kernel
theorem dX12_fetchAll_127 : decode cX12_fetchAll 127 = .ok (.iload_n 2, 1) := by decide +kernel
theorem dX12_fetchAll_128 : decode cX12_fetchAll 128 = .ok (.aload_n 0, 1) := by decide +kernel
theorem dX12_fetchAll_129 : decode cX12_fetchAll 129 = .ok (.getfield 55, 3) := by decide +kernel
theorem dX12_fetchAll_132 : decode cX12_fetchAll 132 = .ok (.iload_n 2, 1) := by decide +kernel
theorem dX12_fetchAll_133 : decode cX12_fetchAll 133 = .ok (.iaload, 1) := by decide +kernel
theorem dX12_fetchAll_134 : decode cX12_fetchAll 134 = .ok (.iastore, 1) := by decide +kernel
theorem dX12_fetchAll_135 : decode cX12_fetchAll 135 = .ok (.iinc 2 1, 3) := by decide +kernel
theorem dX12_fetchAll_138 : decode cX12_fetchAll 138 = .ok (.goto (-23), 3) := by decide +kernel
theorem dX12_fetchAll_141 : decode cX12_fetchAll 141 = .ok (.return_, 1) := by decide +kernel
theorem dX12_keep_0 : decode cX12_keep 0 = .ok (.iconst 0, 1) := by decide +kernel
theorem dX12_keep_1 : decode cX12_keep 1 = .ok (.istore_n 3, 1) := by decide +kernel
theorem dX12_keep_2 : decode cX12_keep 2 = .ok (.iload_n 3, 1) := by decide +kernel
theorem dX12_keep_3 : decode cX12_keep 3 = .ok (.aload_n 0, 1) := by decide +kernel
theorem dX12_keep_4 : decode cX12_keep 4 = .ok (.getfield 147, 3) := by decide +kernel
theorem dX12_keep_7 : decode cX12_keep 7 = .ok (.if_icmp .ge 24, 3) := by decide +kernel
theorem dX12_keep_10 : decode cX12_keep 10 = .ok (.aload_n 1, 1) := by decide +kernel
theorem dX12_keep_11 : decode cX12_keep 11 = .ok (.sipush 625, 3) := by decide +kernel
theorem dX12_keep_14 : decode cX12_keep 14 = .ok (.iload_n 2, 1) := by decide +kernel
theorem dX12_keep_15 : decode cX12_keep 15 = .ok (.imul, 1) := by decide +kernel
theorem dX12_keep_16 : decode cX12_keep 16 = .ok (.iload_n 3, 1) := by decide +kernel
theorem dX12_keep_17 : decode cX12_keep 17 = .ok (.iadd, 1) := by decide +kernel
theorem dX12_keep_18 : decode cX12_keep 18 = .ok (.aload_n 0, 1) := by decide +kernel
theorem dX12_keep_19 : decode cX12_keep 19 = .ok (.getfield 34, 3) := by decide +kernel
theorem dX12_keep_22 : decode cX12_keep 22 = .ok (.iload_n 3, 1) := by decide +kernel
theorem dX12_keep_23 : decode cX12_keep 23 = .ok (.iaload, 1) := by decide +kernel
theorem dX12_keep_24 : decode cX12_keep 24 = .ok (.iastore, 1) := by decide +kernel
theorem dX12_keep_25 : decode cX12_keep 25 = .ok (.iinc 3 1, 3) := by decide +kernel
theorem dX12_keep_28 : decode cX12_keep 28 = .ok (.goto (-26), 3) := by decide +kernel
theorem dX12_keep_31 : decode cX12_keep 31 = .ok (.return_, 1) := by decide +kernel
theorem dX12_joinFrom_0 : decode cX12_joinFrom 0 = .ok (.iconst 0, 1) := by decide +kernel
theorem dX12_joinFrom_1 : decode cX12_joinFrom 1 = .ok (.istore_n 3, 1) := by decide +kernel
theorem dX12_joinFrom_2 : decode cX12_joinFrom 2 = .ok (.iload_n 3, 1) := by decide +kernel
theorem dX12_joinFrom_3 : decode cX12_joinFrom 3 = .ok (.aload_n 0, 1) := by decide +kernel
theorem dX12_joinFrom_4 : decode cX12_joinFrom 4 = .ok (.getfield 147, 3) := by decide +kernel
theorem dX12_joinFrom_7 : decode cX12_joinFrom 7 = .ok (.if_icmp .ge 52, 3) := by decide +kernel
theorem dX12_joinFrom_10 : decode cX12_joinFrom 10 = .ok (.aload_n 1, 1) := by decide +kernel
theorem dX12_joinFrom_11 : decode cX12_joinFrom 11 = .ok (.sipush 625, 3) := by decide +kernel
theorem dX12_joinFrom_14 : decode cX12_joinFrom 14 = .ok (.iload_n 2, 1) := by decide +kernel
theorem dX12_joinFrom_15 : decode cX12_joinFrom 15 = .ok (.imul, 1) := by decide +kernel
theorem dX12_joinFrom_16 : decode cX12_joinFrom 16 = .ok (.iload_n 3, 1) := by decide +kernel
theorem dX12_joinFrom_17 : decode cX12_joinFrom 17 = .ok (.iadd, 1) := by decide +kernel
theorem dX12_joinFrom_18 : decode cX12_joinFrom 18 = .ok (.iaload, 1) := by decide +kernel
theorem dX12_joinFrom_19 : decode cX12_joinFrom 19 = .ok (.istore 4, 2) := by decide +kernel
theorem dX12_joinFrom_21 : decode cX12_joinFrom 21 = .ok (.aload_n 0, 1) := by decide +kernel
theorem dX12_joinFrom_22 : decode cX12_joinFrom 22 = .ok (.getfield 34, 3) := by decide +kernel
theorem dX12_joinFrom_25 : decode cX12_joinFrom 25 = .ok (.iload_n 3, 1) := by decide +kernel
theorem dX12_joinFrom_26 : decode cX12_joinFrom 26 = .ok (.aload_n 0, 1) := by decide +kernel
theorem dX12_joinFrom_27 : decode cX12_joinFrom 27 = .ok (.iload 4, 2) := by decide +kernel
theorem dX12_joinFrom_29 : decode cX12_joinFrom 29 = .ok (.aload_n 0, 1) := by decide +kernel
theorem dX12_joinFrom_30 : decode cX12_joinFrom 30 = .ok (.getfield 34, 3) := by decide +kernel
theorem dX12_joinFrom_33 : decode cX12_joinFrom 33 = .ok (.iload_n 3, 1) := by decide +kernel
theorem dX12_joinFrom_34 : decode cX12_joinFrom 34 = .ok (.iaload, 1) := by decide +kernel
theorem dX12_joinFrom_35 : decode cX12_joinFrom 35 = .ok (.invokevirtual 153, 3) := by decide +kernel
theorem dX12_joinFrom_38 : decode cX12_joinFrom 38 = .ok (.ifCond .eq 8, 3) := by decide +kernel
theorem dX12_joinFrom_41 : decode cX12_joinFrom 41 = .ok (.iload 4, 2) := by decide +kernel
theorem dX12_joinFrom_43 : decode cX12_joinFrom 43 = .ok (.goto 9, 3) := by decide +kernel
theorem dX12_joinFrom_46 : decode cX12_joinFrom 46 = .ok (.aload_n 0, 1) := by decide +kernel
theorem dX12_joinFrom_47 : decode cX12_joinFrom 47 = .ok (.getfield 34, 3) := by decide +kernel
theorem dX12_joinFrom_50 : decode cX12_joinFrom 50 = .ok (.iload_n 3, 1) := by decide +kernel
theorem dX12_joinFrom_51 : decode cX12_joinFrom 51 = .ok (.iaload, 1) := by decide +kernel
theorem dX12_joinFrom_52 : decode cX12_joinFrom 52 = .ok (.iastore, 1) := by decide +kernel
theorem dX12_joinFrom_53 : decode cX12_joinFrom 53 = .ok (.iinc 3 1, 3) := by decide +kernel
theorem dX12_joinFrom_56 : decode cX12_joinFrom 56 = .ok (.goto (-54), 3) := by decide +kernel
theorem dX12_joinFrom_59 : decode cX12_joinFrom 59 = .ok (.return_, 1) := by decide +kernel
theorem dX12_copyFrom_0 : decode cX12_copyFrom 0 = .ok (.iconst 0, 1) := by decide +kernel
theorem dX12_copyFrom_1 : decode cX12_copyFrom 1 = .ok (.istore_n 3, 1) := by decide +kernel
theorem dX12_copyFrom_2 : decode cX12_copyFrom 2 = .ok (.iload_n 3, 1) := by decide +kernel
theorem dX12_copyFrom_3 : decode cX12_copyFrom 3 = .ok (.aload_n 0, 1) := by decide +kernel
theorem dX12_copyFrom_4 : decode cX12_copyFrom 4 = .ok (.getfield 147, 3) := by decide +kernel
theorem dX12_copyFrom_7 : decode cX12_copyFrom 7 = .ok (.if_icmp .ge 24, 3) := by decide +kernel
theorem dX12_copyFrom_10 : decode cX12_copyFrom 10 = .ok (.aload_n 0, 1) := by decide +kernel
theorem dX12_copyFrom_11 : decode cX12_copyFrom 11 = .ok (.getfield 34, 3) := by decide +kernel
theorem dX12_copyFrom_14 : decode cX12_copyFrom 14 = .ok (.iload_n 3, 1) := by decide +kernel
theorem dX12_copyFrom_15 : decode cX12_copyFrom 15 = .ok (.aload_n 1, 1) := by decide +kernel
theorem dX12_copyFrom_16 : decode cX12_copyFrom 16 = .ok (.sipush 625, 3) := by decide +kernel
theorem dX12_copyFrom_19 : decode cX12_copyFrom 19 = .ok (.iload_n 2, 1) := by decide +kernel
theorem dX12_copyFrom_20 : decode cX12_copyFrom 20 = .ok (.imul, 1) := by decide +kernel
theorem dX12_copyFrom_21 : decode cX12_copyFrom 21 = .ok (.iload_n 3, 1) := by decide +kernel
theorem dX12_copyFrom_22 : decode cX12_copyFrom 22 = .ok (.iadd, 1) := by decide +kernel
theorem dX12_copyFrom_23 : decode cX12_copyFrom 23 = .ok (.iaload, 1) := by decide +kernel
theorem dX12_copyFrom_24 : decode cX12_copyFrom 24 = .ok (.iastore, 1) := by decide +kernel
theorem dX12_copyFrom_25 : decode cX12_copyFrom 25 = .ok (.iinc 3 1, 3) := by decide +kernel
theorem dX12_copyFrom_28 : decode cX12_copyFrom 28 = .ok (.goto (-26), 3) := by decide +kernel
theorem dX12_copyFrom_31 : decode cX12_copyFrom 31 = .ok (.return_, 1) := by decide +kernel
theorem dX12_digit_0 : decode cX12_digit 0 = .ok (.aload_n 0, 1) := by decide +kernel
theorem dX12_digit_1 : decode cX12_digit 1 = .ok (.getfield 156, 3) := by decide +kernel
theorem dX12_digit_4 : decode cX12_digit 4 = .ok (.aload_n 0, 1) := by decide +kernel
theorem dX12_digit_5 : decode cX12_digit 5 = .ok (.getfield 159, 3) := by decide +kernel
theorem dX12_digit_8 : decode cX12_digit 8 = .ok (.if_icmp .ge 25, 3) := by decide +kernel
theorem dX12_digit_11 : decode cX12_digit 11 = .ok (.aload_n 0, 1) := by decide +kernel
theorem dX12_digit_12 : decode cX12_digit 12 = .ok (.dup, 1) := by decide +kernel
theorem dX12_digit_13 : decode cX12_digit 13 = .ok (.getfield 156, 3) := by decide +kernel
theorem dX12_digit_16 : decode cX12_digit 16 = .ok (.iconst 1, 1) := by decide +kernel
theorem dX12_digit_17 : decode cX12_digit 17 = .ok (.iadd, 1) := by decide +kernel
theorem dX12_digit_18 : decode cX12_digit 18 = .ok (.putfield 156, 3) := by decide +kernel
theorem dX12_digit_21 : decode cX12_digit 21 = .ok (.aload_n 0, 1) := by decide +kernel
theorem dX12_digit_22 : decode cX12_digit 22 = .ok (.getfield 52, 3) := by decide +kernel
theorem dX12_digit_25 : decode cX12_digit 25 = .ok (.aload_n 0, 1) := by decide +kernel
theorem dX12_digit_26 : decode cX12_digit 26 = .ok (.getfield 156, 3) := by decide +kernel
theorem dX12_digit_29 : decode cX12_digit 29 = .ok (.iconst 1, 1) := by decide +kernel
theorem dX12_digit_30 : decode cX12_digit 30 = .ok (.isub, 1) := by decide +kernel
theorem dX12_digit_31 : decode cX12_digit 31 = .ok (.iaload, 1) := by decide +kernel
theorem dX12_digit_32 : decode cX12_digit 32 = .ok (.ireturn, 1) := by decide +kernel
theorem dX12_digit_33 : decode cX12_digit 33 = .ok (.aload_n 0, 1) := by decide +kernel
theorem dX12_digit_34 : decode cX12_digit 34 = .ok (.aload_n 0, 1) := by decide +kernel
theorem dX12_digit_35 : decode cX12_digit 35 = .ok (.getfield 162, 3) := by decide +kernel
theorem dX12_digit_38 : decode cX12_digit 38 = .ok (.ifCond .ge 7, 3) := by decide +kernel
theorem dX12_digit_41 : decode cX12_digit 41 = .ok (.iload_n 1, 1) := by decide +kernel
theorem dX12_digit_42 : decode cX12_digit 42 = .ok (.goto 7, 3) := by decide +kernel
theorem dX12_digit_45 : decode cX12_digit 45 = .ok (.aload_n 0, 1) := by decide +kernel
theorem dX12_digit_46 : decode cX12_digit 46 = .ok (.getfield 162, 3) := by decide +kernel
theorem dX12_digit_49 : decode cX12_digit 49 = .ok (.putfield 162, 3) := by decide +kernel
theorem dX12_digit_52 : decode cX12_digit 52 = .ok (.bipush (-6), 2) := by decide +kernel
theorem dX12_digit_54 : decode cX12_digit 54 = .ok (.ireturn, 1) := by decide +kernel
theorem dX12_pile_0 : decode cX12_pile 0 = .ok (.aload_n 0, 1) := by decide +kernel
theorem dX12_pile_1 : decode cX12_pile 1 = .ok (.getfield 37, 3) := by decide +kernel
theorem dX12_pile_4 : decode cX12_pile 4 = .ok (.aload_n 0, 1) := by decide +kernel
theorem dX12_pile_5 : decode cX12_pile 5 = .ok (.getfield 165, 3) := by decide +kernel
theorem dX12_pile_8 : decode cX12_pile 8 = .ok (.iload_n 1, 1) := by decide +kernel
theorem dX12_pile_9 : decode cX12_pile 9 = .ok (.iastore, 1) := by decide +kernel
theorem dX12_pile_10 : decode cX12_pile 10 = .ok (.aload_n 0, 1) := by decide +kernel
theorem dX12_pile_11 : decode cX12_pile 11 = .ok (.getfield 40, 3) := by decide +kernel
theorem dX12_pile_14 : decode cX12_pile 14 = .ok (.aload_n 0, 1) := by decide +kernel
theorem dX12_pile_15 : decode cX12_pile 15 = .ok (.getfield 165, 3) := by decide +kernel
theorem dX12_pile_18 : decode cX12_pile 18 = .ok (.iload_n 2, 1) := by decide +kernel
theorem dX12_pile_19 : decode cX12_pile 19 = .ok (.iastore, 1) := by decide +kernel
theorem dX12_pile_20 : decode cX12_pile 20 = .ok (.aload_n 0, 1) := by decide +kernel
theorem dX12_pile_21 : decode cX12_pile 21 = .ok (.getfield 43, 3) := by decide +kernel
theorem dX12_pile_24 : decode cX12_pile 24 = .ok (.aload_n 0, 1) := by decide +kernel
theorem dX12_pile_25 : decode cX12_pile 25 = .ok (.getfield 165, 3) := by decide +kernel
theorem dX12_pile_28 : decode cX12_pile 28 = .ok (.iload_n 3, 1) := by decide +kernel
theorem dX12_pile_29 : decode cX12_pile 29 = .ok (.iastore, 1) := by decide +kernel
theorem dX12_pile_30 : decode cX12_pile 30 = .ok (.aload_n 0, 1) := by decide +kernel
theorem dX12_pile_31 : decode cX12_pile 31 = .ok (.dup, 1) := by decide +kernel
theorem dX12_pile_32 : decode cX12_pile 32 = .ok (.getfield 165, 3) := by decide +kernel
theorem dX12_pile_35 : decode cX12_pile 35 = .ok (.iconst 1, 1) := by decide +kernel
theorem dX12_pile_36 : decode cX12_pile 36 = .ok (.iadd, 1) := by decide +kernel
theorem dX12_pile_37 : decode cX12_pile 37 = .ok (.putfield 165, 3) := by decide +kernel
theorem dX12_pile_40 : decode cX12_pile 40 = .ok (.return_, 1) := by decide +kernel
theorem dX12_begin_0 : decode cX12_begin 0 = .ok (.aload_n 0, 1) := by decide +kernel
theorem dX12_begin_1 : decode cX12_begin 1 = .ok (.getfield 168, 3) := by decide +kernel
theorem dX12_begin_4 : decode cX12_begin 4 = .ok (.istore_n 1, 1) := by decide +kernel
theorem dX12_begin_5 : decode cX12_begin 5 = .ok (.aload_n 0, 1) := by decide +kernel
theorem dX12_begin_6 : decode cX12_begin 6 = .ok (.getfield 19, 3) := by decide +kernel
theorem dX12_begin_9 : decode cX12_begin 9 = .ok (.iload_n 1, 1) := by decide +kernel
theorem dX12_begin_10 : decode cX12_begin 10 = .ok (.iaload, 1) := by decide +kernel
theorem dX12_begin_11 : decode cX12_begin 11 = .ok (.istore_n 2, 1) := by decide +kernel
theorem dX12_begin_12 : decode cX12_begin 12 = .ok (.aload_n 0, 1) := by decide +kernel
theorem dX12_begin_13 : decode cX12_begin 13 = .ok (.bipush (-6), 2) := by decide +kernel
theorem dX12_begin_15 : decode cX12_begin 15 = .ok (.putfield 168, 3) := by decide +kernel
theorem dX12_begin_18 : decode cX12_begin 18 = .ok (.iload_n 2, 1) := by decide +kernel
theorem dX12_begin_19 : decode cX12_begin 19 = .ok (.bipush 48, 2) := by decide +kernel
theorem dX12_begin_21 : decode cX12_begin 21 = .ok (.bipush 55, 2) := by decide +kernel
theorem dX12_begin_23 : decode cX12_begin 23 = .ok (.invokestatic 80, 3) := by decide +kernel
theorem dX12_begin_26 : decode cX12_begin 26 = .ok (.ifCond .eq 14, 3) := by decide +kernel
theorem dX12_begin_29 : decode cX12_begin 29 = .ok (.aload_n 0, 1) := by decide +kernel
theorem dX12_begin_30 : decode cX12_begin 30 = .ok (.iload_n 2, 1) := by decide +kernel
theorem dX12_begin_31 : decode cX12_begin 31 = .ok (.bipush 48, 2) := by decide +kernel
theorem dX12_begin_33 : decode cX12_begin 33 = .ok (.isub, 1) := by decide +kernel
theorem dX12_begin_34 : decode cX12_begin 34 = .ok (.invokevirtual 171, 3) := by decide +kernel
theorem dX12_begin_37 : decode cX12_begin 37 = .ok (.goto 179, 3) := by decide +kernel
theorem dX12_begin_40 : decode cX12_begin 40 = .ok (.iload_n 2, 1) := by decide +kernel
theorem dX12_begin_41 : decode cX12_begin 41 = .ok (.bipush 59, 2) := by decide +kernel
theorem dX12_begin_43 : decode cX12_begin 43 = .ok (.if_icmp .ne 20, 3) := by decide +kernel
theorem dX12_begin_46 : decode cX12_begin 46 = .ok (.aload_n 0, 1) := by decide +kernel
theorem dX12_begin_47 : decode cX12_begin 47 = .ok (.iload_n 1, 1) := by decide +kernel
theorem dX12_begin_48 : decode cX12_begin 48 = .ok (.iconst 0, 1) := by decide +kernel
theorem dX12_begin_49 : decode cX12_begin 49 = .ok (.iconst 0, 1) := by decide +kernel
theorem dX12_begin_50 : decode cX12_begin 50 = .ok (.invokevirtual 174, 3) := by decide +kernel
theorem dX12_begin_53 : decode cX12_begin 53 = .ok (.aload_n 0, 1) := by decide +kernel
theorem dX12_begin_54 : decode cX12_begin 54 = .ok (.iload_n 1, 1) := by decide +kernel
theorem dX12_begin_55 : decode cX12_begin 55 = .ok (.iconst 1, 1) := by decide +kernel
theorem dX12_begin_56 : decode cX12_begin 56 = .ok (.iadd, 1) := by decide +kernel
theorem dX12_begin_57 : decode cX12_begin 57 = .ok (.putfield 168, 3) := by decide +kernel
theorem dX12_begin_60 : decode cX12_begin 60 = .ok (.goto 156, 3) := by decide +kernel
theorem dX12_begin_63 : decode cX12_begin 63 = .ok (.iload_n 2, 1) := by decide +kernel
theorem dX12_begin_64 : decode cX12_begin 64 = .ok (.bipush 63, 2) := by decide +kernel
theorem dX12_begin_66 : decode cX12_begin 66 = .ok (.if_icmp .ne 72, 3) := by decide +kernel
theorem dX12_begin_69 : decode cX12_begin 69 = .ok (.aload_n 0, 1) := by decide +kernel
theorem dX12_begin_70 : decode cX12_begin 70 = .ok (.iconst 2, 1) := by decide +kernel
theorem dX12_begin_71 : decode cX12_begin 71 = .ok (.invokevirtual 178, 3) := by decide +kernel
theorem dX12_begin_74 : decode cX12_begin 74 = .ok (.istore_n 3, 1) := by decide +kernel
theorem dX12_begin_75 : decode cX12_begin 75 = .ok (.aload_n 0, 1) := by decide +kernel
theorem dX12_begin_76 : decode cX12_begin 76 = .ok (.iload_n 1, 1) := by decide +kernel
theorem dX12_begin_77 : decode cX12_begin 77 = .ok (.iload_n 3, 1) := by decide +kernel
theorem dX12_begin_78 : decode cX12_begin 78 = .ok (.ifCond .ge 7, 3) := by decide +kernel
theorem dX12_begin_81 : decode cX12_begin 81 = .ok (.iconst 0, 1) := by decide +kernel
theorem dX12_begin_82 : decode cX12_begin 82 = .ok (.goto 4, 3) := by decide +kernel
theorem dX12_begin_85 : decode cX12_begin 85 = .ok (.iconst 5, 1) := by decide +kernel
theorem dX12_begin_86 : decode cX12_begin 86 = .ok (.iconst 0, 1) := by decide +kernel
theorem dX12_begin_87 : decode cX12_begin 87 = .ok (.invokevirtual 174, 3) := by decide +kernel
theorem dX12_begin_90 : decode cX12_begin 90 = .ok (.iload_n 3, 1) := by decide +kernel
theorem dX12_begin_91 : decode cX12_begin 91 = .ok (.ifCond .ge 17, 3) := by decide +kernel
theorem dX12_begin_94 : decode cX12_begin 94 = .ok (.aload_n 0, 1) := by decide +kernel
theorem dX12_begin_95 : decode cX12_begin 95 = .ok (.aload_n 0, 1) := by decide +kernel
theorem dX12_begin_96 : decode cX12_begin 96 = .ok (.getfield 46, 3) := by decide +kernel
theorem dX12_begin_99 : decode cX12_begin 99 = .ok (.aload_n 0, 1) := by decide +kernel
theorem dX12_begin_100 : decode cX12_begin 100 = .ok (.getfield 165, 3) := by decide +kernel
theorem dX12_begin_103 : decode cX12_begin 103 = .ok (.iconst 1, 1) := by decide +kernel
theorem dX12_begin_104 : decode cX12_begin 104 = .ok (.isub, 1) := by decide +kernel
theorem dX12_begin_105 : decode cX12_begin 105 = .ok (.invokevirtual 181, 3) := by decide +kernel
theorem dX12_begin_108 : decode cX12_begin 108 = .ok (.aload_n 0, 1) := by decide +kernel
theorem dX12_begin_109 : decode cX12_begin 109 = .ok (.iload_n 3, 1) := by decide +kernel
theorem dX12_begin_110 : decode cX12_begin 110 = .ok (.iconst 1, 1) := by decide +kernel
theorem dX12_begin_111 : decode cX12_begin 111 = .ok (.if_icmp .ne 18, 3) := by decide +kernel
theorem dX12_begin_114 : decode cX12_begin 114 = .ok (.iload_n 1, 1) := by decide +kernel
theorem dX12_begin_115 : decode cX12_begin 115 = .ok (.iconst 1, 1) := by decide +kernel
theorem dX12_begin_116 : decode cX12_begin 116 = .ok (.iadd, 1) := by decide +kernel
theorem dX12_begin_117 : decode cX12_begin 117 = .ok (.aload_n 0, 1) := by decide +kernel
theorem dX12_begin_118 : decode cX12_begin 118 = .ok (.getfield 22, 3) := by decide +kernel
theorem dX12_begin_121 : decode cX12_begin 121 = .ok (.iload_n 1, 1) := by decide +kernel
theorem dX12_begin_122 : decode cX12_begin 122 = .ok (.iconst 1, 1) := by decide +kernel
theorem dX12_begin_123 : decode cX12_begin 123 = .ok (.iadd, 1) := by decide +kernel
theorem dX12_begin_124 : decode cX12_begin 124 = .ok (.iaload, 1) := by decide +kernel
theorem dX12_begin_125 : decode cX12_begin 125 = .ok (.iadd, 1) := by decide +kernel
theorem dX12_begin_126 : decode cX12_begin 126 = .ok (.goto 6, 3) := by decide +kernel
theorem dX12_begin_129 : decode cX12_begin 129 = .ok (.iload_n 1, 1) := by decide +kernel
theorem dX12_begin_130 : decode cX12_begin 130 = .ok (.iconst 1, 1) := by decide +kernel
theorem dX12_begin_131 : decode cX12_begin 131 = .ok (.iadd, 1) := by decide +kernel
theorem dX12_begin_132 : decode cX12_begin 132 = .ok (.putfield 168, 3) := by decide +kernel
theorem dX12_begin_135 : decode cX12_begin 135 = .ok (.goto 81, 3) := by decide +kernel
theorem dX12_begin_138 : decode cX12_begin 138 = .ok (.iload_n 2, 1) := by decide +kernel
theorem dX12_begin_139 : decode cX12_begin 139 = .ok (.invokestatic 91, 3) := by decide +kernel
theorem dX12_begin_142 : decode cX12_begin 142 = .ok (.ifCond .eq 74, 3) := by decide +kernel
theorem dX12_begin_145 : decode cX12_begin 145 = .ok (.iload_n 2, 1) := by decide +kernel
theorem dX12_begin_146 : decode cX12_begin 146 = .ok (.invokestatic 185, 3) := by decide +kernel
theorem dX12_begin_149 : decode cX12_begin 149 = .ok (.istore_n 3, 1) := by decide +kernel
theorem dX12_begin_150 : decode cX12_begin 150 = .ok (.aload_n 0, 1) := by decide +kernel
theorem dX12_begin_151 : decode cX12_begin 151 = .ok (.iload_n 3, 1) := by decide +kernel
theorem dX12_begin_152 : decode cX12_begin 152 = .ok (.iconst 1, 1) := by decide +kernel
theorem dX12_begin_153 : decode cX12_begin 153 = .ok (.iadd, 1) := by decide +kernel
theorem dX12_begin_154 : decode cX12_begin 154 = .ok (.invokevirtual 178, 3) := by decide +kernel
theorem dX12_begin_157 : decode cX12_begin 157 = .ok (.istore 4, 2) := by decide +kernel
theorem dX12_begin_159 : decode cX12_begin 159 = .ok (.iload 4, 2) := by decide +kernel
theorem dX12_begin_161 : decode cX12_begin 161 = .ok (.ifCond .eq 55, 3) := by decide +kernel
theorem dX12_begin_164 : decode cX12_begin 164 = .ok (.aload_n 0, 1) := by decide +kernel
theorem dX12_begin_165 : decode cX12_begin 165 = .ok (.iload_n 1, 1) := by decide +kernel
theorem dX12_begin_166 : decode cX12_begin 166 = .ok (.iload 4, 2) := by decide +kernel
theorem dX12_begin_168 : decode cX12_begin 168 = .ok (.ifCond .ge 7, 3) := by decide +kernel
theorem dX12_begin_171 : decode cX12_begin 171 = .ok (.iconst 0, 1) := by decide +kernel
theorem dX12_begin_172 : decode cX12_begin 172 = .ok (.goto 4, 3) := by decide +kernel
theorem dX12_begin_175 : decode cX12_begin 175 = .ok (.iconst 5, 1) := by decide +kernel
theorem dX12_begin_176 : decode cX12_begin 176 = .ok (.iload 4, 2) := by decide +kernel
theorem dX12_begin_178 : decode cX12_begin 178 = .ok (.ifCond .ge 7, 3) := by decide +kernel
theorem dX12_begin_181 : decode cX12_begin 181 = .ok (.iload_n 3, 1) := by decide +kernel
theorem dX12_begin_182 : decode cX12_begin 182 = .ok (.goto 5, 3) := by decide +kernel
theorem dX12_begin_185 : decode cX12_begin 185 = .ok (.iload 4, 2) := by decide +kernel
theorem dX12_begin_187 : decode cX12_begin 187 = .ok (.invokevirtual 174, 3) := by decide +kernel
theorem dX12_begin_190 : decode cX12_begin 190 = .ok (.iload 4, 2) := by decide +kernel
theorem dX12_begin_192 : decode cX12_begin 192 = .ok (.ifCond .ge 17, 3) := by decide +kernel
theorem dX12_begin_195 : decode cX12_begin 195 = .ok (.aload_n 0, 1) := by decide +kernel
theorem dX12_begin_196 : decode cX12_begin 196 = .ok (.aload_n 0, 1) := by decide +kernel
theorem dX12_begin_197 : decode cX12_begin 197 = .ok (.getfield 46, 3) := by decide +kernel
theorem dX12_begin_200 : decode cX12_begin 200 = .ok (.aload_n 0, 1) := by decide +kernel
theorem dX12_begin_201 : decode cX12_begin 201 = .ok (.getfield 165, 3) := by decide +kernel
theorem dX12_begin_204 : decode cX12_begin 204 = .ok (.iconst 1, 1) := by decide +kernel
theorem dX12_begin_205 : decode cX12_begin 205 = .ok (.isub, 1) := by decide +kernel
theorem dX12_begin_206 : decode cX12_begin 206 = .ok (.invokevirtual 181, 3) := by decide +kernel
theorem dX12_begin_209 : decode cX12_begin 209 = .ok (.aload_n 0, 1) := by decide +kernel
theorem dX12_begin_210 : decode cX12_begin 210 = .ok (.iload_n 1, 1) := by decide +kernel
theorem dX12_begin_211 : decode cX12_begin 211 = .ok (.iconst 1, 1) := by decide +kernel
theorem dX12_begin_212 : decode cX12_begin 212 = .ok (.iadd, 1) := by decide +kernel
theorem dX12_begin_213 : decode cX12_begin 213 = .ok (.putfield 168, 3) := by decide +kernel
theorem dX12_begin_216 : decode cX12_begin 216 = .ok (.return_, 1) := by decide +kernel
theorem dX12_come_0 : decode cX12_come 0 = .ok (.aload_n 0, 1) := by decide +kernel
theorem dX12_come_1 : decode cX12_come 1 = .ok (.getfield 165, 3) := by decide +kernel
theorem dX12_come_4 : decode cX12_come 4 = .ok (.iconst 1, 1) := by decide +kernel
theorem dX12_come_5 : decode cX12_come 5 = .ok (.isub, 1) := by decide +kernel
theorem dX12_come_6 : decode cX12_come 6 = .ok (.istore_n 1, 1) := by decide +kernel
theorem dX12_come_7 : decode cX12_come 7 = .ok (.aload_n 0, 1) := by decide +kernel
theorem dX12_come_8 : decode cX12_come 8 = .ok (.getfield 37, 3) := by decide +kernel
theorem dX12_come_11 : decode cX12_come 11 = .ok (.iload_n 1, 1) := by decide +kernel
theorem dX12_come_12 : decode cX12_come 12 = .ok (.iaload, 1) := by decide +kernel
theorem dX12_come_13 : decode cX12_come 13 = .ok (.istore_n 2, 1) := by decide +kernel
theorem dX12_come_14 : decode cX12_come 14 = .ok (.aload_n 0, 1) := by decide +kernel
theorem dX12_come_15 : decode cX12_come 15 = .ok (.getfield 19, 3) := by decide +kernel
theorem dX12_come_18 : decode cX12_come 18 = .ok (.iload_n 2, 1) := by decide +kernel
theorem dX12_come_19 : decode cX12_come 19 = .ok (.iaload, 1) := by decide +kernel
theorem dX12_come_20 : decode cX12_come 20 = .ok (.istore_n 3, 1) := by decide +kernel
theorem dX12_come_21 : decode cX12_come 21 = .ok (.iload_n 3, 1) := by decide +kernel
theorem dX12_come_22 : decode cX12_come 22 = .ok (.bipush 59, 2) := by decide +kernel
theorem dX12_come_24 : decode cX12_come 24 = .ok (.if_icmp .ne 12, 3) := by decide +kernel
theorem dX12_come_27 : decode cX12_come 27 = .ok (.aload_n 0, 1) := by decide +kernel
theorem dX12_come_28 : decode cX12_come 28 = .ok (.getfield 40, 3) := by decide +kernel
theorem dX12_come_31 : decode cX12_come 31 = .ok (.iload_n 1, 1) := by decide +kernel
theorem dX12_come_32 : decode cX12_come 32 = .ok (.iaload, 1) := by decide +kernel
