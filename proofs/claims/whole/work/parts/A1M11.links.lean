theorem jB_at {w : Cond} (i : Nat) (h : lw_tbl[i]? = some w) (hg : goodWord w = true) : w ∈ jB := List.mem_filter.mpr ⟨List.mem_of_getElem? h, hg⟩
theorem jB_sub (ws : List Cond) (ps : List Nat) (hp : ws = ps.filterMap (fun i => lw_tbl[i]?)) (hg : ws.all goodWord = true) : ∀ w ∈ ws, w ∈ jB := by
  intro w hw
  refine List.mem_filter.mpr ⟨?_, List.all_eq_true.mp hg w hw⟩
  rw [hp] at hw
  obtain ⟨i, -, hi⟩ := List.mem_filterMap.mp hw
  exact List.mem_of_getElem? hi
theorem jr_putW {p : Program} {l : Launch} {e : Env} {R : Room} {s : State} {mi : MethodId} {args : Array Value} {below : List Frame} {meth : Method} {c : Code} {H H0 : Heap} {locs : List Loc} {cells slots : Nat} {Q : State → Prop} {cc : ByteArray} {nL : Nat} {own : String} {rt : Option FieldType} {D : va_G} {cy : Nat → ClassId} {B sz : Nat} {sh : jm_S} {A : Nat → Prop} {m : jm_M} {pc : Nat} {ls : Array Slot} {st : List Value} (C : jCx p s mi args meth c cc nL own rt D cy) (S : jHs D cy B sz sh A H0 H locs m) {a kd n k idx r : Nat} {Cr : String} (hl : jFl own idx kd n k) (hp : jFp kd n k (.object Cr) false) (hf : jfr kd k = true) {m' : jm_M} (hw : jwr sh m a kd n k r = some m') (hdg : decode cc pc = .ok (.putfield idx, 3)) (kk : ∀ (H1 : Heap) (locs1 : List Loc), jHs D cy B sz sh A H0 H1 locs1 m' → W p l e R s mi args below meth c H1 locs1 cells slots Q (F0 mi (pc + 3) ls st)) : W p l e R s mi args below meth c H locs cells slots Q (F0 mi pc ls (jR B r :: jR B a :: st)) := by
  unfold jwr at hw
  split at hw
  · rename_i hc
    exact jr_putR C S hl hp hf hc.2 (by unfold jwf; rw [if_pos hc.1]; exact hw) hdg kk
  · cases hw
theorem inB_X0 : ∀ w ∈ u_ws RX0 TX0 6, w ∈ jB := jB_sub _ [383, 385, 387, 389, 391, 393] (by decide +kernel) (by decide +kernel)
theorem inB_X1 : ∀ w ∈ u_ws RX1 TX1 9, w ∈ jB := jB_sub _ [152, 154, 156, 158, 160, 162, 164, 166, 168] (by decide +kernel) (by decide +kernel)
theorem inB_X2 : ∀ w ∈ u_ws RX2 TX2 5, w ∈ jB := jB_sub _ [408, 410, 412, 414, 416] (by decide +kernel) (by decide +kernel)
theorem inB_X3 : ∀ w ∈ u_ws RX3 TX3 3, w ∈ jB := jB_sub _ [182, 184, 186] (by decide +kernel) (by decide +kernel)
theorem inB_X4 : ∀ w ∈ u_ws RX4 TX4 4, w ∈ jB := jB_sub _ [285, 287, 289, 291] (by decide +kernel) (by decide +kernel)
theorem inB_X5 : ∀ w ∈ u_ws RX5 TX5 10, w ∈ jB := jB_sub _ [348, 350, 352, 354, 356, 358, 360, 362, 364, 366] (by decide +kernel) (by decide +kernel)
theorem inB_X6 : ∀ w ∈ u_ws RX6 TX6 8, w ∈ jB := jB_sub _ [251, 253, 255, 257, 259, 261, 263, 265] (by decide +kernel) (by decide +kernel)
theorem inB_X7 : ∀ w ∈ u_ws RX7 TX7 10, w ∈ jB := jB_sub _ [208, 210, 212, 214, 216, 218, 220, 222, 224, 226] (by decide +kernel) (by decide +kernel)
theorem inB_X8 : ∀ w ∈ u_ws RX8 TX8 10, w ∈ jB := jB_sub _ [308, 310, 312, 314, 316, 318, 320, 322, 324, 326] (by decide +kernel) (by decide +kernel)
theorem inB_X9 : ∀ w ∈ u_ws RX9 TX9 4, w ∈ jB := jB_sub _ [429, 431, 433, 435] (by decide +kernel) (by decide +kernel)
theorem inB_X10 : ∀ w ∈ u_ws RX10 TX10 4, w ∈ jB := jB_sub _ [132, 134, 136, 138] (by decide +kernel) (by decide +kernel)
theorem inB_X11 : ∀ w ∈ u_ws RX11 TX11 10, w ∈ jB := jB_sub _ [448, 450, 452, 454, 456, 458, 460, 462, 464, 466] (by decide +kernel) (by decide +kernel)
theorem inB_X12 : ∀ w ∈ u_ws RX12 TX12 34, w ∈ jB := jB_sub _ [1121, 1123, 1125, 1127, 1129, 1131, 1133, 1135, 1137, 1139, 1141, 1143, 1145, 1147, 1149, 1151, 1153, 1155, 1157, 1159, 1161, 1163, 1165, 1167, 1169, 1171, 1173, 1175, 1177, 1179, 1181, 1183, 1185, 1187] (by decide +kernel) (by decide +kernel)
theorem lf_X0_11 : jFl RX0 11 0 6 2 := ⟨RX0, TX0, rfl, by decide, jB_at 379 (by decide +kernel) rfl, inB_X0⟩
theorem lf_X0_17 : jFl RX0 17 0 6 3 := ⟨RX0, TX0, rfl, by decide, jB_at 380 (by decide +kernel) rfl, inB_X0⟩
theorem lf_X0_20 : jFl RX0 20 0 6 4 := ⟨RX0, TX0, rfl, by decide, jB_at 381 (by decide +kernel) rfl, inB_X0⟩
theorem lf_X0_23 : jFl RX0 23 0 6 5 := ⟨RX0, TX0, rfl, by decide, jB_at 382 (by decide +kernel) rfl, inB_X0⟩
theorem lf_X0_26 : jFl RX0 26 0 6 1 := ⟨RX0, TX0, rfl, by decide, jB_at 378 (by decide +kernel) rfl, inB_X0⟩
theorem lf_X0_36 : jFl RX0 36 0 6 0 := ⟨RX0, TX0, rfl, by decide, jB_at 377 (by decide +kernel) rfl, inB_X0⟩
theorem lf_X1_9 : jFl RX1 9 1 9 2 := ⟨RX1, TX1, rfl, by decide, jB_at 145 (by decide +kernel) rfl, inB_X1⟩
theorem lf_X1_15 : jFl RX1 15 1 9 3 := ⟨RX1, TX1, rfl, by decide, jB_at 146 (by decide +kernel) rfl, inB_X1⟩
theorem lf_X1_18 : jFl RX1 18 1 9 4 := ⟨RX1, TX1, rfl, by decide, jB_at 147 (by decide +kernel) rfl, inB_X1⟩
theorem lf_X1_24 : jFl RX1 24 1 9 5 := ⟨RX1, TX1, rfl, by decide, jB_at 148 (by decide +kernel) rfl, inB_X1⟩
theorem lf_X1_28 : jFl RX1 28 1 9 6 := ⟨RX1, TX1, rfl, by decide, jB_at 149 (by decide +kernel) rfl, inB_X1⟩
theorem lf_X1_31 : jFl RX1 31 1 9 7 := ⟨RX1, TX1, rfl, by decide, jB_at 150 (by decide +kernel) rfl, inB_X1⟩
theorem lf_X1_34 : jFl RX1 34 1 9 8 := ⟨RX1, TX1, rfl, by decide, jB_at 151 (by decide +kernel) rfl, inB_X1⟩
theorem lf_X1_60 : jFl RX1 60 1 9 0 := ⟨RX1, TX1, rfl, by decide, jB_at 143 (by decide +kernel) rfl, inB_X1⟩
theorem lf_X1_71 : jFn RX1 71 10 4 1 := ⟨RX10, "LongestRuns", TX10, rfl, by decide, by decide +kernel, inB_X10⟩
theorem lf_X1_74 : jFl RX1 74 10 4 0 := ⟨RX10, TX10, rfl, by decide, jB_at 127 (by decide +kernel) rfl, inB_X10⟩
theorem lf_X10_9 : jFl RX10 9 10 4 0 := ⟨RX10, TX10, rfl, by decide, jB_at 124 (by decide +kernel) rfl, inB_X10⟩
theorem lf_X10_15 : jFl RX10 15 10 4 1 := ⟨RX10, TX10, rfl, by decide, jB_at 128 (by decide +kernel) rfl, inB_X10⟩
theorem lf_X10_19 : jFl RX10 19 10 4 2 := ⟨RX10, TX10, rfl, by decide, jB_at 130 (by decide +kernel) rfl, inB_X10⟩
theorem lf_X10_22 : jFl RX10 22 10 4 3 := ⟨RX10, TX10, rfl, by decide, jB_at 131 (by decide +kernel) rfl, inB_X10⟩
theorem lf_X11_10 : jFl RX11 10 11 10 0 := ⟨RX11, TX11, rfl, by decide, jB_at 438 (by decide +kernel) rfl, inB_X11⟩
theorem lf_X11_16 : jFl RX11 16 11 10 1 := ⟨RX11, TX11, rfl, by decide, jB_at 439 (by decide +kernel) rfl, inB_X11⟩
theorem lf_X11_19 : jFl RX11 19 11 10 2 := ⟨RX11, TX11, rfl, by decide, jB_at 440 (by decide +kernel) rfl, inB_X11⟩
theorem lf_X11_25 : jFl RX11 25 11 10 3 := ⟨RX11, TX11, rfl, by decide, jB_at 441 (by decide +kernel) rfl, inB_X11⟩
theorem lf_X11_37 : jFl RX11 37 11 10 4 := ⟨RX11, TX11, rfl, by decide, jB_at 442 (by decide +kernel) rfl, inB_X11⟩
theorem lf_X11_44 : jFl RX11 44 11 10 5 := ⟨RX11, TX11, rfl, by decide, jB_at 443 (by decide +kernel) rfl, inB_X11⟩
theorem lf_X11_51 : jFl RX11 51 11 10 6 := ⟨RX11, TX11, rfl, by decide, jB_at 444 (by decide +kernel) rfl, inB_X11⟩
theorem lf_X11_60 : jFl RX11 60 11 10 7 := ⟨RX11, TX11, rfl, by decide, jB_at 445 (by decide +kernel) rfl, inB_X11⟩
theorem lf_X11_69 : jFl RX11 69 11 10 8 := ⟨RX11, TX11, rfl, by decide, jB_at 446 (by decide +kernel) rfl, inB_X11⟩
theorem lf_X11_78 : jFl RX11 78 11 10 9 := ⟨RX11, TX11, rfl, by decide, jB_at 447 (by decide +kernel) rfl, inB_X11⟩
theorem lf_X11_102 : jFl RX11 102 3 3 1 := ⟨RX3, TX3, rfl, by decide, jB_at 180 (by decide +kernel) rfl, inB_X3⟩
theorem lf_X11_117 : jFl RX11 117 3 3 0 := ⟨RX3, TX3, rfl, by decide, jB_at 178 (by decide +kernel) rfl, inB_X3⟩
theorem lf_X11_127 : jFl RX11 127 10 4 0 := ⟨RX10, TX10, rfl, by decide, jB_at 126 (by decide +kernel) rfl, inB_X10⟩
theorem lf_X11_140 : jFl RX11 140 1 9 0 := ⟨RX1, TX1, rfl, by decide, jB_at 142 (by decide +kernel) rfl, inB_X1⟩
theorem lf_X11_147 : jFl RX11 147 6 8 0 := ⟨RX6, TX6, rfl, by decide, jB_at 240 (by decide +kernel) rfl, inB_X6⟩
theorem lf_X11_150 : jFl RX11 150 6 8 1 := ⟨RX6, TX6, rfl, by decide, jB_at 242 (by decide +kernel) rfl, inB_X6⟩
theorem lf_X11_153 : jFl RX11 153 6 8 2 := ⟨RX6, TX6, rfl, by decide, jB_at 244 (by decide +kernel) rfl, inB_X6⟩
theorem lf_X11_156 : jFl RX11 156 6 8 3 := ⟨RX6, TX6, rfl, by decide, jB_at 246 (by decide +kernel) rfl, inB_X6⟩
theorem lf_X11_172 : jFl RX11 172 5 10 0 := ⟨RX5, TX5, rfl, by decide, jB_at 338 (by decide +kernel) rfl, inB_X5⟩
theorem lf_X11_204 : jFl RX11 204 8 10 0 := ⟨RX8, TX8, rfl, by decide, jB_at 297 (by decide +kernel) rfl, inB_X8⟩
theorem lf_X11_207 : jFl RX11 207 8 10 1 := ⟨RX8, TX8, rfl, by decide, jB_at 299 (by decide +kernel) rfl, inB_X8⟩
theorem lf_X11_246 : jFl RX11 246 1 9 1 := ⟨RX1, TX1, rfl, by decide, jB_at 144 (by decide +kernel) rfl, inB_X1⟩
theorem lf_X12_7 : jFl RX12 7 12 34 0 := ⟨RX12, TX12, rfl, by decide, jB_at 1087 (by decide +kernel) rfl, inB_X12⟩
theorem lf_X12_13 : jFl RX12 13 12 34 2 := ⟨RX12, TX12, rfl, by decide, jB_at 1089 (by decide +kernel) rfl, inB_X12⟩
theorem lf_X12_16 : jFl RX12 16 12 34 3 := ⟨RX12, TX12, rfl, by decide, jB_at 1090 (by decide +kernel) rfl, inB_X12⟩
theorem lf_X12_19 : jFl RX12 19 12 34 4 := ⟨RX12, TX12, rfl, by decide, jB_at 1091 (by decide +kernel) rfl, inB_X12⟩
theorem lf_X12_22 : jFl RX12 22 12 34 5 := ⟨RX12, TX12, rfl, by decide, jB_at 1092 (by decide +kernel) rfl, inB_X12⟩
theorem lf_X12_25 : jFl RX12 25 12 34 6 := ⟨RX12, TX12, rfl, by decide, jB_at 1093 (by decide +kernel) rfl, inB_X12⟩
theorem lf_X12_28 : jFl RX12 28 12 34 8 := ⟨RX12, TX12, rfl, by decide, jB_at 1095 (by decide +kernel) rfl, inB_X12⟩
theorem lf_X12_31 : jFl RX12 31 12 34 9 := ⟨RX12, TX12, rfl, by decide, jB_at 1096 (by decide +kernel) rfl, inB_X12⟩
theorem lf_X12_34 : jFl RX12 34 12 34 11 := ⟨RX12, TX12, rfl, by decide, jB_at 1098 (by decide +kernel) rfl, inB_X12⟩
theorem lf_X12_37 : jFl RX12 37 12 34 13 := ⟨RX12, TX12, rfl, by decide, jB_at 1100 (by decide +kernel) rfl, inB_X12⟩
theorem lf_X12_40 : jFl RX12 40 12 34 14 := ⟨RX12, TX12, rfl, by decide, jB_at 1101 (by decide +kernel) rfl, inB_X12⟩
theorem lf_X12_43 : jFl RX12 43 12 34 15 := ⟨RX12, TX12, rfl, by decide, jB_at 1102 (by decide +kernel) rfl, inB_X12⟩
theorem lf_X12_46 : jFl RX12 46 12 34 16 := ⟨RX12, TX12, rfl, by decide, jB_at 1103 (by decide +kernel) rfl, inB_X12⟩
theorem lf_X12_49 : jFl RX12 49 12 34 17 := ⟨RX12, TX12, rfl, by decide, jB_at 1104 (by decide +kernel) rfl, inB_X12⟩
theorem lf_X12_52 : jFl RX12 52 12 34 21 := ⟨RX12, TX12, rfl, by decide, jB_at 1108 (by decide +kernel) rfl, inB_X12⟩
theorem lf_X12_55 : jFl RX12 55 12 34 24 := ⟨RX12, TX12, rfl, by decide, jB_at 1111 (by decide +kernel) rfl, inB_X12⟩
theorem lf_X12_58 : jFl RX12 58 12 34 27 := ⟨RX12, TX12, rfl, by decide, jB_at 1114 (by decide +kernel) rfl, inB_X12⟩
theorem lf_X12_61 : jFl RX12 61 12 34 28 := ⟨RX12, TX12, rfl, by decide, jB_at 1115 (by decide +kernel) rfl, inB_X12⟩
theorem lf_X12_64 : jFl RX12 64 12 34 29 := ⟨RX12, TX12, rfl, by decide, jB_at 1116 (by decide +kernel) rfl, inB_X12⟩
theorem lf_X12_67 : jFl RX12 67 12 34 30 := ⟨RX12, TX12, rfl, by decide, jB_at 1117 (by decide +kernel) rfl, inB_X12⟩
theorem lf_X12_70 : jFl RX12 70 12 34 31 := ⟨RX12, TX12, rfl, by decide, jB_at 1118 (by decide +kernel) rfl, inB_X12⟩
theorem lf_X12_73 : jFl RX12 73 12 34 32 := ⟨RX12, TX12, rfl, by decide, jB_at 1119 (by decide +kernel) rfl, inB_X12⟩
theorem lf_X12_76 : jFl RX12 76 12 34 33 := ⟨RX12, TX12, rfl, by decide, jB_at 1120 (by decide +kernel) rfl, inB_X12⟩
theorem lf_X12_87 : jFl RX12 87 12 34 1 := ⟨RX12, TX12, rfl, by decide, jB_at 1088 (by decide +kernel) rfl, inB_X12⟩
theorem lf_X12_127 : jFl RX12 127 12 34 10 := ⟨RX12, TX12, rfl, by decide, jB_at 1097 (by decide +kernel) rfl, inB_X12⟩
theorem lf_X12_144 : jFl RX12 144 12 34 19 := ⟨RX12, TX12, rfl, by decide, jB_at 1106 (by decide +kernel) rfl, inB_X12⟩
theorem lf_X12_147 : jFl RX12 147 12 34 18 := ⟨RX12, TX12, rfl, by decide, jB_at 1105 (by decide +kernel) rfl, inB_X12⟩
theorem lf_X12_156 : jFl RX12 156 12 34 22 := ⟨RX12, TX12, rfl, by decide, jB_at 1109 (by decide +kernel) rfl, inB_X12⟩
theorem lf_X12_159 : jFl RX12 159 12 34 20 := ⟨RX12, TX12, rfl, by decide, jB_at 1107 (by decide +kernel) rfl, inB_X12⟩
theorem lf_X12_162 : jFl RX12 162 12 34 23 := ⟨RX12, TX12, rfl, by decide, jB_at 1110 (by decide +kernel) rfl, inB_X12⟩
theorem lf_X12_165 : jFl RX12 165 12 34 12 := ⟨RX12, TX12, rfl, by decide, jB_at 1099 (by decide +kernel) rfl, inB_X12⟩
theorem lf_X12_168 : jFl RX12 168 12 34 25 := ⟨RX12, TX12, rfl, by decide, jB_at 1112 (by decide +kernel) rfl, inB_X12⟩
theorem lf_X12_210 : jFl RX12 210 12 34 7 := ⟨RX12, TX12, rfl, by decide, jB_at 1094 (by decide +kernel) rfl, inB_X12⟩
theorem lf_X12_213 : jFl RX12 213 12 34 26 := ⟨RX12, TX12, rfl, by decide, jB_at 1113 (by decide +kernel) rfl, inB_X12⟩
theorem lf_X2_9 : jFl RX2 9 2 5 3 := ⟨RX2, TX2, rfl, by decide, jB_at 406 (by decide +kernel) rfl, inB_X2⟩
theorem lf_X2_15 : jFl RX2 15 2 5 4 := ⟨RX2, TX2, rfl, by decide, jB_at 407 (by decide +kernel) rfl, inB_X2⟩
theorem lf_X2_18 : jFl RX2 18 2 5 1 := ⟨RX2, TX2, rfl, by decide, jB_at 404 (by decide +kernel) rfl, inB_X2⟩
theorem lf_X2_22 : jFl RX2 22 2 5 2 := ⟨RX2, TX2, rfl, by decide, jB_at 405 (by decide +kernel) rfl, inB_X2⟩
theorem lf_X2_32 : jFl RX2 32 2 5 0 := ⟨RX2, TX2, rfl, by decide, jB_at 403 (by decide +kernel) rfl, inB_X2⟩
theorem lf_X2_42 : jFl RX2 42 10 4 0 := ⟨RX10, TX10, rfl, by decide, jB_at 125 (by decide +kernel) rfl, inB_X10⟩
theorem lf_X3_9 : jFl RX3 9 3 3 0 := ⟨RX3, TX3, rfl, by decide, jB_at 177 (by decide +kernel) rfl, inB_X3⟩
theorem lf_X3_15 : jFl RX3 15 3 3 2 := ⟨RX3, TX3, rfl, by decide, jB_at 181 (by decide +kernel) rfl, inB_X3⟩
theorem lf_X3_18 : jFl RX3 18 3 3 1 := ⟨RX3, TX3, rfl, by decide, jB_at 179 (by decide +kernel) rfl, inB_X3⟩
theorem lf_X4_9 : jFl RX4 9 4 4 1 := ⟨RX4, TX4, rfl, by decide, jB_at 282 (by decide +kernel) rfl, inB_X4⟩
theorem lf_X4_15 : jFl RX4 15 4 4 2 := ⟨RX4, TX4, rfl, by decide, jB_at 283 (by decide +kernel) rfl, inB_X4⟩
theorem lf_X4_18 : jFl RX4 18 4 4 3 := ⟨RX4, TX4, rfl, by decide, jB_at 284 (by decide +kernel) rfl, inB_X4⟩
theorem lf_X4_21 : jFl RX4 21 4 4 0 := ⟨RX4, TX4, rfl, by decide, jB_at 280 (by decide +kernel) rfl, inB_X4⟩
theorem lf_X5_9 : jFl RX5 9 5 10 6 := ⟨RX5, TX5, rfl, by decide, jB_at 344 (by decide +kernel) rfl, inB_X5⟩
theorem lf_X5_15 : jFl RX5 15 5 10 7 := ⟨RX5, TX5, rfl, by decide, jB_at 345 (by decide +kernel) rfl, inB_X5⟩
theorem lf_X5_20 : jFl RX5 20 5 10 8 := ⟨RX5, TX5, rfl, by decide, jB_at 346 (by decide +kernel) rfl, inB_X5⟩
theorem lf_X5_23 : jFl RX5 23 5 10 9 := ⟨RX5, TX5, rfl, by decide, jB_at 347 (by decide +kernel) rfl, inB_X5⟩
theorem lf_X5_26 : jFl RX5 26 5 10 4 := ⟨RX5, TX5, rfl, by decide, jB_at 342 (by decide +kernel) rfl, inB_X5⟩
theorem lf_X5_30 : jFl RX5 30 5 10 5 := ⟨RX5, TX5, rfl, by decide, jB_at 343 (by decide +kernel) rfl, inB_X5⟩
theorem lf_X5_40 : jFl RX5 40 5 10 3 := ⟨RX5, TX5, rfl, by decide, jB_at 341 (by decide +kernel) rfl, inB_X5⟩
theorem lf_X5_48 : jFl RX5 48 5 10 2 := ⟨RX5, TX5, rfl, by decide, jB_at 340 (by decide +kernel) rfl, inB_X5⟩
theorem lf_X5_52 : jFl RX5 52 5 10 0 := ⟨RX5, TX5, rfl, by decide, jB_at 337 (by decide +kernel) rfl, inB_X5⟩
theorem lf_X5_55 : jFl RX5 55 5 10 1 := ⟨RX5, TX5, rfl, by decide, jB_at 339 (by decide +kernel) rfl, inB_X5⟩
theorem lf_X5_70 : jFl RX5 70 7 10 0 := ⟨RX7, TX7, rfl, by decide, jB_at 197 (by decide +kernel) rfl, inB_X7⟩
theorem lf_X6_9 : jFl RX6 9 6 8 6 := ⟨RX6, TX6, rfl, by decide, jB_at 249 (by decide +kernel) rfl, inB_X6⟩
theorem lf_X6_15 : jFl RX6 15 6 8 7 := ⟨RX6, TX6, rfl, by decide, jB_at 250 (by decide +kernel) rfl, inB_X6⟩
theorem lf_X6_25 : jFl RX6 25 6 8 5 := ⟨RX6, TX6, rfl, by decide, jB_at 248 (by decide +kernel) rfl, inB_X6⟩
theorem lf_X6_29 : jFl RX6 29 6 8 0 := ⟨RX6, TX6, rfl, by decide, jB_at 239 (by decide +kernel) rfl, inB_X6⟩
theorem lf_X6_33 : jFl RX6 33 6 8 1 := ⟨RX6, TX6, rfl, by decide, jB_at 241 (by decide +kernel) rfl, inB_X6⟩
theorem lf_X6_36 : jFl RX6 36 6 8 2 := ⟨RX6, TX6, rfl, by decide, jB_at 243 (by decide +kernel) rfl, inB_X6⟩
theorem lf_X6_39 : jFl RX6 39 6 8 3 := ⟨RX6, TX6, rfl, by decide, jB_at 245 (by decide +kernel) rfl, inB_X6⟩
theorem lf_X6_42 : jFl RX6 42 6 8 4 := ⟨RX6, TX6, rfl, by decide, jB_at 247 (by decide +kernel) rfl, inB_X6⟩
theorem lf_X7_9 : jFl RX7 9 7 10 3 := ⟨RX7, TX7, rfl, by decide, jB_at 201 (by decide +kernel) rfl, inB_X7⟩
theorem lf_X7_15 : jFl RX7 15 7 10 4 := ⟨RX7, TX7, rfl, by decide, jB_at 202 (by decide +kernel) rfl, inB_X7⟩
theorem lf_X7_18 : jFl RX7 18 7 10 5 := ⟨RX7, TX7, rfl, by decide, jB_at 203 (by decide +kernel) rfl, inB_X7⟩
theorem lf_X7_21 : jFl RX7 21 7 10 6 := ⟨RX7, TX7, rfl, by decide, jB_at 204 (by decide +kernel) rfl, inB_X7⟩
theorem lf_X7_24 : jFl RX7 24 7 10 7 := ⟨RX7, TX7, rfl, by decide, jB_at 205 (by decide +kernel) rfl, inB_X7⟩
theorem lf_X7_27 : jFl RX7 27 7 10 8 := ⟨RX7, TX7, rfl, by decide, jB_at 206 (by decide +kernel) rfl, inB_X7⟩
theorem lf_X7_32 : jFl RX7 32 7 10 9 := ⟨RX7, TX7, rfl, by decide, jB_at 207 (by decide +kernel) rfl, inB_X7⟩
theorem lf_X7_35 : jFl RX7 35 7 10 1 := ⟨RX7, TX7, rfl, by decide, jB_at 199 (by decide +kernel) rfl, inB_X7⟩
theorem lf_X7_39 : jFl RX7 39 7 10 2 := ⟨RX7, TX7, rfl, by decide, jB_at 200 (by decide +kernel) rfl, inB_X7⟩
theorem lf_X7_56 : jFl RX7 56 7 10 0 := ⟨RX7, TX7, rfl, by decide, jB_at 198 (by decide +kernel) rfl, inB_X7⟩
theorem lf_X8_12 : jFl RX8 12 8 10 7 := ⟨RX8, TX8, rfl, by decide, jB_at 305 (by decide +kernel) rfl, inB_X8⟩
theorem lf_X8_18 : jFl RX8 18 8 10 8 := ⟨RX8, TX8, rfl, by decide, jB_at 306 (by decide +kernel) rfl, inB_X8⟩
theorem lf_X8_21 : jFl RX8 21 8 10 9 := ⟨RX8, TX8, rfl, by decide, jB_at 307 (by decide +kernel) rfl, inB_X8⟩
theorem lf_X8_25 : jFl RX8 25 8 10 5 := ⟨RX8, TX8, rfl, by decide, jB_at 303 (by decide +kernel) rfl, inB_X8⟩
theorem lf_X8_29 : jFl RX8 29 8 10 6 := ⟨RX8, TX8, rfl, by decide, jB_at 304 (by decide +kernel) rfl, inB_X8⟩
theorem lf_X8_39 : jFl RX8 39 8 10 4 := ⟨RX8, TX8, rfl, by decide, jB_at 302 (by decide +kernel) rfl, inB_X8⟩
theorem lf_X8_43 : jFl RX8 43 8 10 3 := ⟨RX8, TX8, rfl, by decide, jB_at 301 (by decide +kernel) rfl, inB_X8⟩
theorem lf_X8_47 : jFl RX8 47 8 10 2 := ⟨RX8, TX8, rfl, by decide, jB_at 300 (by decide +kernel) rfl, inB_X8⟩
theorem lf_X8_78 : jFl RX8 78 4 4 0 := ⟨RX4, TX4, rfl, by decide, jB_at 281 (by decide +kernel) rfl, inB_X4⟩
theorem lf_X8_93 : jFl RX8 93 8 10 0 := ⟨RX8, TX8, rfl, by decide, jB_at 296 (by decide +kernel) rfl, inB_X8⟩
theorem lf_X8_100 : jFl RX8 100 8 10 1 := ⟨RX8, TX8, rfl, by decide, jB_at 298 (by decide +kernel) rfl, inB_X8⟩
theorem lf_X9_9 : jFl RX9 9 9 4 3 := ⟨RX9, TX9, rfl, by decide, jB_at 428 (by decide +kernel) rfl, inB_X9⟩
theorem lf_X9_15 : jFl RX9 15 9 4 1 := ⟨RX9, TX9, rfl, by decide, jB_at 426 (by decide +kernel) rfl, inB_X9⟩
theorem lf_X9_19 : jFl RX9 19 9 4 2 := ⟨RX9, TX9, rfl, by decide, jB_at 427 (by decide +kernel) rfl, inB_X9⟩
theorem lf_X9_48 : jFl RX9 48 9 4 0 := ⟨RX9, TX9, rfl, by decide, jB_at 425 (by decide +kernel) rfl, inB_X9⟩
theorem fp_X0_0 : jFp 0 6 0 (.object "LongestRuns$Text") false := fun Cn T h => by
  have h2 : some (RX0, TX0, 6) = some (Cn, T, 6) := h
  cases h2
  exact ⟨rfl, by decide +kernel, ⟨tyX0, tyX0_ok⟩, nmX0⟩
theorem fp_X0_1 : jFp 0 6 1 (.object "LongestRuns$Board") true := fun Cn T h => by
  have h2 : some (RX0, TX0, 6) = some (Cn, T, 6) := h
  cases h2
  exact ⟨rfl, by decide +kernel, ⟨tyX0, tyX0_ok⟩, nmX0⟩
theorem fp_X0_2 : jFp 0 6 2 (.array .int) true := fun Cn T h => by
  have h2 : some (RX0, TX0, 6) = some (Cn, T, 6) := h
  cases h2
  exact ⟨rfl, by decide +kernel, ⟨tyX0, tyX0_ok⟩, nmX0⟩
theorem fp_X0_3 : jFp 0 6 3 (.array (.array .int)) true := fun Cn T h => by
  have h2 : some (RX0, TX0, 6) = some (Cn, T, 6) := h
  cases h2
  exact ⟨rfl, by decide +kernel, ⟨tyX0, tyX0_ok⟩, nmX0⟩
theorem fp_X0_4 : jFp 0 6 4 (.array (.array .int)) true := fun Cn T h => by
  have h2 : some (RX0, TX0, 6) = some (Cn, T, 6) := h
  cases h2
  exact ⟨rfl, by decide +kernel, ⟨tyX0, tyX0_ok⟩, nmX0⟩
theorem fp_X0_5 : jFp 0 6 5 (.array (.array .int)) true := fun Cn T h => by
  have h2 : some (RX0, TX0, 6) = some (Cn, T, 6) := h
  cases h2
  exact ⟨rfl, by decide +kernel, ⟨tyX0, tyX0_ok⟩, nmX0⟩
theorem fp_X1_0 : jFp 1 9 0 .int false := fun Cn T h => by
  have h2 : some (RX1, TX1, 9) = some (Cn, T, 9) := h
  cases h2
  exact ⟨rfl, by decide +kernel, ⟨tyX1, tyX1_ok⟩, nmX1⟩
theorem fp_X1_1 : jFp 1 9 1 .boolean false := fun Cn T h => by
  have h2 : some (RX1, TX1, 9) = some (Cn, T, 9) := h
  cases h2
  exact ⟨rfl, by decide +kernel, ⟨tyX1, tyX1_ok⟩, nmX1⟩
theorem fp_X1_2 : jFp 1 9 2 (.array .int) true := fun Cn T h => by
  have h2 : some (RX1, TX1, 9) = some (Cn, T, 9) := h
  cases h2
  exact ⟨rfl, by decide +kernel, ⟨tyX1, tyX1_ok⟩, nmX1⟩
theorem fp_X1_3 : jFp 1 9 3 (.array .int) true := fun Cn T h => by
  have h2 : some (RX1, TX1, 9) = some (Cn, T, 9) := h
  cases h2
  exact ⟨rfl, by decide +kernel, ⟨tyX1, tyX1_ok⟩, nmX1⟩
theorem fp_X1_4 : jFp 1 9 4 (.array .int) true := fun Cn T h => by
  have h2 : some (RX1, TX1, 9) = some (Cn, T, 9) := h
  cases h2
  exact ⟨rfl, by decide +kernel, ⟨tyX1, tyX1_ok⟩, nmX1⟩
theorem fp_X1_5 : jFp 1 9 5 (.object "LongestRuns$Text") true := fun Cn T h => by
  have h2 : some (RX1, TX1, 9) = some (Cn, T, 9) := h
  cases h2
  exact ⟨rfl, by decide +kernel, ⟨tyX1, tyX1_ok⟩, nmX1⟩
theorem fp_X1_6 : jFp 1 9 6 (.object "LongestRuns$Text") true := fun Cn T h => by
  have h2 : some (RX1, TX1, 9) = some (Cn, T, 9) := h
  cases h2
  exact ⟨rfl, by decide +kernel, ⟨tyX1, tyX1_ok⟩, nmX1⟩
theorem fp_X1_7 : jFp 1 9 7 (.object "LongestRuns$Text") true := fun Cn T h => by
  have h2 : some (RX1, TX1, 9) = some (Cn, T, 9) := h
  cases h2
  exact ⟨rfl, by decide +kernel, ⟨tyX1, tyX1_ok⟩, nmX1⟩
theorem fp_X1_8 : jFp 1 9 8 (.object "LongestRuns$Text") true := fun Cn T h => by
  have h2 : some (RX1, TX1, 9) = some (Cn, T, 9) := h
  cases h2
  exact ⟨rfl, by decide +kernel, ⟨tyX1, tyX1_ok⟩, nmX1⟩
theorem fp_X10_0 : jFp 10 4 0 .int false := fun Cn T h => by
  have h2 : some (RX10, TX10, 4) = some (Cn, T, 4) := h
  cases h2
  exact ⟨rfl, by decide +kernel, ⟨tyX10, tyX10_ok⟩, nmX10⟩
theorem fp_X10_1 : jFp 10 4 1 (.array .int) true := fun Cn T h => by
  have h2 : some (RX10, TX10, 4) = some (Cn, T, 4) := h
  cases h2
  exact ⟨rfl, by decide +kernel, ⟨tyX10, tyX10_ok⟩, nmX10⟩
theorem fp_X10_2 : jFp 10 4 2 (.array .int) true := fun Cn T h => by
  have h2 : some (RX10, TX10, 4) = some (Cn, T, 4) := h
  cases h2
  exact ⟨rfl, by decide +kernel, ⟨tyX10, tyX10_ok⟩, nmX10⟩
theorem fp_X10_3 : jFp 10 4 3 (.array .int) true := fun Cn T h => by
  have h2 : some (RX10, TX10, 4) = some (Cn, T, 4) := h
  cases h2
  exact ⟨rfl, by decide +kernel, ⟨tyX10, tyX10_ok⟩, nmX10⟩
theorem fp_X11_0 : jFp 11 10 0 (.object "LongestRuns$Board") true := fun Cn T h => by
  have h2 : some (RX11, TX11, 10) = some (Cn, T, 10) := h
  cases h2
  exact ⟨rfl, by decide +kernel, ⟨tyX11, tyX11_ok⟩, nmX11⟩
theorem fp_X11_1 : jFp 11 10 1 (.object "LongestRuns$Board") true := fun Cn T h => by
  have h2 : some (RX11, TX11, 10) = some (Cn, T, 10) := h
  cases h2
  exact ⟨rfl, by decide +kernel, ⟨tyX11, tyX11_ok⟩, nmX11⟩
theorem fp_X11_2 : jFp 11 10 2 (.object "LongestRuns$Board") true := fun Cn T h => by
  have h2 : some (RX11, TX11, 10) = some (Cn, T, 10) := h
  cases h2
  exact ⟨rfl, by decide +kernel, ⟨tyX11, tyX11_ok⟩, nmX11⟩
theorem fp_X11_3 : jFp 11 10 3 (.object "LongestRuns$Pad") true := fun Cn T h => by
  have h2 : some (RX11, TX11, 10) = some (Cn, T, 10) := h
  cases h2
  exact ⟨rfl, by decide +kernel, ⟨tyX11, tyX11_ok⟩, nmX11⟩
theorem fp_X11_4 : jFp 11 10 4 (.object "LongestRuns$Runner") true := fun Cn T h => by
  have h2 : some (RX11, TX11, 10) = some (Cn, T, 10) := h
  cases h2
  exact ⟨rfl, by decide +kernel, ⟨tyX11, tyX11_ok⟩, nmX11⟩
theorem fp_X11_5 : jFp 11 10 5 (.object "LongestRuns$Spread") true := fun Cn T h => by
  have h2 : some (RX11, TX11, 10) = some (Cn, T, 10) := h
  cases h2
  exact ⟨rfl, by decide +kernel, ⟨tyX11, tyX11_ok⟩, nmX11⟩
theorem fp_X11_6 : jFp 11 10 6 (.object "LongestRuns$Rows") true := fun Cn T h => by
  have h2 : some (RX11, TX11, 10) = some (Cn, T, 10) := h
  cases h2
  exact ⟨rfl, by decide +kernel, ⟨tyX11, tyX11_ok⟩, nmX11⟩
theorem fp_X11_7 : jFp 11 10 7 (.object "LongestRuns$Ages") true := fun Cn T h => by
  have h2 : some (RX11, TX11, 10) = some (Cn, T, 10) := h
  cases h2
  exact ⟨rfl, by decide +kernel, ⟨tyX11, tyX11_ok⟩, nmX11⟩
theorem fp_X11_8 : jFp 11 10 8 (.object "LongestRuns$Bounds") true := fun Cn T h => by
  have h2 : some (RX11, TX11, 10) = some (Cn, T, 10) := h
  cases h2
  exact ⟨rfl, by decide +kernel, ⟨tyX11, tyX11_ok⟩, nmX11⟩
theorem fp_X11_9 : jFp 11 10 9 (.object "LongestRuns$Tasks") true := fun Cn T h => by
  have h2 : some (RX11, TX11, 10) = some (Cn, T, 10) := h
  cases h2
  exact ⟨rfl, by decide +kernel, ⟨tyX11, tyX11_ok⟩, nmX11⟩
theorem fp_X12_0 : jFp 12 34 0 (.array .int) true := fun Cn T h => by
  have h2 : some (RX12, TX12, 34) = some (Cn, T, 34) := h
  cases h2
  exact ⟨rfl, by decide +kernel, ⟨tyX12, tyX12_ok⟩, nmX12⟩
theorem fp_X12_1 : jFp 12 34 1 .int false := fun Cn T h => by
  have h2 : some (RX12, TX12, 34) = some (Cn, T, 34) := h
  cases h2
  exact ⟨rfl, by decide +kernel, ⟨tyX12, tyX12_ok⟩, nmX12⟩
theorem fp_X12_2 : jFp 12 34 2 (.array .int) true := fun Cn T h => by
  have h2 : some (RX12, TX12, 34) = some (Cn, T, 34) := h
  cases h2
  exact ⟨rfl, by decide +kernel, ⟨tyX12, tyX12_ok⟩, nmX12⟩
theorem fp_X12_3 : jFp 12 34 3 (.array .int) true := fun Cn T h => by
  have h2 : some (RX12, TX12, 34) = some (Cn, T, 34) := h
  cases h2
  exact ⟨rfl, by decide +kernel, ⟨tyX12, tyX12_ok⟩, nmX12⟩
theorem fp_X12_4 : jFp 12 34 4 (.array .int) true := fun Cn T h => by
  have h2 : some (RX12, TX12, 34) = some (Cn, T, 34) := h
  cases h2
  exact ⟨rfl, by decide +kernel, ⟨tyX12, tyX12_ok⟩, nmX12⟩
theorem fp_X12_5 : jFp 12 34 5 (.array .int) true := fun Cn T h => by
  have h2 : some (RX12, TX12, 34) = some (Cn, T, 34) := h
  cases h2
  exact ⟨rfl, by decide +kernel, ⟨tyX12, tyX12_ok⟩, nmX12⟩
theorem fp_X12_6 : jFp 12 34 6 (.array .int) true := fun Cn T h => by
  have h2 : some (RX12, TX12, 34) = some (Cn, T, 34) := h
  cases h2
  exact ⟨rfl, by decide +kernel, ⟨tyX12, tyX12_ok⟩, nmX12⟩
theorem fp_X12_7 : jFp 12 34 7 .int false := fun Cn T h => by
  have h2 : some (RX12, TX12, 34) = some (Cn, T, 34) := h
  cases h2
  exact ⟨rfl, by decide +kernel, ⟨tyX12, tyX12_ok⟩, nmX12⟩
theorem fp_X12_8 : jFp 12 34 8 (.array .int) true := fun Cn T h => by
  have h2 : some (RX12, TX12, 34) = some (Cn, T, 34) := h
  cases h2
  exact ⟨rfl, by decide +kernel, ⟨tyX12, tyX12_ok⟩, nmX12⟩
theorem fp_X12_9 : jFp 12 34 9 (.array .int) true := fun Cn T h => by
  have h2 : some (RX12, TX12, 34) = some (Cn, T, 34) := h
  cases h2
  exact ⟨rfl, by decide +kernel, ⟨tyX12, tyX12_ok⟩, nmX12⟩
theorem fp_X12_10 : jFp 12 34 10 .boolean false := fun Cn T h => by
  have h2 : some (RX12, TX12, 34) = some (Cn, T, 34) := h
  cases h2
  exact ⟨rfl, by decide +kernel, ⟨tyX12, tyX12_ok⟩, nmX12⟩
theorem fp_X12_11 : jFp 12 34 11 (.array .int) true := fun Cn T h => by
  have h2 : some (RX12, TX12, 34) = some (Cn, T, 34) := h
  cases h2
  exact ⟨rfl, by decide +kernel, ⟨tyX12, tyX12_ok⟩, nmX12⟩
theorem fp_X12_12 : jFp 12 34 12 .int false := fun Cn T h => by
  have h2 : some (RX12, TX12, 34) = some (Cn, T, 34) := h
  cases h2
  exact ⟨rfl, by decide +kernel, ⟨tyX12, tyX12_ok⟩, nmX12⟩
theorem fp_X12_13 : jFp 12 34 13 (.array .int) true := fun Cn T h => by
  have h2 : some (RX12, TX12, 34) = some (Cn, T, 34) := h
  cases h2
  exact ⟨rfl, by decide +kernel, ⟨tyX12, tyX12_ok⟩, nmX12⟩
theorem fp_X12_14 : jFp 12 34 14 (.array .int) true := fun Cn T h => by
  have h2 : some (RX12, TX12, 34) = some (Cn, T, 34) := h
  cases h2
  exact ⟨rfl, by decide +kernel, ⟨tyX12, tyX12_ok⟩, nmX12⟩
theorem fp_X12_15 : jFp 12 34 15 (.array .int) true := fun Cn T h => by
  have h2 : some (RX12, TX12, 34) = some (Cn, T, 34) := h
  cases h2
  exact ⟨rfl, by decide +kernel, ⟨tyX12, tyX12_ok⟩, nmX12⟩
theorem fp_X12_16 : jFp 12 34 16 (.array .int) true := fun Cn T h => by
  have h2 : some (RX12, TX12, 34) = some (Cn, T, 34) := h
  cases h2
  exact ⟨rfl, by decide +kernel, ⟨tyX12, tyX12_ok⟩, nmX12⟩
theorem fp_X12_17 : jFp 12 34 17 (.array .int) true := fun Cn T h => by
  have h2 : some (RX12, TX12, 34) = some (Cn, T, 34) := h
  cases h2
  exact ⟨rfl, by decide +kernel, ⟨tyX12, tyX12_ok⟩, nmX12⟩
theorem fp_X12_18 : jFp 12 34 18 .int false := fun Cn T h => by
  have h2 : some (RX12, TX12, 34) = some (Cn, T, 34) := h
  cases h2
  exact ⟨rfl, by decide +kernel, ⟨tyX12, tyX12_ok⟩, nmX12⟩
theorem fp_X12_19 : jFp 12 34 19 .boolean false := fun Cn T h => by
  have h2 : some (RX12, TX12, 34) = some (Cn, T, 34) := h
  cases h2
  exact ⟨rfl, by decide +kernel, ⟨tyX12, tyX12_ok⟩, nmX12⟩
theorem fp_X12_20 : jFp 12 34 20 .int false := fun Cn T h => by
  have h2 : some (RX12, TX12, 34) = some (Cn, T, 34) := h
  cases h2
  exact ⟨rfl, by decide +kernel, ⟨tyX12, tyX12_ok⟩, nmX12⟩
theorem fp_X12_21 : jFp 12 34 21 (.array .int) true := fun Cn T h => by
  have h2 : some (RX12, TX12, 34) = some (Cn, T, 34) := h
  cases h2
  exact ⟨rfl, by decide +kernel, ⟨tyX12, tyX12_ok⟩, nmX12⟩
theorem fp_X12_22 : jFp 12 34 22 .int false := fun Cn T h => by
  have h2 : some (RX12, TX12, 34) = some (Cn, T, 34) := h
  cases h2
  exact ⟨rfl, by decide +kernel, ⟨tyX12, tyX12_ok⟩, nmX12⟩
theorem fp_X12_23 : jFp 12 34 23 .int false := fun Cn T h => by
  have h2 : some (RX12, TX12, 34) = some (Cn, T, 34) := h
  cases h2
  exact ⟨rfl, by decide +kernel, ⟨tyX12, tyX12_ok⟩, nmX12⟩
theorem fp_X12_24 : jFp 12 34 24 (.array .int) true := fun Cn T h => by
  have h2 : some (RX12, TX12, 34) = some (Cn, T, 34) := h
  cases h2
  exact ⟨rfl, by decide +kernel, ⟨tyX12, tyX12_ok⟩, nmX12⟩
theorem fp_X12_25 : jFp 12 34 25 .int false := fun Cn T h => by
  have h2 : some (RX12, TX12, 34) = some (Cn, T, 34) := h
  cases h2
  exact ⟨rfl, by decide +kernel, ⟨tyX12, tyX12_ok⟩, nmX12⟩
theorem fp_X12_26 : jFp 12 34 26 .int false := fun Cn T h => by
  have h2 : some (RX12, TX12, 34) = some (Cn, T, 34) := h
  cases h2
  exact ⟨rfl, by decide +kernel, ⟨tyX12, tyX12_ok⟩, nmX12⟩
theorem fp_X12_27 : jFp 12 34 27 (.array .int) true := fun Cn T h => by
  have h2 : some (RX12, TX12, 34) = some (Cn, T, 34) := h
  cases h2
  exact ⟨rfl, by decide +kernel, ⟨tyX12, tyX12_ok⟩, nmX12⟩
theorem fp_X12_28 : jFp 12 34 28 (.array .int) true := fun Cn T h => by
  have h2 : some (RX12, TX12, 34) = some (Cn, T, 34) := h
  cases h2
  exact ⟨rfl, by decide +kernel, ⟨tyX12, tyX12_ok⟩, nmX12⟩
theorem fp_X12_29 : jFp 12 34 29 (.array .int) true := fun Cn T h => by
  have h2 : some (RX12, TX12, 34) = some (Cn, T, 34) := h
  cases h2
  exact ⟨rfl, by decide +kernel, ⟨tyX12, tyX12_ok⟩, nmX12⟩
theorem fp_X12_30 : jFp 12 34 30 (.array .int) true := fun Cn T h => by
  have h2 : some (RX12, TX12, 34) = some (Cn, T, 34) := h
  cases h2
  exact ⟨rfl, by decide +kernel, ⟨tyX12, tyX12_ok⟩, nmX12⟩
theorem fp_X12_31 : jFp 12 34 31 (.array .int) true := fun Cn T h => by
  have h2 : some (RX12, TX12, 34) = some (Cn, T, 34) := h
  cases h2
  exact ⟨rfl, by decide +kernel, ⟨tyX12, tyX12_ok⟩, nmX12⟩
theorem fp_X12_32 : jFp 12 34 32 (.array .int) true := fun Cn T h => by
  have h2 : some (RX12, TX12, 34) = some (Cn, T, 34) := h
  cases h2
  exact ⟨rfl, by decide +kernel, ⟨tyX12, tyX12_ok⟩, nmX12⟩
theorem fp_X12_33 : jFp 12 34 33 (.array .boolean) true := fun Cn T h => by
  have h2 : some (RX12, TX12, 34) = some (Cn, T, 34) := h
  cases h2
  exact ⟨rfl, by decide +kernel, ⟨tyX12, tyX12_ok⟩, nmX12⟩
theorem fp_X2_0 : jFp 2 5 0 (.object "LongestRuns$Text") false := fun Cn T h => by
  have h2 : some (RX2, TX2, 5) = some (Cn, T, 5) := h
  cases h2
  exact ⟨rfl, by decide +kernel, ⟨tyX2, tyX2_ok⟩, nmX2⟩
theorem fp_X2_1 : jFp 2 5 1 (.object "LongestRuns$Board") true := fun Cn T h => by
  have h2 : some (RX2, TX2, 5) = some (Cn, T, 5) := h
  cases h2
  exact ⟨rfl, by decide +kernel, ⟨tyX2, tyX2_ok⟩, nmX2⟩
theorem fp_X2_2 : jFp 2 5 2 (.object "LongestRuns$Ages") true := fun Cn T h => by
  have h2 : some (RX2, TX2, 5) = some (Cn, T, 5) := h
  cases h2
  exact ⟨rfl, by decide +kernel, ⟨tyX2, tyX2_ok⟩, nmX2⟩
theorem fp_X2_3 : jFp 2 5 3 (.array .int) true := fun Cn T h => by
  have h2 : some (RX2, TX2, 5) = some (Cn, T, 5) := h
  cases h2
  exact ⟨rfl, by decide +kernel, ⟨tyX2, tyX2_ok⟩, nmX2⟩
theorem fp_X2_4 : jFp 2 5 4 (.array .int) true := fun Cn T h => by
  have h2 : some (RX2, TX2, 5) = some (Cn, T, 5) := h
  cases h2
  exact ⟨rfl, by decide +kernel, ⟨tyX2, tyX2_ok⟩, nmX2⟩
theorem fp_X3_0 : jFp 3 3 0 (.array .int) true := fun Cn T h => by
  have h2 : some (RX3, TX3, 3) = some (Cn, T, 3) := h
  cases h2
  exact ⟨rfl, by decide +kernel, ⟨tyX3, tyX3_ok⟩, nmX3⟩
theorem fp_X3_1 : jFp 3 3 1 .int false := fun Cn T h => by
  have h2 : some (RX3, TX3, 3) = some (Cn, T, 3) := h
  cases h2
  exact ⟨rfl, by decide +kernel, ⟨tyX3, tyX3_ok⟩, nmX3⟩
theorem fp_X3_2 : jFp 3 3 2 (.array .int) true := fun Cn T h => by
  have h2 : some (RX3, TX3, 3) = some (Cn, T, 3) := h
  cases h2
  exact ⟨rfl, by decide +kernel, ⟨tyX3, tyX3_ok⟩, nmX3⟩
theorem fp_X4_0 : jFp 4 4 0 .int false := fun Cn T h => by
  have h2 : some (RX4, TX4, 4) = some (Cn, T, 4) := h
  cases h2
  exact ⟨rfl, by decide +kernel, ⟨tyX4, tyX4_ok⟩, nmX4⟩
theorem fp_X4_1 : jFp 4 4 1 (.array .int) true := fun Cn T h => by
  have h2 : some (RX4, TX4, 4) = some (Cn, T, 4) := h
  cases h2
  exact ⟨rfl, by decide +kernel, ⟨tyX4, tyX4_ok⟩, nmX4⟩
theorem fp_X4_2 : jFp 4 4 2 (.array .int) true := fun Cn T h => by
  have h2 : some (RX4, TX4, 4) = some (Cn, T, 4) := h
  cases h2
  exact ⟨rfl, by decide +kernel, ⟨tyX4, tyX4_ok⟩, nmX4⟩
theorem fp_X4_3 : jFp 4 4 3 (.array .int) true := fun Cn T h => by
  have h2 : some (RX4, TX4, 4) = some (Cn, T, 4) := h
  cases h2
  exact ⟨rfl, by decide +kernel, ⟨tyX4, tyX4_ok⟩, nmX4⟩
theorem fp_X5_0 : jFp 5 10 0 .int false := fun Cn T h => by
  have h2 : some (RX5, TX5, 10) = some (Cn, T, 10) := h
  cases h2
  exact ⟨rfl, by decide +kernel, ⟨tyX5, tyX5_ok⟩, nmX5⟩
theorem fp_X5_1 : jFp 5 10 1 .int false := fun Cn T h => by
  have h2 : some (RX5, TX5, 10) = some (Cn, T, 10) := h
  cases h2
  exact ⟨rfl, by decide +kernel, ⟨tyX5, tyX5_ok⟩, nmX5⟩
theorem fp_X5_2 : jFp 5 10 2 .int false := fun Cn T h => by
  have h2 : some (RX5, TX5, 10) = some (Cn, T, 10) := h
  cases h2
  exact ⟨rfl, by decide +kernel, ⟨tyX5, tyX5_ok⟩, nmX5⟩
theorem fp_X5_3 : jFp 5 10 3 (.object "LongestRuns$Text") false := fun Cn T h => by
  have h2 : some (RX5, TX5, 10) = some (Cn, T, 10) := h
  cases h2
  exact ⟨rfl, by decide +kernel, ⟨tyX5, tyX5_ok⟩, nmX5⟩
theorem fp_X5_4 : jFp 5 10 4 (.object "LongestRuns$Board") true := fun Cn T h => by
  have h2 : some (RX5, TX5, 10) = some (Cn, T, 10) := h
  cases h2
  exact ⟨rfl, by decide +kernel, ⟨tyX5, tyX5_ok⟩, nmX5⟩
theorem fp_X5_5 : jFp 5 10 5 (.object "LongestRuns$Shelves") true := fun Cn T h => by
  have h2 : some (RX5, TX5, 10) = some (Cn, T, 10) := h
  cases h2
  exact ⟨rfl, by decide +kernel, ⟨tyX5, tyX5_ok⟩, nmX5⟩
theorem fp_X5_6 : jFp 5 10 6 (.array .int) true := fun Cn T h => by
  have h2 : some (RX5, TX5, 10) = some (Cn, T, 10) := h
  cases h2
  exact ⟨rfl, by decide +kernel, ⟨tyX5, tyX5_ok⟩, nmX5⟩
theorem fp_X5_7 : jFp 5 10 7 (.array .int) true := fun Cn T h => by
  have h2 : some (RX5, TX5, 10) = some (Cn, T, 10) := h
  cases h2
  exact ⟨rfl, by decide +kernel, ⟨tyX5, tyX5_ok⟩, nmX5⟩
theorem fp_X5_8 : jFp 5 10 8 (.array (.array .int)) true := fun Cn T h => by
  have h2 : some (RX5, TX5, 10) = some (Cn, T, 10) := h
  cases h2
  exact ⟨rfl, by decide +kernel, ⟨tyX5, tyX5_ok⟩, nmX5⟩
theorem fp_X5_9 : jFp 5 10 9 (.array (.array .int)) true := fun Cn T h => by
  have h2 : some (RX5, TX5, 10) = some (Cn, T, 10) := h
  cases h2
  exact ⟨rfl, by decide +kernel, ⟨tyX5, tyX5_ok⟩, nmX5⟩
theorem fp_X6_0 : jFp 6 8 0 .int false := fun Cn T h => by
  have h2 : some (RX6, TX6, 8) = some (Cn, T, 8) := h
  cases h2
  exact ⟨rfl, by decide +kernel, ⟨tyX6, tyX6_ok⟩, nmX6⟩
theorem fp_X6_1 : jFp 6 8 1 .int false := fun Cn T h => by
  have h2 : some (RX6, TX6, 8) = some (Cn, T, 8) := h
  cases h2
  exact ⟨rfl, by decide +kernel, ⟨tyX6, tyX6_ok⟩, nmX6⟩
theorem fp_X6_2 : jFp 6 8 2 .int false := fun Cn T h => by
  have h2 : some (RX6, TX6, 8) = some (Cn, T, 8) := h
  cases h2
  exact ⟨rfl, by decide +kernel, ⟨tyX6, tyX6_ok⟩, nmX6⟩
theorem fp_X6_3 : jFp 6 8 3 .int false := fun Cn T h => by
  have h2 : some (RX6, TX6, 8) = some (Cn, T, 8) := h
  cases h2
  exact ⟨rfl, by decide +kernel, ⟨tyX6, tyX6_ok⟩, nmX6⟩
theorem fp_X6_4 : jFp 6 8 4 .int false := fun Cn T h => by
  have h2 : some (RX6, TX6, 8) = some (Cn, T, 8) := h
  cases h2
  exact ⟨rfl, by decide +kernel, ⟨tyX6, tyX6_ok⟩, nmX6⟩
theorem fp_X6_5 : jFp 6 8 5 (.object "LongestRuns$Text") false := fun Cn T h => by
  have h2 : some (RX6, TX6, 8) = some (Cn, T, 8) := h
  cases h2
  exact ⟨rfl, by decide +kernel, ⟨tyX6, tyX6_ok⟩, nmX6⟩
theorem fp_X6_6 : jFp 6 8 6 (.object "LongestRuns$Board") true := fun Cn T h => by
  have h2 : some (RX6, TX6, 8) = some (Cn, T, 8) := h
  cases h2
  exact ⟨rfl, by decide +kernel, ⟨tyX6, tyX6_ok⟩, nmX6⟩
theorem fp_X6_7 : jFp 6 8 7 (.object "LongestRuns$Shelves") true := fun Cn T h => by
  have h2 : some (RX6, TX6, 8) = some (Cn, T, 8) := h
  cases h2
  exact ⟨rfl, by decide +kernel, ⟨tyX6, tyX6_ok⟩, nmX6⟩
theorem fp_X7_0 : jFp 7 10 0 .int false := fun Cn T h => by
  have h2 : some (RX7, TX7, 10) = some (Cn, T, 10) := h
  cases h2
  exact ⟨rfl, by decide +kernel, ⟨tyX7, tyX7_ok⟩, nmX7⟩
theorem fp_X7_1 : jFp 7 10 1 .int false := fun Cn T h => by
  have h2 : some (RX7, TX7, 10) = some (Cn, T, 10) := h
  cases h2
  exact ⟨rfl, by decide +kernel, ⟨tyX7, tyX7_ok⟩, nmX7⟩
theorem fp_X7_2 : jFp 7 10 2 .int false := fun Cn T h => by
  have h2 : some (RX7, TX7, 10) = some (Cn, T, 10) := h
  cases h2
  exact ⟨rfl, by decide +kernel, ⟨tyX7, tyX7_ok⟩, nmX7⟩
theorem fp_X7_3 : jFp 7 10 3 (.array .int) true := fun Cn T h => by
  have h2 : some (RX7, TX7, 10) = some (Cn, T, 10) := h
  cases h2
  exact ⟨rfl, by decide +kernel, ⟨tyX7, tyX7_ok⟩, nmX7⟩
theorem fp_X7_4 : jFp 7 10 4 (.array .int) true := fun Cn T h => by
  have h2 : some (RX7, TX7, 10) = some (Cn, T, 10) := h
  cases h2
  exact ⟨rfl, by decide +kernel, ⟨tyX7, tyX7_ok⟩, nmX7⟩
theorem fp_X7_5 : jFp 7 10 5 (.array .int) true := fun Cn T h => by
  have h2 : some (RX7, TX7, 10) = some (Cn, T, 10) := h
  cases h2
  exact ⟨rfl, by decide +kernel, ⟨tyX7, tyX7_ok⟩, nmX7⟩
theorem fp_X7_6 : jFp 7 10 6 (.array .int) true := fun Cn T h => by
  have h2 : some (RX7, TX7, 10) = some (Cn, T, 10) := h
  cases h2
  exact ⟨rfl, by decide +kernel, ⟨tyX7, tyX7_ok⟩, nmX7⟩
theorem fp_X7_7 : jFp 7 10 7 (.array .int) true := fun Cn T h => by
  have h2 : some (RX7, TX7, 10) = some (Cn, T, 10) := h
  cases h2
  exact ⟨rfl, by decide +kernel, ⟨tyX7, tyX7_ok⟩, nmX7⟩
theorem fp_X7_8 : jFp 7 10 8 (.array .int) true := fun Cn T h => by
  have h2 : some (RX7, TX7, 10) = some (Cn, T, 10) := h
  cases h2
  exact ⟨rfl, by decide +kernel, ⟨tyX7, tyX7_ok⟩, nmX7⟩
theorem fp_X7_9 : jFp 7 10 9 (.array (.array .int)) true := fun Cn T h => by
  have h2 : some (RX7, TX7, 10) = some (Cn, T, 10) := h
  cases h2
  exact ⟨rfl, by decide +kernel, ⟨tyX7, tyX7_ok⟩, nmX7⟩
theorem fp_X8_0 : jFp 8 10 0 .int false := fun Cn T h => by
  have h2 : some (RX8, TX8, 10) = some (Cn, T, 10) := h
  cases h2
  exact ⟨rfl, by decide +kernel, ⟨tyX8, tyX8_ok⟩, nmX8⟩
theorem fp_X8_1 : jFp 8 10 1 .int false := fun Cn T h => by
  have h2 : some (RX8, TX8, 10) = some (Cn, T, 10) := h
  cases h2
  exact ⟨rfl, by decide +kernel, ⟨tyX8, tyX8_ok⟩, nmX8⟩
theorem fp_X8_2 : jFp 8 10 2 .boolean false := fun Cn T h => by
  have h2 : some (RX8, TX8, 10) = some (Cn, T, 10) := h
  cases h2
  exact ⟨rfl, by decide +kernel, ⟨tyX8, tyX8_ok⟩, nmX8⟩
theorem fp_X8_3 : jFp 8 10 3 .int false := fun Cn T h => by
  have h2 : some (RX8, TX8, 10) = some (Cn, T, 10) := h
  cases h2
  exact ⟨rfl, by decide +kernel, ⟨tyX8, tyX8_ok⟩, nmX8⟩
theorem fp_X8_4 : jFp 8 10 4 (.object "LongestRuns$Text") false := fun Cn T h => by
  have h2 : some (RX8, TX8, 10) = some (Cn, T, 10) := h
  cases h2
  exact ⟨rfl, by decide +kernel, ⟨tyX8, tyX8_ok⟩, nmX8⟩
theorem fp_X8_5 : jFp 8 10 5 (.object "LongestRuns$Board") true := fun Cn T h => by
  have h2 : some (RX8, TX8, 10) = some (Cn, T, 10) := h
  cases h2
  exact ⟨rfl, by decide +kernel, ⟨tyX8, tyX8_ok⟩, nmX8⟩
theorem fp_X8_6 : jFp 8 10 6 (.object "LongestRuns$Shelves") true := fun Cn T h => by
  have h2 : some (RX8, TX8, 10) = some (Cn, T, 10) := h
  cases h2
  exact ⟨rfl, by decide +kernel, ⟨tyX8, tyX8_ok⟩, nmX8⟩
theorem fp_X8_7 : jFp 8 10 7 (.object "LongestRuns$Reached") true := fun Cn T h => by
  have h2 : some (RX8, TX8, 10) = some (Cn, T, 10) := h
  cases h2
  exact ⟨rfl, by decide +kernel, ⟨tyX8, tyX8_ok⟩, nmX8⟩
theorem fp_X8_8 : jFp 8 10 8 (.object "LongestRuns$Reached") true := fun Cn T h => by
  have h2 : some (RX8, TX8, 10) = some (Cn, T, 10) := h
  cases h2
  exact ⟨rfl, by decide +kernel, ⟨tyX8, tyX8_ok⟩, nmX8⟩
theorem fp_X8_9 : jFp 8 10 9 (.array (.object "LongestRuns$Reached")) true := fun Cn T h => by
  have h2 : some (RX8, TX8, 10) = some (Cn, T, 10) := h
  cases h2
  exact ⟨rfl, by decide +kernel, ⟨tyX8, tyX8_ok⟩, nmX8⟩
theorem fp_X9_0 : jFp 9 4 0 .int false := fun Cn T h => by
  have h2 : some (RX9, TX9, 4) = some (Cn, T, 4) := h
  cases h2
  exact ⟨rfl, by decide +kernel, ⟨tyX9, tyX9_ok⟩, nmX9⟩
theorem fp_X9_1 : jFp 9 4 1 (.object "LongestRuns$Board") true := fun Cn T h => by
  have h2 : some (RX9, TX9, 4) = some (Cn, T, 4) := h
  cases h2
  exact ⟨rfl, by decide +kernel, ⟨tyX9, tyX9_ok⟩, nmX9⟩
theorem fp_X9_2 : jFp 9 4 2 (.object "LongestRuns$Spread") true := fun Cn T h => by
  have h2 : some (RX9, TX9, 4) = some (Cn, T, 4) := h
  cases h2
  exact ⟨rfl, by decide +kernel, ⟨tyX9, tyX9_ok⟩, nmX9⟩
theorem fp_X9_3 : jFp 9 4 3 (.array .int) true := fun Cn T h => by
  have h2 : some (RX9, TX9, 4) = some (Cn, T, 4) := h
  cases h2
  exact ⟨rfl, by decide +kernel, ⟨tyX9, tyX9_ok⟩, nmX9⟩
theorem mv_X0_ageAt : jmV yX0_ageAt cX0_ageAt 4 (some .int) 2 := ⟨⟨jB_at 881 (by decide +kernel) rfl, jB_at 98 (by decide +kernel) rfl, ⟨by decide +kernel, by decide +kernel, by decide +kernel⟩, by decide⟩, jB_at 880 (by decide +kernel) rfl, jB_at 31 (by decide +kernel) rfl⟩
theorem mv_X0_fetch : jmV yX0_fetch cX0_fetch 7 none 1 := ⟨⟨jB_at 868 (by decide +kernel) rfl, jB_at 98 (by decide +kernel) rfl, ⟨by decide +kernel, by decide +kernel, by decide +kernel⟩, by decide⟩, jB_at 867 (by decide +kernel) rfl, jB_at 30 (by decide +kernel) rfl⟩
theorem mv_X0_join : jmV yX0_join cX0_join 3 none 1 := ⟨⟨jB_at 854 (by decide +kernel) rfl, jB_at 98 (by decide +kernel) rfl, ⟨by decide +kernel, by decide +kernel, by decide +kernel⟩, by decide⟩, jB_at 853 (by decide +kernel) rfl, jB_at 28 (by decide +kernel) rfl⟩
theorem mv_X0_mayAt : jmV yX0_mayAt cX0_mayAt 3 (some .int) 2 := ⟨⟨jB_at 885 (by decide +kernel) rfl, jB_at 98 (by decide +kernel) rfl, ⟨by decide +kernel, by decide +kernel, by decide +kernel⟩, by decide⟩, jB_at 883 (by decide +kernel) rfl, jB_at 884 (by decide +kernel) rfl⟩
theorem mv_X0_mustAt : jmV yX0_mustAt cX0_mustAt 3 (some .int) 2 := ⟨⟨jB_at 877 (by decide +kernel) rfl, jB_at 98 (by decide +kernel) rfl, ⟨by decide +kernel, by decide +kernel, by decide +kernel⟩, by decide⟩, jB_at 875 (by decide +kernel) rfl, jB_at 876 (by decide +kernel) rfl⟩
theorem mv_X0_pass : jmV yX0_pass cX0_pass 5 none 2 := ⟨⟨jB_at 844 (by decide +kernel) rfl, jB_at 98 (by decide +kernel) rfl, ⟨by decide +kernel, by decide +kernel, by decide +kernel⟩, by decide⟩, jB_at 843 (by decide +kernel) rfl, jB_at 27 (by decide +kernel) rfl⟩
theorem mv_X0_passLoop : jmV yX0_passLoop cX0_passLoop 5 none 2 := ⟨⟨jB_at 860 (by decide +kernel) rfl, jB_at 98 (by decide +kernel) rfl, ⟨by decide +kernel, by decide +kernel, by decide +kernel⟩, by decide⟩, jB_at 859 (by decide +kernel) rfl, jB_at 29 (by decide +kernel) rfl⟩
theorem mv_X0_trace : jmV yX0_trace cX0_trace 4 none 1 := ⟨⟨jB_at 828 (by decide +kernel) rfl, jB_at 98 (by decide +kernel) rfl, ⟨by decide +kernel, by decide +kernel, by decide +kernel⟩, by decide⟩, jB_at 826 (by decide +kernel) rfl, jB_at 827 (by decide +kernel) rfl⟩
theorem mv_X10_allLines : jmV yX10_allLines cX10_allLines 1 (some .int) 0 := ⟨⟨jB_at 590 (by decide +kernel) rfl, jB_at 91 (by decide +kernel) rfl, ⟨by decide +kernel, by decide +kernel, by decide +kernel⟩, by decide⟩, jB_at 588 (by decide +kernel) rfl, jB_at 589 (by decide +kernel) rfl⟩
theorem mv_X10_firstPart : jmV yX10_firstPart cX10_firstPart 2 (some .int) 1 := ⟨⟨jB_at 636 (by decide +kernel) rfl, jB_at 91 (by decide +kernel) rfl, ⟨by decide +kernel, by decide +kernel, by decide +kernel⟩, by decide⟩, jB_at 634 (by decide +kernel) rfl, jB_at 635 (by decide +kernel) rfl⟩
theorem mv_X10_has : jmV yX10_has cX10_has 2 (some .boolean) 1 := ⟨⟨jB_at 563 (by decide +kernel) rfl, jB_at 91 (by decide +kernel) rfl, ⟨by decide +kernel, by decide +kernel, by decide +kernel⟩, by decide⟩, jB_at 561 (by decide +kernel) rfl, jB_at 562 (by decide +kernel) rfl⟩
theorem mv_X10_isFetchAt : jmV yX10_isFetchAt cX10_isFetchAt 2 (some .boolean) 1 := ⟨⟨jB_at 662 (by decide +kernel) rfl, jB_at 91 (by decide +kernel) rfl, ⟨by decide +kernel, by decide +kernel, by decide +kernel⟩, by decide⟩, jB_at 660 (by decide +kernel) rfl, jB_at 661 (by decide +kernel) rfl⟩
theorem mv_X10_isLoopAround : jmV yX10_isLoopAround cX10_isLoopAround 3 (some .boolean) 2 := ⟨⟨jB_at 913 (by decide +kernel) rfl, jB_at 91 (by decide +kernel) rfl, ⟨by decide +kernel, by decide +kernel, by decide +kernel⟩, by decide⟩, jB_at 911 (by decide +kernel) rfl, jB_at 912 (by decide +kernel) rfl⟩
theorem mv_X10_lineAt : jmV yX10_lineAt cX10_lineAt 2 (some .int) 1 := ⟨⟨jB_at 542 (by decide +kernel) rfl, jB_at 91 (by decide +kernel) rfl, ⟨by decide +kernel, by decide +kernel, by decide +kernel⟩, by decide⟩, jB_at 540 (by decide +kernel) rfl, jB_at 541 (by decide +kernel) rfl⟩
theorem mv_X10_linesWithin : jmV yX10_linesWithin cX10_linesWithin 2 (some .int) 1 := ⟨⟨jB_at 555 (by decide +kernel) rfl, jB_at 91 (by decide +kernel) rfl, ⟨by decide +kernel, by decide +kernel, by decide +kernel⟩, by decide⟩, jB_at 553 (by decide +kernel) rfl, jB_at 554 (by decide +kernel) rfl⟩
theorem mv_X10_secondPart : jmV yX10_secondPart cX10_secondPart 2 (some .int) 1 := ⟨⟨jB_at 640 (by decide +kernel) rfl, jB_at 91 (by decide +kernel) rfl, ⟨by decide +kernel, by decide +kernel, by decide +kernel⟩, by decide⟩, jB_at 638 (by decide +kernel) rfl, jB_at 639 (by decide +kernel) rfl⟩
theorem mv_X10_signAt : jmV yX10_signAt cX10_signAt 2 (some .int) 1 := ⟨⟨jB_at 546 (by decide +kernel) rfl, jB_at 91 (by decide +kernel) rfl, ⟨by decide +kernel, by decide +kernel, by decide +kernel⟩, by decide⟩, jB_at 544 (by decide +kernel) rfl, jB_at 545 (by decide +kernel) rfl⟩
theorem mv_X10_sizeAt : jmV yX10_sizeAt cX10_sizeAt 2 (some .int) 1 := ⟨⟨jB_at 551 (by decide +kernel) rfl, jB_at 91 (by decide +kernel) rfl, ⟨by decide +kernel, by decide +kernel, by decide +kernel⟩, by decide⟩, jB_at 549 (by decide +kernel) rfl, jB_at 550 (by decide +kernel) rfl⟩
theorem mv_X10_take : jmV yX10_take cX10_take 7 none 2 := ⟨⟨jB_at 534 (by decide +kernel) rfl, jB_at 91 (by decide +kernel) rfl, ⟨by decide +kernel, by decide +kernel, by decide +kernel⟩, by decide⟩, jB_at 532 (by decide +kernel) rfl, jB_at 533 (by decide +kernel) rfl⟩
theorem mv_X10_timesAt : jmV yX10_timesAt cX10_timesAt 3 (some .int) 1 := ⟨⟨jB_at 646 (by decide +kernel) rfl, jB_at 91 (by decide +kernel) rfl, ⟨by decide +kernel, by decide +kernel, by decide +kernel⟩, by decide⟩, jB_at 644 (by decide +kernel) rfl, jB_at 645 (by decide +kernel) rfl⟩
theorem mv_X11_age : jmV yX11_age cX11_age 5 (some .int) 4 := ⟨⟨jB_at 819 (by decide +kernel) rfl, jB_at 89 (by decide +kernel) rfl, ⟨by decide +kernel, by decide +kernel, by decide +kernel⟩, by decide⟩, jB_at 817 (by decide +kernel) rfl, jB_at 818 (by decide +kernel) rfl⟩
theorem mv_X11_bound : jmV yX11_bound cX11_bound 3 (some .int) 2 := ⟨⟨jB_at 924 (by decide +kernel) rfl, jB_at 89 (by decide +kernel) rfl, ⟨by decide +kernel, by decide +kernel, by decide +kernel⟩, by decide⟩, jB_at 922 (by decide +kernel) rfl, jB_at 923 (by decide +kernel) rfl⟩
theorem mv_X11_breaks : jmV yX11_breaks cX11_breaks 3 (some .int) 2 := ⟨⟨jB_at 1002 (by decide +kernel) rfl, jB_at 89 (by decide +kernel) rfl, ⟨by decide +kernel, by decide +kernel, by decide +kernel⟩, by decide⟩, jB_at 1000 (by decide +kernel) rfl, jB_at 1001 (by decide +kernel) rfl⟩
theorem mv_X11_choose : jmV yX11_choose cX11_choose 2 (some .int) 1 := ⟨⟨jB_at 569 (by decide +kernel) rfl, jB_at 89 (by decide +kernel) rfl, ⟨by decide +kernel, by decide +kernel, by decide +kernel⟩, by decide⟩, jB_at 567 (by decide +kernel) rfl, jB_at 568 (by decide +kernel) rfl⟩
theorem mv_X11_crowd : jmV yX11_crowd cX11_crowd 2 (some .int) 1 := ⟨⟨jB_at 985 (by decide +kernel) rfl, jB_at 89 (by decide +kernel) rfl, ⟨by decide +kernel, by decide +kernel, by decide +kernel⟩, by decide⟩, jB_at 983 (by decide +kernel) rfl, jB_at 984 (by decide +kernel) rfl⟩
theorem mv_X11_done : jmV yX11_done cX11_done 2 (some .int) 1 := ⟨⟨jB_at 1020 (by decide +kernel) rfl, jB_at 89 (by decide +kernel) rfl, ⟨by decide +kernel, by decide +kernel, by decide +kernel⟩, by decide⟩, jB_at 1018 (by decide +kernel) rfl, jB_at 1019 (by decide +kernel) rfl⟩
theorem mv_X11_fast : jmV yX11_fast cX11_fast 3 (some .int) 2 := ⟨⟨jB_at 969 (by decide +kernel) rfl, jB_at 89 (by decide +kernel) rfl, ⟨by decide +kernel, by decide +kernel, by decide +kernel⟩, by decide⟩, jB_at 967 (by decide +kernel) rfl, jB_at 968 (by decide +kernel) rfl⟩
theorem mv_X11_fault : jmV yX11_fault cX11_fault 1 (some .int) 0 := ⟨⟨jB_at 512 (by decide +kernel) rfl, jB_at 89 (by decide +kernel) rfl, ⟨by decide +kernel, by decide +kernel, by decide +kernel⟩, by decide⟩, jB_at 510 (by decide +kernel) rfl, jB_at 511 (by decide +kernel) rfl⟩
theorem mv_X11_forget : jmV yX11_forget cX11_forget 2 (some .int) 0 := ⟨⟨jB_at 577 (by decide +kernel) rfl, jB_at 89 (by decide +kernel) rfl, ⟨by decide +kernel, by decide +kernel, by decide +kernel⟩, by decide⟩, jB_at 575 (by decide +kernel) rfl, jB_at 576 (by decide +kernel) rfl⟩
theorem mv_X11_image : jmV yX11_image cX11_image 3 (some .int) 1 := ⟨⟨jB_at 1059 (by decide +kernel) rfl, jB_at 89 (by decide +kernel) rfl, ⟨by decide +kernel, by decide +kernel, by decide +kernel⟩, by decide⟩, jB_at 1057 (by decide +kernel) rfl, jB_at 1058 (by decide +kernel) rfl⟩
theorem mv_X11_imageOf : jmV yX11_imageOf cX11_imageOf 2 (some (.object "LongestRuns$Board")) 1 := ⟨⟨jB_at 1063 (by decide +kernel) rfl, jB_at 89 (by decide +kernel) rfl, ⟨by decide +kernel, by decide +kernel, by decide +kernel⟩, by decide⟩, jB_at 1062 (by decide +kernel) rfl, jB_at 43 (by decide +kernel) rfl⟩
theorem mv_X11_isFetch : jmV yX11_isFetch cX11_isFetch 3 (some .boolean) 2 := ⟨⟨jB_at 823 (by decide +kernel) rfl, jB_at 89 (by decide +kernel) rfl, ⟨by decide +kernel, by decide +kernel, by decide +kernel⟩, by decide⟩, jB_at 822 (by decide +kernel) rfl, jB_at 26 (by decide +kernel) rfl⟩
theorem mv_X11_late : jmV yX11_late cX11_late 2 (some .int) 1 := ⟨⟨jB_at 1044 (by decide +kernel) rfl, jB_at 89 (by decide +kernel) rfl, ⟨by decide +kernel, by decide +kernel, by decide +kernel⟩, by decide⟩, jB_at 1042 (by decide +kernel) rfl, jB_at 1043 (by decide +kernel) rfl⟩
theorem mv_X11_most : jmV yX11_most cX11_most 5 (some .int) 2 := ⟨⟨jB_at 684 (by decide +kernel) rfl, jB_at 89 (by decide +kernel) rfl, ⟨by decide +kernel, by decide +kernel, by decide +kernel⟩, by decide⟩, jB_at 682 (by decide +kernel) rfl, jB_at 683 (by decide +kernel) rfl⟩
theorem mv_X11_node : jmV yX11_node cX11_node 4 (some .int) 3 := ⟨⟨jB_at 559 (by decide +kernel) rfl, jB_at 89 (by decide +kernel) rfl, ⟨by decide +kernel, by decide +kernel, by decide +kernel⟩, by decide⟩, jB_at 557 (by decide +kernel) rfl, jB_at 558 (by decide +kernel) rfl⟩
theorem mv_X11_period : jmV yX11_period cX11_period 4 (some .int) 2 := ⟨⟨jB_at 990 (by decide +kernel) rfl, jB_at 89 (by decide +kernel) rfl, ⟨by decide +kernel, by decide +kernel, by decide +kernel⟩, by decide⟩, jB_at 988 (by decide +kernel) rfl, jB_at 989 (by decide +kernel) rfl⟩
theorem mv_X11_program : jmV yX11_program cX11_program 3 (some .int) 1 := ⟨⟨jB_at 526 (by decide +kernel) rfl, jB_at 89 (by decide +kernel) rfl, ⟨by decide +kernel, by decide +kernel, by decide +kernel⟩, by decide⟩, jB_at 524 (by decide +kernel) rfl, jB_at 525 (by decide +kernel) rfl⟩
theorem mv_X11_restore : jmV yX11_restore cX11_restore 3 (some .int) 1 := ⟨⟨jB_at 1076 (by decide +kernel) rfl, jB_at 89 (by decide +kernel) rfl, ⟨by decide +kernel, by decide +kernel, by decide +kernel⟩, by decide⟩, jB_at 1074 (by decide +kernel) rfl, jB_at 1075 (by decide +kernel) rfl⟩
theorem mv_X11_row : jmV yX11_row cX11_row 3 (some .int) 2 := ⟨⟨jB_at 749 (by decide +kernel) rfl, jB_at 89 (by decide +kernel) rfl, ⟨by decide +kernel, by decide +kernel, by decide +kernel⟩, by decide⟩, jB_at 747 (by decide +kernel) rfl, jB_at 748 (by decide +kernel) rfl⟩
theorem mv_X11_run : jmV yX11_run cX11_run 3 (some .int) 2 := ⟨⟨jB_at 581 (by decide +kernel) rfl, jB_at 89 (by decide +kernel) rfl, ⟨by decide +kernel, by decide +kernel, by decide +kernel⟩, by decide⟩, jB_at 579 (by decide +kernel) rfl, jB_at 580 (by decide +kernel) rfl⟩
theorem mv_X11_say : jmV yX11_say cX11_say 2 (some .int) 1 := ⟨⟨jB_at 500 (by decide +kernel) rfl, jB_at 89 (by decide +kernel) rfl, ⟨by decide +kernel, by decide +kernel, by decide +kernel⟩, by decide⟩, jB_at 498 (by decide +kernel) rfl, jB_at 499 (by decide +kernel) rfl⟩
theorem mv_X11_shelf : jmV yX11_shelf cX11_shelf 7 (some .int) 2 := ⟨⟨jB_at 472 (by decide +kernel) rfl, jB_at 89 (by decide +kernel) rfl, ⟨by decide +kernel, by decide +kernel, by decide +kernel⟩, by decide⟩, jB_at 470 (by decide +kernel) rfl, jB_at 471 (by decide +kernel) rfl⟩
theorem mv_X11_sort : jmV yX11_sort cX11_sort 3 (some .int) 2 := ⟨⟨jB_at 889 (by decide +kernel) rfl, jB_at 89 (by decide +kernel) rfl, ⟨by decide +kernel, by decide +kernel, by decide +kernel⟩, by decide⟩, jB_at 887 (by decide +kernel) rfl, jB_at 888 (by decide +kernel) rfl⟩
theorem mv_X11_told : jmV yX11_told cX11_told 2 (some .int) 1 := ⟨⟨jB_at 1080 (by decide +kernel) rfl, jB_at 89 (by decide +kernel) rfl, ⟨by decide +kernel, by decide +kernel, by decide +kernel⟩, by decide⟩, jB_at 1078 (by decide +kernel) rfl, jB_at 1079 (by decide +kernel) rfl⟩
theorem mv_X11_wipe : jmV yX11_wipe cX11_wipe 2 (some .int) 0 := ⟨⟨jB_at 508 (by decide +kernel) rfl, jB_at 89 (by decide +kernel) rfl, ⟨by decide +kernel, by decide +kernel, by decide +kernel⟩, by decide⟩, jB_at 506 (by decide +kernel) rfl, jB_at 507 (by decide +kernel) rfl⟩
theorem mv_X12_age : jmV yX12_age cX12_age 5 (some .int) 4 := ⟨⟨jB_at 1368 (by decide +kernel) rfl, jB_at 101 (by decide +kernel) rfl, ⟨by decide +kernel, by decide +kernel, by decide +kernel⟩, by decide⟩, jB_at 1366 (by decide +kernel) rfl, jB_at 1367 (by decide +kernel) rfl⟩
theorem mv_X12_begin : jmV yX12_begin cX12_begin 5 none 0 := ⟨⟨jB_at 1320 (by decide +kernel) rfl, jB_at 101 (by decide +kernel) rfl, ⟨by decide +kernel, by decide +kernel, by decide +kernel⟩, by decide⟩, jB_at 1319 (by decide +kernel) rfl, jB_at 61 (by decide +kernel) rfl⟩
theorem mv_X12_bestOf : jmV yX12_bestOf cX12_bestOf 3 (some .int) 0 := ⟨⟨jB_at 1352 (by decide +kernel) rfl, jB_at 101 (by decide +kernel) rfl, ⟨by decide +kernel, by decide +kernel, by decide +kernel⟩, by decide⟩, jB_at 1351 (by decide +kernel) rfl, jB_at 69 (by decide +kernel) rfl⟩
theorem mv_X12_bound : jmV yX12_bound cX12_bound 8 (some .int) 2 := ⟨⟨jB_at 1415 (by decide +kernel) rfl, jB_at 101 (by decide +kernel) rfl, ⟨by decide +kernel, by decide +kernel, by decide +kernel⟩, by decide⟩, jB_at 1413 (by decide +kernel) rfl, jB_at 1414 (by decide +kernel) rfl⟩
theorem mv_X12_breaks : jmV yX12_breaks cX12_breaks 3 (some .int) 2 := ⟨⟨jB_at 1443 (by decide +kernel) rfl, jB_at 101 (by decide +kernel) rfl, ⟨by decide +kernel, by decide +kernel, by decide +kernel⟩, by decide⟩, jB_at 1441 (by decide +kernel) rfl, jB_at 1442 (by decide +kernel) rfl⟩
theorem mv_X12_breaksOf : jmV yX12_breaksOf cX12_breaksOf 9 (some .int) 2 := ⟨⟨jB_at 1447 (by decide +kernel) rfl, jB_at 101 (by decide +kernel) rfl, ⟨by decide +kernel, by decide +kernel, by decide +kernel⟩, by decide⟩, jB_at 1446 (by decide +kernel) rfl, jB_at 84 (by decide +kernel) rfl⟩
theorem mv_X12_choose : jmV yX12_choose cX12_choose 2 (some .int) 1 := ⟨⟨jB_at 1246 (by decide +kernel) rfl, jB_at 101 (by decide +kernel) rfl, ⟨by decide +kernel, by decide +kernel, by decide +kernel⟩, by decide⟩, jB_at 1244 (by decide +kernel) rfl, jB_at 1245 (by decide +kernel) rfl⟩
theorem mv_X12_come : jmV yX12_come cX12_come 5 none 0 := ⟨⟨jB_at 1340 (by decide +kernel) rfl, jB_at 101 (by decide +kernel) rfl, ⟨by decide +kernel, by decide +kernel, by decide +kernel⟩, by decide⟩, jB_at 1339 (by decide +kernel) rfl, jB_at 66 (by decide +kernel) rfl⟩
theorem mv_X12_comesTo : jmV yX12_comesTo cX12_comesTo 6 (some .int) 2 := ⟨⟨jB_at 1423 (by decide +kernel) rfl, jB_at 101 (by decide +kernel) rfl, ⟨by decide +kernel, by decide +kernel, by decide +kernel⟩, by decide⟩, jB_at 1422 (by decide +kernel) rfl, jB_at 82 (by decide +kernel) rfl⟩
theorem mv_X12_copyFrom : jmV yX12_copyFrom cX12_copyFrom 4 none 2 := ⟨⟨jB_at 1344 (by decide +kernel) rfl, jB_at 101 (by decide +kernel) rfl, ⟨by decide +kernel, by decide +kernel, by decide +kernel⟩, by decide⟩, jB_at 1343 (by decide +kernel) rfl, jB_at 67 (by decide +kernel) rfl⟩
theorem mv_X12_crowd : jmV yX12_crowd cX12_crowd 2 (some .int) 1 := ⟨⟨jB_at 1431 (by decide +kernel) rfl, jB_at 101 (by decide +kernel) rfl, ⟨by decide +kernel, by decide +kernel, by decide +kernel⟩, by decide⟩, jB_at 1429 (by decide +kernel) rfl, jB_at 1430 (by decide +kernel) rfl⟩
theorem mv_X12_crowd0 : jmV yX12_crowd0 cX12_crowd0 5 (some .int) 1 := ⟨⟨jB_at 1435 (by decide +kernel) rfl, jB_at 101 (by decide +kernel) rfl, ⟨by decide +kernel, by decide +kernel, by decide +kernel⟩, by decide⟩, jB_at 1434 (by decide +kernel) rfl, jB_at 83 (by decide +kernel) rfl⟩
theorem mv_X12_crowdOf : jmV yX12_crowdOf cX12_crowdOf 6 (some .int) 2 := ⟨⟨jB_at 1408 (by decide +kernel) rfl, jB_at 101 (by decide +kernel) rfl, ⟨by decide +kernel, by decide +kernel, by decide +kernel⟩, by decide⟩, jB_at 1407 (by decide +kernel) rfl, jB_at 80 (by decide +kernel) rfl⟩
theorem mv_X12_digit : jmV yX12_digit cX12_digit 2 (some .int) 1 := ⟨⟨jB_at 1332 (by decide +kernel) rfl, jB_at 101 (by decide +kernel) rfl, ⟨by decide +kernel, by decide +kernel, by decide +kernel⟩, by decide⟩, jB_at 1331 (by decide +kernel) rfl, jB_at 64 (by decide +kernel) rfl⟩
theorem mv_X12_done : jmV yX12_done cX12_done 2 (some .int) 1 := ⟨⟨jB_at 1451 (by decide +kernel) rfl, jB_at 101 (by decide +kernel) rfl, ⟨by decide +kernel, by decide +kernel, by decide +kernel⟩, by decide⟩, jB_at 1449 (by decide +kernel) rfl, jB_at 1450 (by decide +kernel) rfl⟩
theorem mv_X12_doneOf : jmV yX12_doneOf cX12_doneOf 6 (some .int) 1 := ⟨⟨jB_at 1459 (by decide +kernel) rfl, jB_at 101 (by decide +kernel) rfl, ⟨by decide +kernel, by decide +kernel, by decide +kernel⟩, by decide⟩, jB_at 1458 (by decide +kernel) rfl, jB_at 86 (by decide +kernel) rfl⟩
theorem mv_X12_fast : jmV yX12_fast cX12_fast 8 (some .int) 2 := ⟨⟨jB_at 1427 (by decide +kernel) rfl, jB_at 101 (by decide +kernel) rfl, ⟨by decide +kernel, by decide +kernel, by decide +kernel⟩, by decide⟩, jB_at 1425 (by decide +kernel) rfl, jB_at 1426 (by decide +kernel) rfl⟩
theorem mv_X12_fault : jmV yX12_fault cX12_fault 1 (some .int) 0 := ⟨⟨jB_at 1213 (by decide +kernel) rfl, jB_at 101 (by decide +kernel) rfl, ⟨by decide +kernel, by decide +kernel, by decide +kernel⟩, by decide⟩, jB_at 1211 (by decide +kernel) rfl, jB_at 1212 (by decide +kernel) rfl⟩
theorem mv_X12_faultOf : jmV yX12_faultOf cX12_faultOf 5 (some .int) 0 := ⟨⟨jB_at 1217 (by decide +kernel) rfl, jB_at 101 (by decide +kernel) rfl, ⟨by decide +kernel, by decide +kernel, by decide +kernel⟩, by decide⟩, jB_at 1216 (by decide +kernel) rfl, jB_at 45 (by decide +kernel) rfl⟩
theorem mv_X12_fetch : jmV yX12_fetch cX12_fetch 12 (some .int) 2 := ⟨⟨jB_at 1258 (by decide +kernel) rfl, jB_at 101 (by decide +kernel) rfl, ⟨by decide +kernel, by decide +kernel, by decide +kernel⟩, by decide⟩, jB_at 1257 (by decide +kernel) rfl, jB_at 48 (by decide +kernel) rfl⟩
theorem mv_X12_fetchAges : jmV yX12_fetchAges cX12_fetchAges 7 none 1 := ⟨⟨jB_at 1380 (by decide +kernel) rfl, jB_at 101 (by decide +kernel) rfl, ⟨by decide +kernel, by decide +kernel, by decide +kernel⟩, by decide⟩, jB_at 1379 (by decide +kernel) rfl, jB_at 74 (by decide +kernel) rfl⟩
theorem mv_X12_fetchAll : jmV yX12_fetchAll cX12_fetchAll 5 none 1 := ⟨⟨jB_at 1324 (by decide +kernel) rfl, jB_at 101 (by decide +kernel) rfl, ⟨by decide +kernel, by decide +kernel, by decide +kernel⟩, by decide⟩, jB_at 1323 (by decide +kernel) rfl, jB_at 62 (by decide +kernel) rfl⟩
theorem mv_X12_forget : jmV yX12_forget cX12_forget 2 (some .int) 0 := ⟨⟨jB_at 1250 (by decide +kernel) rfl, jB_at 101 (by decide +kernel) rfl, ⟨by decide +kernel, by decide +kernel, by decide +kernel⟩, by decide⟩, jB_at 1248 (by decide +kernel) rfl, jB_at 1249 (by decide +kernel) rfl⟩
theorem mv_X12_image : jmV yX12_image cX12_image 4 (some .int) 1 := ⟨⟨jB_at 1471 (by decide +kernel) rfl, jB_at 101 (by decide +kernel) rfl, ⟨by decide +kernel, by decide +kernel, by decide +kernel⟩, by decide⟩, jB_at 1469 (by decide +kernel) rfl, jB_at 1470 (by decide +kernel) rfl⟩
theorem mv_X12_isBetter : jmV yX12_isBetter cX12_isBetter 3 (some .boolean) 2 := ⟨⟨jB_at 1328 (by decide +kernel) rfl, jB_at 101 (by decide +kernel) rfl, ⟨by decide +kernel, by decide +kernel, by decide +kernel⟩, by decide⟩, jB_at 1327 (by decide +kernel) rfl, jB_at 63 (by decide +kernel) rfl⟩
theorem mv_X12_isFetch : jmV yX12_isFetch cX12_isFetch 3 (some .boolean) 2 := ⟨⟨jB_at 1372 (by decide +kernel) rfl, jB_at 101 (by decide +kernel) rfl, ⟨by decide +kernel, by decide +kernel, by decide +kernel⟩, by decide⟩, jB_at 1371 (by decide +kernel) rfl, jB_at 72 (by decide +kernel) rfl⟩
theorem mv_X12_isHeld : jmV yX12_isHeld cX12_isHeld 2 (some .boolean) 1 := ⟨⟨jB_at 1262 (by decide +kernel) rfl, jB_at 101 (by decide +kernel) rfl, ⟨by decide +kernel, by decide +kernel, by decide +kernel⟩, by decide⟩, jB_at 1261 (by decide +kernel) rfl, jB_at 49 (by decide +kernel) rfl⟩
theorem mv_X12_isNode : jmV yX12_isNode cX12_isNode 3 (some .boolean) 2 := ⟨⟨jB_at 1242 (by decide +kernel) rfl, jB_at 101 (by decide +kernel) rfl, ⟨by decide +kernel, by decide +kernel, by decide +kernel⟩, by decide⟩, jB_at 1241 (by decide +kernel) rfl, jB_at 47 (by decide +kernel) rfl⟩
theorem mv_X12_joinAges : jmV yX12_joinAges cX12_joinAges 6 (some .boolean) 1 := ⟨⟨jB_at 1392 (by decide +kernel) rfl, jB_at 101 (by decide +kernel) rfl, ⟨by decide +kernel, by decide +kernel, by decide +kernel⟩, by decide⟩, jB_at 1391 (by decide +kernel) rfl, jB_at 77 (by decide +kernel) rfl⟩
theorem mv_X12_joinFrom : jmV yX12_joinFrom cX12_joinFrom 5 none 2 := ⟨⟨jB_at 1348 (by decide +kernel) rfl, jB_at 101 (by decide +kernel) rfl, ⟨by decide +kernel, by decide +kernel, by decide +kernel⟩, by decide⟩, jB_at 1347 (by decide +kernel) rfl, jB_at 68 (by decide +kernel) rfl⟩
theorem mv_X12_keep : jmV yX12_keep cX12_keep 4 none 2 := ⟨⟨jB_at 1336 (by decide +kernel) rfl, jB_at 101 (by decide +kernel) rfl, ⟨by decide +kernel, by decide +kernel, by decide +kernel⟩, by decide⟩, jB_at 1335 (by decide +kernel) rfl, jB_at 65 (by decide +kernel) rfl⟩
theorem mv_X12_keepAges : jmV yX12_keepAges cX12_keepAges 3 none 1 := ⟨⟨jB_at 1384 (by decide +kernel) rfl, jB_at 101 (by decide +kernel) rfl, ⟨by decide +kernel, by decide +kernel, by decide +kernel⟩, by decide⟩, jB_at 1383 (by decide +kernel) rfl, jB_at 75 (by decide +kernel) rfl⟩
theorem mv_X12_late : jmV yX12_late cX12_late 5 (some .int) 1 := ⟨⟨jB_at 1463 (by decide +kernel) rfl, jB_at 101 (by decide +kernel) rfl, ⟨by decide +kernel, by decide +kernel, by decide +kernel⟩, by decide⟩, jB_at 1461 (by decide +kernel) rfl, jB_at 1462 (by decide +kernel) rfl⟩
theorem mv_X12_lateOnes : jmV yX12_lateOnes cX12_lateOnes 3 (some .int) 0 := ⟨⟨jB_at 1467 (by decide +kernel) rfl, jB_at 101 (by decide +kernel) rfl, ⟨by decide +kernel, by decide +kernel, by decide +kernel⟩, by decide⟩, jB_at 1466 (by decide +kernel) rfl, jB_at 87 (by decide +kernel) rfl⟩
theorem mv_X12_layAges : jmV yX12_layAges cX12_layAges 8 none 1 := ⟨⟨jB_at 1376 (by decide +kernel) rfl, jB_at 101 (by decide +kernel) rfl, ⟨by decide +kernel, by decide +kernel, by decide +kernel⟩, by decide⟩, jB_at 1375 (by decide +kernel) rfl, jB_at 73 (by decide +kernel) rfl⟩
theorem mv_X12_layRow : jmV yX12_layRow cX12_layRow 7 (some .int) 1 := ⟨⟨jB_at 1360 (by decide +kernel) rfl, jB_at 101 (by decide +kernel) rfl, ⟨by decide +kernel, by decide +kernel, by decide +kernel⟩, by decide⟩, jB_at 1359 (by decide +kernel) rfl, jB_at 70 (by decide +kernel) rfl⟩
theorem mv_X12_laySizes : jmV yX12_laySizes cX12_laySizes 6 none 1 := ⟨⟨jB_at 1234 (by decide +kernel) rfl, jB_at 101 (by decide +kernel) rfl, ⟨by decide +kernel, by decide +kernel, by decide +kernel⟩, by decide⟩, jB_at 1233 (by decide +kernel) rfl, jB_at 46 (by decide +kernel) rfl⟩
theorem mv_X12_layWorsts : jmV yX12_layWorsts cX12_layWorsts 2 none 0 := ⟨⟨jB_at 1455 (by decide +kernel) rfl, jB_at 101 (by decide +kernel) rfl, ⟨by decide +kernel, by decide +kernel, by decide +kernel⟩, by decide⟩, jB_at 1454 (by decide +kernel) rfl, jB_at 85 (by decide +kernel) rfl⟩
theorem mv_X12_linesIn : jmV yX12_linesIn cX12_linesIn 9 (some .int) 1 := ⟨⟨jB_at 1304 (by decide +kernel) rfl, jB_at 101 (by decide +kernel) rfl, ⟨by decide +kernel, by decide +kernel, by decide +kernel⟩, by decide⟩, jB_at 1303 (by decide +kernel) rfl, jB_at 58 (by decide +kernel) rfl⟩
theorem mv_X12_linesInSet : jmV yX12_linesInSet cX12_linesInSet 1 (some .int) 0 := ⟨⟨jB_at 1266 (by decide +kernel) rfl, jB_at 101 (by decide +kernel) rfl, ⟨by decide +kernel, by decide +kernel, by decide +kernel⟩, by decide⟩, jB_at 1265 (by decide +kernel) rfl, jB_at 50 (by decide +kernel) rfl⟩
theorem mv_X12_loopOf : jmV yX12_loopOf cX12_loopOf 6 (some .int) 2 := ⟨⟨jB_at 1404 (by decide +kernel) rfl, jB_at 101 (by decide +kernel) rfl, ⟨by decide +kernel, by decide +kernel, by decide +kernel⟩, by decide⟩, jB_at 1403 (by decide +kernel) rfl, jB_at 79 (by decide +kernel) rfl⟩
theorem mv_X12_mayHold : jmV yX12_mayHold cX12_mayHold 7 (some .boolean) 3 := ⟨⟨jB_at 1201 (by decide +kernel) rfl, jB_at 101 (by decide +kernel) rfl, ⟨by decide +kernel, by decide +kernel, by decide +kernel⟩, by decide⟩, jB_at 1200 (by decide +kernel) rfl, jB_at 44 (by decide +kernel) rfl⟩
theorem mv_X12_most : jmV yX12_most cX12_most 5 (some .int) 2 := ⟨⟨jB_at 1308 (by decide +kernel) rfl, jB_at 101 (by decide +kernel) rfl, ⟨by decide +kernel, by decide +kernel, by decide +kernel⟩, by decide⟩, jB_at 1306 (by decide +kernel) rfl, jB_at 1307 (by decide +kernel) rfl⟩
theorem mv_X12_newestOf : jmV yX12_newestOf cX12_newestOf 3 (some .int) 2 := ⟨⟨jB_at 1282 (by decide +kernel) rfl, jB_at 101 (by decide +kernel) rfl, ⟨by decide +kernel, by decide +kernel, by decide +kernel⟩, by decide⟩, jB_at 1281 (by decide +kernel) rfl, jB_at 54 (by decide +kernel) rfl⟩
theorem mv_X12_nextDigit : jmV yX12_nextDigit cX12_nextDigit 1 (some .int) 0 := ⟨⟨jB_at 1297 (by decide +kernel) rfl, jB_at 101 (by decide +kernel) rfl, ⟨by decide +kernel, by decide +kernel, by decide +kernel⟩, by decide⟩, jB_at 1296 (by decide +kernel) rfl, jB_at 57 (by decide +kernel) rfl⟩
theorem mv_X12_node : jmV yX12_node cX12_node 4 (some .int) 3 := ⟨⟨jB_at 1238 (by decide +kernel) rfl, jB_at 101 (by decide +kernel) rfl, ⟨by decide +kernel, by decide +kernel, by decide +kernel⟩, by decide⟩, jB_at 1236 (by decide +kernel) rfl, jB_at 1237 (by decide +kernel) rfl⟩
theorem mv_X12_olderOf : jmV yX12_olderOf cX12_olderOf 4 (some .int) 2 := ⟨⟨jB_at 1286 (by decide +kernel) rfl, jB_at 101 (by decide +kernel) rfl, ⟨by decide +kernel, by decide +kernel, by decide +kernel⟩, by decide⟩, jB_at 1285 (by decide +kernel) rfl, jB_at 55 (by decide +kernel) rfl⟩
theorem mv_X12_onceIn : jmV yX12_onceIn cX12_onceIn 5 (some .int) 2 := ⟨⟨jB_at 1419 (by decide +kernel) rfl, jB_at 101 (by decide +kernel) rfl, ⟨by decide +kernel, by decide +kernel, by decide +kernel⟩, by decide⟩, jB_at 1418 (by decide +kernel) rfl, jB_at 81 (by decide +kernel) rfl⟩
theorem mv_X12_period : jmV yX12_period cX12_period 4 (some .int) 2 := ⟨⟨jB_at 1439 (by decide +kernel) rfl, jB_at 101 (by decide +kernel) rfl, ⟨by decide +kernel, by decide +kernel, by decide +kernel⟩, by decide⟩, jB_at 1437 (by decide +kernel) rfl, jB_at 1438 (by decide +kernel) rfl⟩
theorem mv_X12_pile : jmV yX12_pile cX12_pile 4 none 3 := ⟨⟨jB_at 1293 (by decide +kernel) rfl, jB_at 101 (by decide +kernel) rfl, ⟨by decide +kernel, by decide +kernel, by decide +kernel⟩, by decide⟩, jB_at 1292 (by decide +kernel) rfl, jB_at 56 (by decide +kernel) rfl⟩
theorem mv_X12_program : jmV yX12_program cX12_program 3 (some .int) 1 := ⟨⟨jB_at 1227 (by decide +kernel) rfl, jB_at 101 (by decide +kernel) rfl, ⟨by decide +kernel, by decide +kernel, by decide +kernel⟩, by decide⟩, jB_at 1225 (by decide +kernel) rfl, jB_at 1226 (by decide +kernel) rfl⟩
theorem mv_X12_restore : jmV yX12_restore cX12_restore 4 (some .int) 1 := ⟨⟨jB_at 1475 (by decide +kernel) rfl, jB_at 101 (by decide +kernel) rfl, ⟨by decide +kernel, by decide +kernel, by decide +kernel⟩, by decide⟩, jB_at 1473 (by decide +kernel) rfl, jB_at 1474 (by decide +kernel) rfl⟩
theorem mv_X12_roomOf : jmV yX12_roomOf cX12_roomOf 4 (some .int) 1 := ⟨⟨jB_at 1278 (by decide +kernel) rfl, jB_at 101 (by decide +kernel) rfl, ⟨by decide +kernel, by decide +kernel, by decide +kernel⟩, by decide⟩, jB_at 1277 (by decide +kernel) rfl, jB_at 53 (by decide +kernel) rfl⟩
theorem mv_X12_row : jmV yX12_row cX12_row 4 (some .int) 2 := ⟨⟨jB_at 1356 (by decide +kernel) rfl, jB_at 101 (by decide +kernel) rfl, ⟨by decide +kernel, by decide +kernel, by decide +kernel⟩, by decide⟩, jB_at 1354 (by decide +kernel) rfl, jB_at 1355 (by decide +kernel) rfl⟩
theorem mv_X12_run : jmV yX12_run cX12_run 10 (some .int) 2 := ⟨⟨jB_at 1254 (by decide +kernel) rfl, jB_at 101 (by decide +kernel) rfl, ⟨by decide +kernel, by decide +kernel, by decide +kernel⟩, by decide⟩, jB_at 1252 (by decide +kernel) rfl, jB_at 1253 (by decide +kernel) rfl⟩
theorem mv_X12_say : jmV yX12_say cX12_say 2 (some .int) 1 := ⟨⟨jB_at 1205 (by decide +kernel) rfl, jB_at 101 (by decide +kernel) rfl, ⟨by decide +kernel, by decide +kernel, by decide +kernel⟩, by decide⟩, jB_at 1203 (by decide +kernel) rfl, jB_at 1204 (by decide +kernel) rfl⟩
theorem mv_X12_setOf : jmV yX12_setOf cX12_setOf 2 (some .int) 1 := ⟨⟨jB_at 1274 (by decide +kernel) rfl, jB_at 101 (by decide +kernel) rfl, ⟨by decide +kernel, by decide +kernel, by decide +kernel⟩, by decide⟩, jB_at 1273 (by decide +kernel) rfl, jB_at 52 (by decide +kernel) rfl⟩
theorem mv_X12_shelf : jmV yX12_shelf cX12_shelf 5 (some .int) 2 := ⟨⟨jB_at 1194 (by decide +kernel) rfl, jB_at 101 (by decide +kernel) rfl, ⟨by decide +kernel, by decide +kernel, by decide +kernel⟩, by decide⟩, jB_at 1192 (by decide +kernel) rfl, jB_at 1193 (by decide +kernel) rfl⟩
theorem mv_X12_sort : jmV yX12_sort cX12_sort 3 (some .int) 2 := ⟨⟨jB_at 1396 (by decide +kernel) rfl, jB_at 101 (by decide +kernel) rfl, ⟨by decide +kernel, by decide +kernel, by decide +kernel⟩, by decide⟩, jB_at 1394 (by decide +kernel) rfl, jB_at 1395 (by decide +kernel) rfl⟩
theorem mv_X12_sortOf : jmV yX12_sortOf cX12_sortOf 5 (some .int) 2 := ⟨⟨jB_at 1400 (by decide +kernel) rfl, jB_at 101 (by decide +kernel) rfl, ⟨by decide +kernel, by decide +kernel, by decide +kernel⟩, by decide⟩, jB_at 1399 (by decide +kernel) rfl, jB_at 78 (by decide +kernel) rfl⟩
theorem mv_X12_states : jmV yX12_states cX12_states 3 (some .int) 0 := ⟨⟨jB_at 1316 (by decide +kernel) rfl, jB_at 101 (by decide +kernel) rfl, ⟨by decide +kernel, by decide +kernel, by decide +kernel⟩, by decide⟩, jB_at 1315 (by decide +kernel) rfl, jB_at 60 (by decide +kernel) rfl⟩
theorem mv_X12_statesOfSet : jmV yX12_statesOfSet cX12_statesOfSet 2 (some .int) 0 := ⟨⟨jB_at 1270 (by decide +kernel) rfl, jB_at 101 (by decide +kernel) rfl, ⟨by decide +kernel, by decide +kernel, by decide +kernel⟩, by decide⟩, jB_at 1269 (by decide +kernel) rfl, jB_at 51 (by decide +kernel) rfl⟩
theorem mv_X12_swapAges : jmV yX12_swapAges cX12_swapAges 4 none 1 := ⟨⟨jB_at 1388 (by decide +kernel) rfl, jB_at 101 (by decide +kernel) rfl, ⟨by decide +kernel, by decide +kernel, by decide +kernel⟩, by decide⟩, jB_at 1387 (by decide +kernel) rfl, jB_at 76 (by decide +kernel) rfl⟩
theorem mv_X12_told : jmV yX12_told cX12_told 2 (some .int) 1 := ⟨⟨jB_at 1479 (by decide +kernel) rfl, jB_at 101 (by decide +kernel) rfl, ⟨by decide +kernel, by decide +kernel, by decide +kernel⟩, by decide⟩, jB_at 1477 (by decide +kernel) rfl, jB_at 1478 (by decide +kernel) rfl⟩
theorem mv_X12_wipe : jmV yX12_wipe cX12_wipe 2 (some .int) 0 := ⟨⟨jB_at 1209 (by decide +kernel) rfl, jB_at 101 (by decide +kernel) rfl, ⟨by decide +kernel, by decide +kernel, by decide +kernel⟩, by decide⟩, jB_at 1207 (by decide +kernel) rfl, jB_at 1208 (by decide +kernel) rfl⟩
theorem mv_X12_work : jmV yX12_work cX12_work 4 none 2 := ⟨⟨jB_at 1312 (by decide +kernel) rfl, jB_at 101 (by decide +kernel) rfl, ⟨by decide +kernel, by decide +kernel, by decide +kernel⟩, by decide⟩, jB_at 1311 (by decide +kernel) rfl, jB_at 59 (by decide +kernel) rfl⟩
theorem mv_X12_worstOf : jmV yX12_worstOf cX12_worstOf 2 (some .int) 1 := ⟨⟨jB_at 1364 (by decide +kernel) rfl, jB_at 101 (by decide +kernel) rfl, ⟨by decide +kernel, by decide +kernel, by decide +kernel⟩, by decide⟩, jB_at 1363 (by decide +kernel) rfl, jB_at 71 (by decide +kernel) rfl⟩
theorem mv_X1_addDigit : jmV yX1_addDigit cX1_addDigit 2 (some .boolean) 1 := ⟨⟨jB_at 573 (by decide +kernel) rfl, jB_at 90 (by decide +kernel) rfl, ⟨by decide +kernel, by decide +kernel, by decide +kernel⟩, by decide⟩, jB_at 571 (by decide +kernel) rfl, jB_at 572 (by decide +kernel) rfl⟩
theorem mv_X1_copyFrom : jmV yX1_copyFrom cX1_copyFrom 4 none 1 := ⟨⟨jB_at 1067 (by decide +kernel) rfl, jB_at 90 (by decide +kernel) rfl, ⟨by decide +kernel, by decide +kernel, by decide +kernel⟩, by decide⟩, jB_at 1065 (by decide +kernel) rfl, jB_at 1066 (by decide +kernel) rfl⟩
theorem mv_X1_digitAt : jmV yX1_digitAt cX1_digitAt 2 (some .int) 1 := ⟨⟨jB_at 658 (by decide +kernel) rfl, jB_at 90 (by decide +kernel) rfl, ⟨by decide +kernel, by decide +kernel, by decide +kernel⟩, by decide⟩, jB_at 656 (by decide +kernel) rfl, jB_at 657 (by decide +kernel) rfl⟩
theorem mv_X1_freeMates : jmV yX1_freeMates cX1_freeMates 3 (some .int) 1 := ⟨⟨jB_at 872 (by decide +kernel) rfl, jB_at 90 (by decide +kernel) rfl, ⟨by decide +kernel, by decide +kernel, by decide +kernel⟩, by decide⟩, jB_at 870 (by decide +kernel) rfl, jB_at 871 (by decide +kernel) rfl⟩
theorem mv_X1_holds : jmV yX1_holds cX1_holds 2 (some .boolean) 1 := ⟨⟨jB_at 832 (by decide +kernel) rfl, jB_at 90 (by decide +kernel) rfl, ⟨by decide +kernel, by decide +kernel, by decide +kernel⟩, by decide⟩, jB_at 830 (by decide +kernel) rfl, jB_at 831 (by decide +kernel) rfl⟩
theorem mv_X1_isTask : jmV yX1_isTask cX1_isTask 2 (some .boolean) 1 := ⟨⟨jB_at 1006 (by decide +kernel) rfl, jB_at 90 (by decide +kernel) rfl, ⟨by decide +kernel, by decide +kernel, by decide +kernel⟩, by decide⟩, jB_at 1004 (by decide +kernel) rfl, jB_at 1005 (by decide +kernel) rfl⟩
theorem mv_X1_periodOf : jmV yX1_periodOf cX1_periodOf 2 (some .int) 1 := ⟨⟨jB_at 994 (by decide +kernel) rfl, jB_at 90 (by decide +kernel) rfl, ⟨by decide +kernel, by decide +kernel, by decide +kernel⟩, by decide⟩, jB_at 992 (by decide +kernel) rfl, jB_at 993 (by decide +kernel) rfl⟩
theorem mv_X1_roomFor : jmV yX1_roomFor cX1_roomFor 4 (some .int) 1 := ⟨⟨jB_at 837 (by decide +kernel) rfl, jB_at 90 (by decide +kernel) rfl, ⟨by decide +kernel, by decide +kernel, by decide +kernel⟩, by decide⟩, jB_at 835 (by decide +kernel) rfl, jB_at 836 (by decide +kernel) rfl⟩
theorem mv_X1_set : jmV yX1_set cX1_set 3 none 2 := ⟨⟨jB_at 495 (by decide +kernel) rfl, jB_at 90 (by decide +kernel) rfl, ⟨by decide +kernel, by decide +kernel, by decide +kernel⟩, by decide⟩, jB_at 493 (by decide +kernel) rfl, jB_at 494 (by decide +kernel) rfl⟩
theorem mv_X1_setPeriod : jmV yX1_setPeriod cX1_setPeriod 3 none 2 := ⟨⟨jB_at 998 (by decide +kernel) rfl, jB_at 90 (by decide +kernel) rfl, ⟨by decide +kernel, by decide +kernel, by decide +kernel⟩, by decide⟩, jB_at 996 (by decide +kernel) rfl, jB_at 997 (by decide +kernel) rfl⟩
theorem mv_X1_setting : jmV yX1_setting cX1_setting 2 (some .int) 1 := ⟨⟨jB_at 479 (by decide +kernel) rfl, jB_at 90 (by decide +kernel) rfl, ⟨by decide +kernel, by decide +kernel, by decide +kernel⟩, by decide⟩, jB_at 477 (by decide +kernel) rfl, jB_at 478 (by decide +kernel) rfl⟩
theorem mv_X1_textOf : jmV yX1_textOf cX1_textOf 2 (some (.object "LongestRuns$Text")) 1 := ⟨⟨jB_at 238 (by decide +kernel) rfl, jB_at 90 (by decide +kernel) rfl, ⟨by decide +kernel, by decide +kernel, by decide +kernel⟩, by decide⟩, jB_at 236 (by decide +kernel) rfl, jB_at 237 (by decide +kernel) rfl⟩
theorem mv_X2_closer : jmV yX2_closer cX2_closer 4 (some .int) 0 := ⟨⟨jB_at 956 (by decide +kernel) rfl, jB_at 99 (by decide +kernel) rfl, ⟨by decide +kernel, by decide +kernel, by decide +kernel⟩, by decide⟩, jB_at 954 (by decide +kernel) rfl, jB_at 955 (by decide +kernel) rfl⟩
theorem mv_X2_costAt : jmV yX2_costAt cX2_costAt 2 (some .int) 1 := ⟨⟨jB_at 942 (by decide +kernel) rfl, jB_at 99 (by decide +kernel) rfl, ⟨by decide +kernel, by decide +kernel, by decide +kernel⟩, by decide⟩, jB_at 941 (by decide +kernel) rfl, jB_at 36 (by decide +kernel) rfl⟩
theorem mv_X2_costOf : jmV yX2_costOf cX2_costOf 3 (some .int) 1 := ⟨⟨jB_at 933 (by decide +kernel) rfl, jB_at 99 (by decide +kernel) rfl, ⟨by decide +kernel, by decide +kernel, by decide +kernel⟩, by decide⟩, jB_at 932 (by decide +kernel) rfl, jB_at 34 (by decide +kernel) rfl⟩
theorem mv_X2_costOfFetch : jmV yX2_costOfFetch cX2_costOfFetch 3 (some .int) 2 := ⟨⟨jB_at 952 (by decide +kernel) rfl, jB_at 99 (by decide +kernel) rfl, ⟨by decide +kernel, by decide +kernel, by decide +kernel⟩, by decide⟩, jB_at 951 (by decide +kernel) rfl, jB_at 37 (by decide +kernel) rfl⟩
theorem mv_X2_costOfNode : jmV yX2_costOfNode cX2_costOfNode 5 (some .int) 2 := ⟨⟨jB_at 937 (by decide +kernel) rfl, jB_at 99 (by decide +kernel) rfl, ⟨by decide +kernel, by decide +kernel, by decide +kernel⟩, by decide⟩, jB_at 936 (by decide +kernel) rfl, jB_at 35 (by decide +kernel) rfl⟩
theorem mv_X2_loopThatKeeps : jmV yX2_loopThatKeeps cX2_loopThatKeeps 5 (some .int) 1 := ⟨⟨jB_at 908 (by decide +kernel) rfl, jB_at 99 (by decide +kernel) rfl, ⟨by decide +kernel, by decide +kernel, by decide +kernel⟩, by decide⟩, jB_at 907 (by decide +kernel) rfl, jB_at 33 (by decide +kernel) rfl⟩
theorem mv_X2_onceLinesOf : jmV yX2_onceLinesOf cX2_onceLinesOf 5 (some .int) 1 := ⟨⟨jB_at 960 (by decide +kernel) rfl, jB_at 99 (by decide +kernel) rfl, ⟨by decide +kernel, by decide +kernel, by decide +kernel⟩, by decide⟩, jB_at 959 (by decide +kernel) rfl, jB_at 38 (by decide +kernel) rfl⟩
theorem mv_X2_plain : jmV yX2_plain cX2_plain 1 (some .int) 0 := ⟨⟨jB_at 928 (by decide +kernel) rfl, jB_at 99 (by decide +kernel) rfl, ⟨by decide +kernel, by decide +kernel, by decide +kernel⟩, by decide⟩, jB_at 926 (by decide +kernel) rfl, jB_at 927 (by decide +kernel) rfl⟩
theorem mv_X2_sortAt : jmV yX2_sortAt cX2_sortAt 2 (some .int) 1 := ⟨⟨jB_at 920 (by decide +kernel) rfl, jB_at 99 (by decide +kernel) rfl, ⟨by decide +kernel, by decide +kernel, by decide +kernel⟩, by decide⟩, jB_at 918 (by decide +kernel) rfl, jB_at 919 (by decide +kernel) rfl⟩
theorem mv_X2_sortOf : jmV yX2_sortOf cX2_sortOf 4 (some .int) 1 := ⟨⟨jB_at 899 (by decide +kernel) rfl, jB_at 99 (by decide +kernel) rfl, ⟨by decide +kernel, by decide +kernel, by decide +kernel⟩, by decide⟩, jB_at 898 (by decide +kernel) rfl, jB_at 32 (by decide +kernel) rfl⟩
theorem mv_X2_study : jmV yX2_study cX2_study 3 none 1 := ⟨⟨jB_at 893 (by decide +kernel) rfl, jB_at 99 (by decide +kernel) rfl, ⟨by decide +kernel, by decide +kernel, by decide +kernel⟩, by decide⟩, jB_at 891 (by decide +kernel) rfl, jB_at 892 (by decide +kernel) rfl⟩
theorem mv_X2_timesComeTo : jmV yX2_timesComeTo cX2_timesComeTo 4 (some .int) 1 := ⟨⟨jB_at 965 (by decide +kernel) rfl, jB_at 99 (by decide +kernel) rfl, ⟨by decide +kernel, by decide +kernel, by decide +kernel⟩, by decide⟩, jB_at 964 (by decide +kernel) rfl, jB_at 39 (by decide +kernel) rfl⟩
theorem mv_X3_add : jmV yX3_add cX3_add 2 (some .boolean) 1 := ⟨⟨jB_at 504 (by decide +kernel) rfl, jB_at 92 (by decide +kernel) rfl, ⟨by decide +kernel, by decide +kernel, by decide +kernel⟩, by decide⟩, jB_at 502 (by decide +kernel) rfl, jB_at 503 (by decide +kernel) rfl⟩
theorem mv_X3_firstFault : jmV yX3_firstFault cX3_firstFault 6 (some .int) 0 := ⟨⟨jB_at 516 (by decide +kernel) rfl, jB_at 92 (by decide +kernel) rfl, ⟨by decide +kernel, by decide +kernel, by decide +kernel⟩, by decide⟩, jB_at 514 (by decide +kernel) rfl, jB_at 515 (by decide +kernel) rfl⟩
theorem mv_X4_add : jmV yX4_add cX4_add 5 none 3 := ⟨⟨jB_at 698 (by decide +kernel) rfl, jB_at 96 (by decide +kernel) rfl, ⟨by decide +kernel, by decide +kernel, by decide +kernel⟩, by decide⟩, jB_at 696 (by decide +kernel) rfl, jB_at 697 (by decide +kernel) rfl⟩
theorem mv_X4_addAll : jmV yX4_addAll cX4_addAll 4 none 2 := ⟨⟨jB_at 717 (by decide +kernel) rfl, jB_at 96 (by decide +kernel) rfl, ⟨by decide +kernel, by decide +kernel, by decide +kernel⟩, by decide⟩, jB_at 715 (by decide +kernel) rfl, jB_at 716 (by decide +kernel) rfl⟩
theorem mv_X4_clear : jmV yX4_clear cX4_clear 3 none 0 := ⟨⟨jB_at 694 (by decide +kernel) rfl, jB_at 96 (by decide +kernel) rfl, ⟨by decide +kernel, by decide +kernel, by decide +kernel⟩, by decide⟩, jB_at 692 (by decide +kernel) rfl, jB_at 693 (by decide +kernel) rfl⟩
theorem mv_X4_costAt : jmV yX4_costAt cX4_costAt 2 (some .int) 1 := ⟨⟨jB_at 725 (by decide +kernel) rfl, jB_at 96 (by decide +kernel) rfl, ⟨by decide +kernel, by decide +kernel, by decide +kernel⟩, by decide⟩, jB_at 723 (by decide +kernel) rfl, jB_at 724 (by decide +kernel) rfl⟩
theorem mv_X4_shelfAt : jmV yX4_shelfAt cX4_shelfAt 2 (some .int) 1 := ⟨⟨jB_at 721 (by decide +kernel) rfl, jB_at 96 (by decide +kernel) rfl, ⟨by decide +kernel, by decide +kernel, by decide +kernel⟩, by decide⟩, jB_at 719 (by decide +kernel) rfl, jB_at 720 (by decide +kernel) rfl⟩
theorem mv_X5_aheadRow : jmV yX5_aheadRow cX5_aheadRow 5 (some (.array .int)) 3 := ⟨⟨jB_at 769 (by decide +kernel) rfl, jB_at 97 (by decide +kernel) rfl, ⟨by decide +kernel, by decide +kernel, by decide +kernel⟩, by decide⟩, jB_at 768 (by decide +kernel) rfl, jB_at 16 (by decide +kernel) rfl⟩
theorem mv_X5_copy : jmV yX5_copy cX5_copy 4 none 2 := ⟨⟨jB_at 789 (by decide +kernel) rfl, jB_at 97 (by decide +kernel) rfl, ⟨by decide +kernel, by decide +kernel, by decide +kernel⟩, by decide⟩, jB_at 788 (by decide +kernel) rfl, jB_at 20 (by decide +kernel) rfl⟩
theorem mv_X5_costHere : jmV yX5_costHere cX5_costHere 2 (some .int) 1 := ⟨⟨jB_at 803 (by decide +kernel) rfl, jB_at 97 (by decide +kernel) rfl, ⟨by decide +kernel, by decide +kernel, by decide +kernel⟩, by decide⟩, jB_at 802 (by decide +kernel) rfl, jB_at 23 (by decide +kernel) rfl⟩
theorem mv_X5_digitAt : jmV yX5_digitAt cX5_digitAt 2 (some .int) 1 := ⟨⟨jB_at 815 (by decide +kernel) rfl, jB_at 97 (by decide +kernel) rfl, ⟨by decide +kernel, by decide +kernel, by decide +kernel⟩, by decide⟩, jB_at 813 (by decide +kernel) rfl, jB_at 814 (by decide +kernel) rfl⟩
theorem mv_X5_find : jmV yX5_find cX5_find 3 none 1 := ⟨⟨jB_at 753 (by decide +kernel) rfl, jB_at 97 (by decide +kernel) rfl, ⟨by decide +kernel, by decide +kernel, by decide +kernel⟩, by decide⟩, jB_at 751 (by decide +kernel) rfl, jB_at 752 (by decide +kernel) rfl⟩
theorem mv_X5_look : jmV yX5_look cX5_look 8 none 4 := ⟨⟨jB_at 774 (by decide +kernel) rfl, jB_at 97 (by decide +kernel) rfl, ⟨by decide +kernel, by decide +kernel, by decide +kernel⟩, by decide⟩, jB_at 773 (by decide +kernel) rfl, jB_at 17 (by decide +kernel) rfl⟩
theorem mv_X5_lookFetch : jmV yX5_lookFetch cX5_lookFetch 7 none 3 := ⟨⟨jB_at 794 (by decide +kernel) rfl, jB_at 97 (by decide +kernel) rfl, ⟨by decide +kernel, by decide +kernel, by decide +kernel⟩, by decide⟩, jB_at 793 (by decide +kernel) rfl, jB_at 21 (by decide +kernel) rfl⟩
theorem mv_X5_lookLoop : jmV yX5_lookLoop cX5_lookLoop 8 none 4 := ⟨⟨jB_at 784 (by decide +kernel) rfl, jB_at 97 (by decide +kernel) rfl, ⟨by decide +kernel, by decide +kernel, by decide +kernel⟩, by decide⟩, jB_at 783 (by decide +kernel) rfl, jB_at 19 (by decide +kernel) rfl⟩
theorem mv_X5_put : jmV yX5_put cX5_put 2 none 1 := ⟨⟨jB_at 807 (by decide +kernel) rfl, jB_at 97 (by decide +kernel) rfl, ⟨by decide +kernel, by decide +kernel, by decide +kernel⟩, by decide⟩, jB_at 806 (by decide +kernel) rfl, jB_at 24 (by decide +kernel) rfl⟩
theorem mv_X5_raise : jmV yX5_raise cX5_raise 4 none 2 := ⟨⟨jB_at 779 (by decide +kernel) rfl, jB_at 97 (by decide +kernel) rfl, ⟨by decide +kernel, by decide +kernel, by decide +kernel⟩, by decide⟩, jB_at 778 (by decide +kernel) rfl, jB_at 18 (by decide +kernel) rfl⟩
theorem mv_X5_walk : jmV yX5_walk cX5_walk 4 none 3 := ⟨⟨jB_at 760 (by decide +kernel) rfl, jB_at 97 (by decide +kernel) rfl, ⟨by decide +kernel, by decide +kernel, by decide +kernel⟩, by decide⟩, jB_at 759 (by decide +kernel) rfl, jB_at 14 (by decide +kernel) rfl⟩
theorem mv_X5_walkBoth : jmV yX5_walkBoth cX5_walkBoth 5 none 3 := ⟨⟨jB_at 765 (by decide +kernel) rfl, jB_at 97 (by decide +kernel) rfl, ⟨by decide +kernel, by decide +kernel, by decide +kernel⟩, by decide⟩, jB_at 764 (by decide +kernel) rfl, jB_at 15 (by decide +kernel) rfl⟩
theorem mv_X5_walkLoop : jmV yX5_walkLoop cX5_walkLoop 11 none 3 := ⟨⟨jB_at 811 (by decide +kernel) rfl, jB_at 97 (by decide +kernel) rfl, ⟨by decide +kernel, by decide +kernel, by decide +kernel⟩, by decide⟩, jB_at 810 (by decide +kernel) rfl, jB_at 25 (by decide +kernel) rfl⟩
theorem mv_X5_walkOne : jmV yX5_walkOne cX5_walkOne 7 none 3 := ⟨⟨jB_at 799 (by decide +kernel) rfl, jB_at 97 (by decide +kernel) rfl, ⟨by decide +kernel, by decide +kernel, by decide +kernel⟩, by decide⟩, jB_at 798 (by decide +kernel) rfl, jB_at 22 (by decide +kernel) rfl⟩
theorem mv_X6_fetch : jmV yX6_fetch cX6_fetch 4 none 1 := ⟨⟨jB_at 667 (by decide +kernel) rfl, jB_at 94 (by decide +kernel) rfl, ⟨by decide +kernel, by decide +kernel, by decide +kernel⟩, by decide⟩, jB_at 666 (by decide +kernel) rfl, jB_at 9 (by decide +kernel) rfl⟩
theorem mv_X6_go : jmV yX6_go cX6_go 7 none 2 := ⟨⟨jB_at 632 (by decide +kernel) rfl, jB_at 94 (by decide +kernel) rfl, ⟨by decide +kernel, by decide +kernel, by decide +kernel⟩, by decide⟩, jB_at 631 (by decide +kernel) rfl, jB_at 6 (by decide +kernel) rfl⟩
theorem mv_X6_goThrough : jmV yX6_goThrough cX6_goThrough 2 none 1 := ⟨⟨jB_at 585 (by decide +kernel) rfl, jB_at 94 (by decide +kernel) rfl, ⟨by decide +kernel, by decide +kernel, by decide +kernel⟩, by decide⟩, jB_at 583 (by decide +kernel) rfl, jB_at 584 (by decide +kernel) rfl⟩
theorem mv_X6_howOften : jmV yX6_howOften cX6_howOften 3 (some .int) 1 := ⟨⟨jB_at 650 (by decide +kernel) rfl, jB_at 94 (by decide +kernel) rfl, ⟨by decide +kernel, by decide +kernel, by decide +kernel⟩, by decide⟩, jB_at 649 (by decide +kernel) rfl, jB_at 7 (by decide +kernel) rfl⟩
theorem mv_X6_linesThere : jmV yX6_linesThere cX6_linesThere 1 (some .int) 0 := ⟨⟨jB_at 675 (by decide +kernel) rfl, jB_at 94 (by decide +kernel) rfl, ⟨by decide +kernel, by decide +kernel, by decide +kernel⟩, by decide⟩, jB_at 673 (by decide +kernel) rfl, jB_at 674 (by decide +kernel) rfl⟩
theorem mv_X6_nextDigit : jmV yX6_nextDigit cX6_nextDigit 2 (some .int) 0 := ⟨⟨jB_at 654 (by decide +kernel) rfl, jB_at 94 (by decide +kernel) rfl, ⟨by decide +kernel, by decide +kernel, by decide +kernel⟩, by decide⟩, jB_at 653 (by decide +kernel) rfl, jB_at 8 (by decide +kernel) rfl⟩
theorem mv_X7_enrol : jmV yX7_enrol cX7_enrol 3 none 2 := ⟨⟨jB_at 602 (by decide +kernel) rfl, jB_at 93 (by decide +kernel) rfl, ⟨by decide +kernel, by decide +kernel, by decide +kernel⟩, by decide⟩, jB_at 601 (by decide +kernel) rfl, jB_at 0 (by decide +kernel) rfl⟩
theorem mv_X7_fillMoves : jmV yX7_fillMoves cX7_fillMoves 6 none 1 := ⟨⟨jB_at 612 (by decide +kernel) rfl, jB_at 93 (by decide +kernel) rfl, ⟨by decide +kernel, by decide +kernel, by decide +kernel⟩, by decide⟩, jB_at 611 (by decide +kernel) rfl, jB_at 1 (by decide +kernel) rfl⟩
theorem mv_X7_lay : jmV yX7_lay cX7_lay 5 none 3 := ⟨⟨jB_at 594 (by decide +kernel) rfl, jB_at 93 (by decide +kernel) rfl, ⟨by decide +kernel, by decide +kernel, by decide +kernel⟩, by decide⟩, jB_at 592 (by decide +kernel) rfl, jB_at 593 (by decide +kernel) rfl⟩
theorem mv_X7_lies : jmV yX7_lies cX7_lies 5 (some .boolean) 2 := ⟨⟨jB_at 624 (by decide +kernel) rfl, jB_at 93 (by decide +kernel) rfl, ⟨by decide +kernel, by decide +kernel, by decide +kernel⟩, by decide⟩, jB_at 623 (by decide +kernel) rfl, jB_at 4 (by decide +kernel) rfl⟩
theorem mv_X7_linesOn : jmV yX7_linesOn cX7_linesOn 4 (some .int) 1 := ⟨⟨jB_at 679 (by decide +kernel) rfl, jB_at 93 (by decide +kernel) rfl, ⟨by decide +kernel, by decide +kernel, by decide +kernel⟩, by decide⟩, jB_at 677 (by decide +kernel) rfl, jB_at 678 (by decide +kernel) rfl⟩
theorem mv_X7_newestOf : jmV yX7_newestOf cX7_newestOf 4 (some .int) 2 := ⟨⟨jB_at 620 (by decide +kernel) rfl, jB_at 93 (by decide +kernel) rfl, ⟨by decide +kernel, by decide +kernel, by decide +kernel⟩, by decide⟩, jB_at 619 (by decide +kernel) rfl, jB_at 3 (by decide +kernel) rfl⟩
theorem mv_X7_nextLook : jmV yX7_nextLook cX7_nextLook 6 (some .int) 2 := ⟨⟨jB_at 616 (by decide +kernel) rfl, jB_at 93 (by decide +kernel) rfl, ⟨by decide +kernel, by decide +kernel, by decide +kernel⟩, by decide⟩, jB_at 615 (by decide +kernel) rfl, jB_at 2 (by decide +kernel) rfl⟩
theorem mv_X7_olderOf : jmV yX7_olderOf cX7_olderOf 4 (some .int) 2 := ⟨⟨jB_at 628 (by decide +kernel) rfl, jB_at 93 (by decide +kernel) rfl, ⟨by decide +kernel, by decide +kernel, by decide +kernel⟩, by decide⟩, jB_at 627 (by decide +kernel) rfl, jB_at 5 (by decide +kernel) rfl⟩
theorem mv_X7_stepOf : jmV yX7_stepOf cX7_stepOf 6 (some .int) 2 := ⟨⟨jB_at 671 (by decide +kernel) rfl, jB_at 93 (by decide +kernel) rfl, ⟨by decide +kernel, by decide +kernel, by decide +kernel⟩, by decide⟩, jB_at 669 (by decide +kernel) rfl, jB_at 670 (by decide +kernel) rfl⟩
theorem mv_X8_betweenAt : jmV yX8_betweenAt cX8_betweenAt 3 (some (.object "LongestRuns$Reached")) 1 := ⟨⟨jB_at 712 (by decide +kernel) rfl, jB_at 95 (by decide +kernel) rfl, ⟨by decide +kernel, by decide +kernel, by decide +kernel⟩, by decide⟩, jB_at 711 (by decide +kernel) rfl, jB_at 11 (by decide +kernel) rfl⟩
theorem mv_X8_compare : jmV yX8_compare cX8_compare 4 none 2 := ⟨⟨jB_at 980 (by decide +kernel) rfl, jB_at 95 (by decide +kernel) rfl, ⟨by decide +kernel, by decide +kernel, by decide +kernel⟩, by decide⟩, jB_at 979 (by decide +kernel) rfl, jB_at 40 (by decide +kernel) rfl⟩
theorem mv_X8_costOf : jmV yX8_costOf cX8_costOf 7 (some .int) 4 := ⟨⟨jB_at 688 (by decide +kernel) rfl, jB_at 95 (by decide +kernel) rfl, ⟨by decide +kernel, by decide +kernel, by decide +kernel⟩, by decide⟩, jB_at 686 (by decide +kernel) rfl, jB_at 687 (by decide +kernel) rfl⟩
theorem mv_X8_ends : jmV yX8_ends cX8_ends 1 (some .int) 0 := ⟨⟨jB_at 745 (by decide +kernel) rfl, jB_at 95 (by decide +kernel) rfl, ⟨by decide +kernel, by decide +kernel, by decide +kernel⟩, by decide⟩, jB_at 743 (by decide +kernel) rfl, jB_at 744 (by decide +kernel) rfl⟩
theorem mv_X8_fetch : jmV yX8_fetch cX8_fetch 7 none 3 := ⟨⟨jB_at 736 (by decide +kernel) rfl, jB_at 95 (by decide +kernel) rfl, ⟨by decide +kernel, by decide +kernel, by decide +kernel⟩, by decide⟩, jB_at 735 (by decide +kernel) rfl, jB_at 13 (by decide +kernel) rfl⟩
theorem mv_X8_flow : jmV yX8_flow cX8_flow 8 none 4 := ⟨⟨jB_at 706 (by decide +kernel) rfl, jB_at 95 (by decide +kernel) rfl, ⟨by decide +kernel, by decide +kernel, by decide +kernel⟩, by decide⟩, jB_at 705 (by decide +kernel) rfl, jB_at 10 (by decide +kernel) rfl⟩
theorem mv_X8_holdFast : jmV yX8_holdFast cX8_holdFast 5 none 1 := ⟨⟨jB_at 973 (by decide +kernel) rfl, jB_at 95 (by decide +kernel) rfl, ⟨by decide +kernel, by decide +kernel, by decide +kernel⟩, by decide⟩, jB_at 971 (by decide +kernel) rfl, jB_at 972 (by decide +kernel) rfl⟩
theorem mv_X8_repeat : jmV yX8_repeat cX8_repeat 8 none 4 := ⟨⟨jB_at 730 (by decide +kernel) rfl, jB_at 95 (by decide +kernel) rfl, ⟨by decide +kernel, by decide +kernel, by decide +kernel⟩, by decide⟩, jB_at 729 (by decide +kernel) rfl, jB_at 12 (by decide +kernel) rfl⟩
theorem mv_X9_breakCost : jmV yX9_breakCost cX9_breakCost 10 (some .int) 3 := ⟨⟨jB_at 1011 (by decide +kernel) rfl, jB_at 100 (by decide +kernel) rfl, ⟨by decide +kernel, by decide +kernel, by decide +kernel⟩, by decide⟩, jB_at 1009 (by decide +kernel) rfl, jB_at 1010 (by decide +kernel) rfl⟩
theorem mv_X9_greatestMiss : jmV yX9_greatestMiss cX9_greatestMiss 5 (some .int) 0 := ⟨⟨jB_at 1053 (by decide +kernel) rfl, jB_at 100 (by decide +kernel) rfl, ⟨by decide +kernel, by decide +kernel, by decide +kernel⟩, by decide⟩, jB_at 1051 (by decide +kernel) rfl, jB_at 1052 (by decide +kernel) rfl⟩
theorem mv_X9_lateOnes : jmV yX9_lateOnes cX9_lateOnes 3 (some .int) 0 := ⟨⟨jB_at 1048 (by decide +kernel) rfl, jB_at 100 (by decide +kernel) rfl, ⟨by decide +kernel, by decide +kernel, by decide +kernel⟩, by decide⟩, jB_at 1046 (by decide +kernel) rfl, jB_at 1047 (by decide +kernel) rfl⟩
theorem mv_X9_timeOf : jmV yX9_timeOf cX9_timeOf 6 (some .int) 1 := ⟨⟨jB_at 1030 (by decide +kernel) rfl, jB_at 100 (by decide +kernel) rfl, ⟨by decide +kernel, by decide +kernel, by decide +kernel⟩, by decide⟩, jB_at 1028 (by decide +kernel) rfl, jB_at 1029 (by decide +kernel) rfl⟩
theorem mv_X9_timeWithBreaks : jmV yX9_timeWithBreaks cX9_timeWithBreaks 7 (some .int) 2 := ⟨⟨jB_at 1039 (by decide +kernel) rfl, jB_at 100 (by decide +kernel) rfl, ⟨by decide +kernel, by decide +kernel, by decide +kernel⟩, by decide⟩, jB_at 1038 (by decide +kernel) rfl, jB_at 42 (by decide +kernel) rfl⟩
theorem mv_X9_weigh : jmV yX9_weigh cX9_weigh 3 none 1 := ⟨⟨jB_at 1024 (by decide +kernel) rfl, jB_at 100 (by decide +kernel) rfl, ⟨by decide +kernel, by decide +kernel, by decide +kernel⟩, by decide⟩, jB_at 1022 (by decide +kernel) rfl, jB_at 1023 (by decide +kernel) rfl⟩
theorem mv_X9_worstOf : jmV yX9_worstOf cX9_worstOf 2 (some .int) 1 := ⟨⟨jB_at 1035 (by decide +kernel) rfl, jB_at 100 (by decide +kernel) rfl, ⟨by decide +kernel, by decide +kernel, by decide +kernel⟩, by decide⟩, jB_at 1034 (by decide +kernel) rfl, jB_at 41 (by decide +kernel) rfl⟩
theorem ms_J6_bitCount_0f7a4 : jmS yJ6_bitCount_0f7a4 cJ6_bitCount_0f7a4 1 (some .int) 1 := ⟨⟨jB_at 488 (by decide +kernel) rfl, jB_at 102 (by decide +kernel) rfl, ⟨by decide +kernel, by decide +kernel, by decide +kernel⟩, by decide⟩, jB_at 487 (by decide +kernel) rfl⟩
theorem ms_J9_max_7cf53 : jmS yJ9_max_7cf53 cJ9_max_7cf53 2 (some .int) 2 := ⟨⟨jB_at 701 (by decide +kernel) rfl, jB_at 103 (by decide +kernel) rfl, ⟨by decide +kernel, by decide +kernel, by decide +kernel⟩, by decide⟩, jB_at 700 (by decide +kernel) rfl⟩
theorem ms_J9_min_7cf53 : jmS yJ9_min_7cf53 cJ9_min_7cf53 2 (some .int) 2 := ⟨⟨jB_at 537 (by decide +kernel) rfl, jB_at 103 (by decide +kernel) rfl, ⟨by decide +kernel, by decide +kernel, by decide +kernel⟩, by decide⟩, jB_at 536 (by decide +kernel) rfl⟩
theorem ms_X0_copy : jmS yX0_copy cX0_copy 3 none 2 := ⟨⟨jB_at 850 (by decide +kernel) rfl, jB_at 98 (by decide +kernel) rfl, ⟨by decide +kernel, by decide +kernel, by decide +kernel⟩, by decide⟩, jB_at 849 (by decide +kernel) rfl⟩
theorem ms_X0_isSame : jmS yX0_isSame cX0_isSame 3 (some .boolean) 2 := ⟨⟨jB_at 863 (by decide +kernel) rfl, jB_at 98 (by decide +kernel) rfl, ⟨by decide +kernel, by decide +kernel, by decide +kernel⟩, by decide⟩, jB_at 862 (by decide +kernel) rfl⟩
theorem ms_X11_isIn : jmS yX11_isIn cX11_isIn 2 (some .boolean) 2 := ⟨⟨jB_at 605 (by decide +kernel) rfl, jB_at 89 (by decide +kernel) rfl, ⟨by decide +kernel, by decide +kernel, by decide +kernel⟩, by decide⟩, jB_at 604 (by decide +kernel) rfl⟩
theorem ms_X11_isLineSign : jmS yX11_isLineSign cX11_isLineSign 1 (some .boolean) 1 := ⟨⟨jB_at 522 (by decide +kernel) rfl, jB_at 89 (by decide +kernel) rfl, ⟨by decide +kernel, by decide +kernel, by decide +kernel⟩, by decide⟩, jB_at 521 (by decide +kernel) rfl⟩
theorem ms_X11_isProgram : jmS yX11_isProgram cX11_isProgram 1 (some .boolean) 1 := ⟨⟨jB_at 529 (by decide +kernel) rfl, jB_at 89 (by decide +kernel) rfl, ⟨by decide +kernel, by decide +kernel, by decide +kernel⟩, by decide⟩, jB_at 528 (by decide +kernel) rfl⟩
theorem ms_X11_linesOfSet : jmS yX11_linesOfSet cX11_linesOfSet 2 (some .int) 2 := ⟨⟨jB_at 485 (by decide +kernel) rfl, jB_at 89 (by decide +kernel) rfl, ⟨by decide +kernel, by decide +kernel, by decide +kernel⟩, by decide⟩, jB_at 484 (by decide +kernel) rfl⟩
theorem ms_X11_mayBeHeld : jmS yX11_mayBeHeld cX11_mayBeHeld 4 (some .boolean) 3 := ⟨⟨jB_at 482 (by decide +kernel) rfl, jB_at 89 (by decide +kernel) rfl, ⟨by decide +kernel, by decide +kernel, by decide +kernel⟩, by decide⟩, jB_at 481 (by decide +kernel) rfl⟩
theorem ms_X11_partsOf : jmS yX11_partsOf cX11_partsOf 1 (some .int) 1 := ⟨⟨jB_at 519 (by decide +kernel) rfl, jB_at 89 (by decide +kernel) rfl, ⟨by decide +kernel, by decide +kernel, by decide +kernel⟩, by decide⟩, jB_at 518 (by decide +kernel) rfl⟩
theorem ms_X11_setOf : jmS yX11_setOf cX11_setOf 2 (some .int) 2 := ⟨⟨jB_at 598 (by decide +kernel) rfl, jB_at 89 (by decide +kernel) rfl, ⟨by decide +kernel, by decide +kernel, by decide +kernel⟩, by decide⟩, jB_at 597 (by decide +kernel) rfl⟩
theorem ms_X12_bits : jmS yX12_bits cX12_bits 3 (some .int) 1 := ⟨⟨jB_at 1411 (by decide +kernel) rfl, jB_at 101 (by decide +kernel) rfl, ⟨by decide +kernel, by decide +kernel, by decide +kernel⟩, by decide⟩, jB_at 1410 (by decide +kernel) rfl⟩
theorem ms_X12_in : jmS yX12_in cX12_in 3 (some .boolean) 3 := ⟨⟨jB_at 1197 (by decide +kernel) rfl, jB_at 101 (by decide +kernel) rfl, ⟨by decide +kernel, by decide +kernel, by decide +kernel⟩, by decide⟩, jB_at 1196 (by decide +kernel) rfl⟩
theorem ms_X12_isLoop : jmS yX12_isLoop cX12_isLoop 1 (some .boolean) 1 := ⟨⟨jB_at 1223 (by decide +kernel) rfl, jB_at 101 (by decide +kernel) rfl, ⟨by decide +kernel, by decide +kernel, by decide +kernel⟩, by decide⟩, jB_at 1222 (by decide +kernel) rfl⟩
theorem ms_X12_isProgram : jmS yX12_isProgram cX12_isProgram 1 (some .boolean) 1 := ⟨⟨jB_at 1230 (by decide +kernel) rfl, jB_at 101 (by decide +kernel) rfl, ⟨by decide +kernel, by decide +kernel, by decide +kernel⟩, by decide⟩, jB_at 1229 (by decide +kernel) rfl⟩
theorem ms_X12_pair : jmS yX12_pair cX12_pair 3 (some .int) 3 := ⟨⟨jB_at 1289 (by decide +kernel) rfl, jB_at 101 (by decide +kernel) rfl, ⟨by decide +kernel, by decide +kernel, by decide +kernel⟩, by decide⟩, jB_at 1288 (by decide +kernel) rfl⟩
theorem ms_X12_partsOf : jmS yX12_partsOf cX12_partsOf 1 (some .int) 1 := ⟨⟨jB_at 1220 (by decide +kernel) rfl, jB_at 101 (by decide +kernel) rfl, ⟨by decide +kernel, by decide +kernel, by decide +kernel⟩, by decide⟩, jB_at 1219 (by decide +kernel) rfl⟩
theorem ms_X12_timesOf : jmS yX12_timesOf cX12_timesOf 1 (some .int) 1 := ⟨⟨jB_at 1300 (by decide +kernel) rfl, jB_at 101 (by decide +kernel) rfl, ⟨by decide +kernel, by decide +kernel, by decide +kernel⟩, by decide⟩, jB_at 1299 (by decide +kernel) rfl⟩
theorem ms_X1_maySet : jmS yX1_maySet cX1_maySet 2 (some .boolean) 2 := ⟨⟨jB_at 475 (by decide +kernel) rfl, jB_at 90 (by decide +kernel) rfl, ⟨by decide +kernel, by decide +kernel, by decide +kernel⟩, by decide⟩, jB_at 474 (by decide +kernel) rfl⟩
theorem ms_X7_looksOf : jmS yX7_looksOf cX7_looksOf 2 (some .int) 2 := ⟨⟨jB_at 608 (by decide +kernel) rfl, jB_at 93 (by decide +kernel) rfl, ⟨by decide +kernel, by decide +kernel, by decide +kernel⟩, by decide⟩, jB_at 607 (by decide +kernel) rfl⟩
theorem ml_L_13 : Cond.methodLink RL 13 yX11_shelf ∈ jB := jB_at 469 (by decide +kernel) rfl
theorem ml_L_17 : Cond.methodLink RL 17 yX12_shelf ∈ jB := jB_at 1191 (by decide +kernel) rfl
theorem ml_L_18 : Cond.methodLink RL 18 yX11_say ∈ jB := jB_at 497 (by decide +kernel) rfl
theorem ml_L_22 : Cond.methodLink RL 22 yX12_say ∈ jB := jB_at 1202 (by decide +kernel) rfl
theorem ml_L_23 : Cond.methodLink RL 23 yX11_wipe ∈ jB := jB_at 505 (by decide +kernel) rfl
theorem ml_L_27 : Cond.methodLink RL 27 yX12_wipe ∈ jB := jB_at 1206 (by decide +kernel) rfl
theorem ml_L_28 : Cond.methodLink RL 28 yX11_fault ∈ jB := jB_at 509 (by decide +kernel) rfl
theorem ml_L_31 : Cond.methodLink RL 31 yX12_fault ∈ jB := jB_at 1210 (by decide +kernel) rfl
theorem ml_L_32 : Cond.methodLink RL 32 yX11_program ∈ jB := jB_at 523 (by decide +kernel) rfl
theorem ml_L_35 : Cond.methodLink RL 35 yX12_program ∈ jB := jB_at 1224 (by decide +kernel) rfl
theorem ml_L_36 : Cond.methodLink RL 36 yX11_node ∈ jB := jB_at 556 (by decide +kernel) rfl
theorem ml_L_40 : Cond.methodLink RL 40 yX12_node ∈ jB := jB_at 1235 (by decide +kernel) rfl
theorem ml_L_41 : Cond.methodLink RL 41 yX11_choose ∈ jB := jB_at 566 (by decide +kernel) rfl
theorem ml_L_44 : Cond.methodLink RL 44 yX12_choose ∈ jB := jB_at 1243 (by decide +kernel) rfl
theorem ml_L_45 : Cond.methodLink RL 45 yX11_forget ∈ jB := jB_at 574 (by decide +kernel) rfl
theorem ml_L_48 : Cond.methodLink RL 48 yX12_forget ∈ jB := jB_at 1247 (by decide +kernel) rfl
theorem ml_L_49 : Cond.methodLink RL 49 yX11_run ∈ jB := jB_at 578 (by decide +kernel) rfl
theorem ml_L_52 : Cond.methodLink RL 52 yX12_run ∈ jB := jB_at 1251 (by decide +kernel) rfl
theorem ml_L_53 : Cond.methodLink RL 53 yX11_most ∈ jB := jB_at 681 (by decide +kernel) rfl
theorem ml_L_56 : Cond.methodLink RL 56 yX12_most ∈ jB := jB_at 1305 (by decide +kernel) rfl
theorem ml_L_57 : Cond.methodLink RL 57 yX11_row ∈ jB := jB_at 746 (by decide +kernel) rfl
theorem ml_L_60 : Cond.methodLink RL 60 yX12_row ∈ jB := jB_at 1353 (by decide +kernel) rfl
theorem ml_L_61 : Cond.methodLink RL 61 yX11_age ∈ jB := jB_at 816 (by decide +kernel) rfl
theorem ml_L_65 : Cond.methodLink RL 65 yX12_age ∈ jB := jB_at 1365 (by decide +kernel) rfl
theorem ml_L_66 : Cond.methodLink RL 66 yX11_sort ∈ jB := jB_at 886 (by decide +kernel) rfl
theorem ml_L_69 : Cond.methodLink RL 69 yX12_sort ∈ jB := jB_at 1393 (by decide +kernel) rfl
theorem ml_L_70 : Cond.methodLink RL 70 yX11_bound ∈ jB := jB_at 921 (by decide +kernel) rfl
theorem ml_L_73 : Cond.methodLink RL 73 yX12_bound ∈ jB := jB_at 1412 (by decide +kernel) rfl
theorem ml_L_74 : Cond.methodLink RL 74 yX11_fast ∈ jB := jB_at 966 (by decide +kernel) rfl
theorem ml_L_77 : Cond.methodLink RL 77 yX12_fast ∈ jB := jB_at 1424 (by decide +kernel) rfl
theorem ml_L_78 : Cond.methodLink RL 78 yX11_crowd ∈ jB := jB_at 982 (by decide +kernel) rfl
theorem ml_L_81 : Cond.methodLink RL 81 yX12_crowd ∈ jB := jB_at 1428 (by decide +kernel) rfl
theorem ml_L_82 : Cond.methodLink RL 82 yX11_period ∈ jB := jB_at 987 (by decide +kernel) rfl
theorem ml_L_85 : Cond.methodLink RL 85 yX12_period ∈ jB := jB_at 1436 (by decide +kernel) rfl
theorem ml_L_86 : Cond.methodLink RL 86 yX11_breaks ∈ jB := jB_at 999 (by decide +kernel) rfl
theorem ml_L_89 : Cond.methodLink RL 89 yX12_breaks ∈ jB := jB_at 1440 (by decide +kernel) rfl
theorem ml_L_90 : Cond.methodLink RL 90 yX11_done ∈ jB := jB_at 1017 (by decide +kernel) rfl
theorem ml_L_93 : Cond.methodLink RL 93 yX12_done ∈ jB := jB_at 1448 (by decide +kernel) rfl
theorem ml_L_94 : Cond.methodLink RL 94 yX11_late ∈ jB := jB_at 1041 (by decide +kernel) rfl
theorem ml_L_97 : Cond.methodLink RL 97 yX12_late ∈ jB := jB_at 1460 (by decide +kernel) rfl
theorem ml_L_98 : Cond.methodLink RL 98 yX11_image ∈ jB := jB_at 1056 (by decide +kernel) rfl
theorem ml_L_101 : Cond.methodLink RL 101 yX12_image ∈ jB := jB_at 1468 (by decide +kernel) rfl
theorem ml_L_102 : Cond.methodLink RL 102 yX11_restore ∈ jB := jB_at 1073 (by decide +kernel) rfl
theorem ml_L_105 : Cond.methodLink RL 105 yX12_restore ∈ jB := jB_at 1472 (by decide +kernel) rfl
theorem ml_L_106 : Cond.methodLink RL 106 yX11_told ∈ jB := jB_at 1077 (by decide +kernel) rfl
theorem ml_L_109 : Cond.methodLink RL 109 yX12_told ∈ jB := jB_at 1476 (by decide +kernel) rfl
theorem ml_X0_30 : Cond.methodLink RX0 30 yX1_textOf ∈ jB := jB_at 376 (by decide +kernel) rfl
theorem ml_X0_40 : Cond.methodLink RX0 40 yX1_holds ∈ jB := jB_at 829 (by decide +kernel) rfl
theorem ml_X0_44 : Cond.methodLink RX0 44 yX1_roomFor ∈ jB := jB_at 834 (by decide +kernel) rfl
theorem ml_X0_48 : Cond.methodLink RX0 48 yX0_pass ∈ jB := jB_at 841 (by decide +kernel) rfl
theorem ml_X0_52 : Cond.methodLink RX0 52 yX0_ageAt ∈ jB := jB_at 878 (by decide +kernel) rfl
theorem ml_X0_56 : Cond.methodLink RX0 56 yX10_firstPart ∈ jB := jB_at 845 (by decide +kernel) rfl
theorem ml_X0_61 : Cond.methodLink RX0 61 yX10_secondPart ∈ jB := jB_at 846 (by decide +kernel) rfl
theorem ml_X0_64 : Cond.methodLink RX0 64 yX10_signAt ∈ jB := jB_at 847 (by decide +kernel) rfl
theorem ml_X0_67 : Cond.methodLink RX0 67 yX0_copy ∈ jB := jB_at 848 (by decide +kernel) rfl
theorem ml_X0_71 : Cond.methodLink RX0 71 yX0_join ∈ jB := jB_at 851 (by decide +kernel) rfl
theorem ml_X0_75 : Cond.methodLink RX0 75 yX0_passLoop ∈ jB := jB_at 857 (by decide +kernel) rfl
theorem ml_X0_78 : Cond.methodLink RX0 78 yX10_lineAt ∈ jB := jB_at 864 (by decide +kernel) rfl
theorem ml_X0_81 : Cond.methodLink RX0 81 yX0_fetch ∈ jB := jB_at 865 (by decide +kernel) rfl
theorem ml_X0_85 : Cond.methodLink RX0 85 yX0_isSame ∈ jB := jB_at 861 (by decide +kernel) rfl
theorem ml_X0_89 : Cond.methodLink RX0 89 yX1_freeMates ∈ jB := jB_at 869 (by decide +kernel) rfl
theorem ml_X0_96 : Cond.methodLink RX0 96 yJ9_max_7cf53 ∈ jB := jB_at 855 (by decide +kernel) rfl
theorem ml_X0_101 : Cond.methodLink RX0 101 yJ9_min_7cf53 ∈ jB := jB_at 856 (by decide +kernel) rfl
theorem ml_X1_37 : Cond.methodLink RX1 37 yX1_maySet ∈ jB := jB_at 496 (by decide +kernel) rfl
theorem ml_X1_51 : Cond.methodLink RX1 51 yJ6_bitCount_0f7a4 ∈ jB := jB_at 840 (by decide +kernel) rfl
theorem ml_X1_57 : Cond.methodLink RX1 57 yX1_periodOf ∈ jB := jB_at 1007 (by decide +kernel) rfl
theorem ml_X1_64 : Cond.methodLink RX1 64 yX1_setting ∈ jB := jB_at 1068 (by decide +kernel) rfl
theorem ml_X1_67 : Cond.methodLink RX1 67 yX1_textOf ∈ jB := jB_at 1069 (by decide +kernel) rfl
theorem ml_X1_77 : Cond.methodLink RX1 77 yX10_take ∈ jB := jB_at 1070 (by decide +kernel) rfl
theorem ml_X1_81 : Cond.methodLink RX1 81 yX1_setPeriod ∈ jB := jB_at 1071 (by decide +kernel) rfl
theorem ml_X1_85 : Cond.methodLink RX1 85 yX1_digitAt ∈ jB := jB_at 1072 (by decide +kernel) rfl
theorem ml_X10_25 : Cond.methodLink RX10 25 yJ9_min_7cf53 ∈ jB := jB_at 535 (by decide +kernel) rfl
theorem ml_X10_35 : Cond.methodLink RX10 35 yX10_lineAt ∈ jB := jB_at 539 (by decide +kernel) rfl
theorem ml_X10_42 : Cond.methodLink RX10 42 yX10_sizeAt ∈ jB := jB_at 548 (by decide +kernel) rfl
theorem ml_X10_45 : Cond.methodLink RX10 45 yX10_linesWithin ∈ jB := jB_at 552 (by decide +kernel) rfl
theorem ml_X10_48 : Cond.methodLink RX10 48 yX10_signAt ∈ jB := jB_at 543 (by decide +kernel) rfl
theorem ml_X10_51 : Cond.methodLink RX10 51 yX10_timesAt ∈ jB := jB_at 914 (by decide +kernel) rfl
theorem ml_X11_82 : Cond.methodLink RX11 82 yX1_maySet ∈ jB := jB_at 473 (by decide +kernel) rfl
theorem ml_X11_86 : Cond.methodLink RX11 86 yX1_setting ∈ jB := jB_at 476 (by decide +kernel) rfl
theorem ml_X11_90 : Cond.methodLink RX11 90 yX11_mayBeHeld ∈ jB := jB_at 480 (by decide +kernel) rfl
theorem ml_X11_94 : Cond.methodLink RX11 94 yX1_set ∈ jB := jB_at 492 (by decide +kernel) rfl
theorem ml_X11_98 : Cond.methodLink RX11 98 yX3_add ∈ jB := jB_at 501 (by decide +kernel) rfl
theorem ml_X11_106 : Cond.methodLink RX11 106 yX3_firstFault ∈ jB := jB_at 513 (by decide +kernel) rfl
theorem ml_X11_110 : Cond.methodLink RX11 110 yX11_isProgram ∈ jB := jB_at 527 (by decide +kernel) rfl
theorem ml_X11_113 : Cond.methodLink RX11 113 yX1_textOf ∈ jB := jB_at 530 (by decide +kernel) rfl
theorem ml_X11_121 : Cond.methodLink RX11 121 yX10_take ∈ jB := jB_at 531 (by decide +kernel) rfl
theorem ml_X11_128 : Cond.methodLink RX11 128 yX10_has ∈ jB := jB_at 560 (by decide +kernel) rfl
theorem ml_X11_131 : Cond.methodLink RX11 131 yX10_signAt ∈ jB := jB_at 564 (by decide +kernel) rfl
theorem ml_X11_134 : Cond.methodLink RX11 134 yX10_sizeAt ∈ jB := jB_at 565 (by decide +kernel) rfl
theorem ml_X11_137 : Cond.methodLink RX11 137 yX1_addDigit ∈ jB := jB_at 570 (by decide +kernel) rfl
theorem ml_X11_143 : Cond.methodLink RX11 143 yX6_goThrough ∈ jB := jB_at 582 (by decide +kernel) rfl
theorem ml_X11_159 : Cond.methodLink RX11 159 yX6_linesThere ∈ jB := jB_at 672 (by decide +kernel) rfl
theorem ml_X11_162 : Cond.methodLink RX11 162 yX8_costOf ∈ jB := jB_at 685 (by decide +kernel) rfl
theorem ml_X11_166 : Cond.methodLink RX11 166 yX8_ends ∈ jB := jB_at 742 (by decide +kernel) rfl
theorem ml_X11_169 : Cond.methodLink RX11 169 yX5_find ∈ jB := jB_at 750 (by decide +kernel) rfl
theorem ml_X11_173 : Cond.methodLink RX11 173 yX5_digitAt ∈ jB := jB_at 812 (by decide +kernel) rfl
theorem ml_X11_176 : Cond.methodLink RX11 176 yX11_isFetch ∈ jB := jB_at 820 (by decide +kernel) rfl
theorem ml_X11_179 : Cond.methodLink RX11 179 yX0_trace ∈ jB := jB_at 825 (by decide +kernel) rfl
theorem ml_X11_182 : Cond.methodLink RX11 182 yX0_mustAt ∈ jB := jB_at 874 (by decide +kernel) rfl
theorem ml_X11_186 : Cond.methodLink RX11 186 yX0_mayAt ∈ jB := jB_at 882 (by decide +kernel) rfl
theorem ml_X11_189 : Cond.methodLink RX11 189 yX2_study ∈ jB := jB_at 890 (by decide +kernel) rfl
theorem ml_X11_192 : Cond.methodLink RX11 192 yX2_sortAt ∈ jB := jB_at 917 (by decide +kernel) rfl
theorem ml_X11_195 : Cond.methodLink RX11 195 yX2_plain ∈ jB := jB_at 925 (by decide +kernel) rfl
theorem ml_X11_198 : Cond.methodLink RX11 198 yX2_closer ∈ jB := jB_at 953 (by decide +kernel) rfl
theorem ml_X11_201 : Cond.methodLink RX11 201 yX8_holdFast ∈ jB := jB_at 970 (by decide +kernel) rfl
theorem ml_X11_210 : Cond.methodLink RX11 210 yX10_allLines ∈ jB := jB_at 986 (by decide +kernel) rfl
theorem ml_X11_213 : Cond.methodLink RX11 213 yX1_periodOf ∈ jB := jB_at 991 (by decide +kernel) rfl
theorem ml_X11_216 : Cond.methodLink RX11 216 yX1_setPeriod ∈ jB := jB_at 995 (by decide +kernel) rfl
theorem ml_X11_219 : Cond.methodLink RX11 219 yX1_isTask ∈ jB := jB_at 1003 (by decide +kernel) rfl
theorem ml_X11_222 : Cond.methodLink RX11 222 yX9_breakCost ∈ jB := jB_at 1008 (by decide +kernel) rfl
theorem ml_X11_226 : Cond.methodLink RX11 226 yX9_weigh ∈ jB := jB_at 1021 (by decide +kernel) rfl
theorem ml_X11_230 : Cond.methodLink RX11 230 yX9_timeOf ∈ jB := jB_at 1027 (by decide +kernel) rfl
theorem ml_X11_233 : Cond.methodLink RX11 233 yX9_lateOnes ∈ jB := jB_at 1045 (by decide +kernel) rfl
theorem ml_X11_236 : Cond.methodLink RX11 236 yX9_greatestMiss ∈ jB := jB_at 1050 (by decide +kernel) rfl
theorem ml_X11_239 : Cond.methodLink RX11 239 yX11_imageOf ∈ jB := jB_at 1060 (by decide +kernel) rfl
theorem ml_X11_243 : Cond.methodLink RX11 243 yX1_copyFrom ∈ jB := jB_at 1064 (by decide +kernel) rfl
theorem ml_X11_250 : Cond.methodLink RX11 250 yX10_isFetchAt ∈ jB := jB_at 824 (by decide +kernel) rfl
theorem ml_X11_253 : Cond.methodLink RX11 253 yX11_linesOfSet ∈ jB := jB_at 483 (by decide +kernel) rfl
theorem ml_X11_256 : Cond.methodLink RX11 256 yJ6_bitCount_0f7a4 ∈ jB := jB_at 486 (by decide +kernel) rfl
theorem ml_X11_261 : Cond.methodLink RX11 261 yX11_isLineSign ∈ jB := jB_at 520 (by decide +kernel) rfl
theorem ml_X12_80 : Cond.methodLink RX12 80 yX12_in ∈ jB := jB_at 1195 (by decide +kernel) rfl
theorem ml_X12_84 : Cond.methodLink RX12 84 yX12_mayHold ∈ jB := jB_at 1198 (by decide +kernel) rfl
theorem ml_X12_91 : Cond.methodLink RX12 91 yX12_isLoop ∈ jB := jB_at 1221 (by decide +kernel) rfl
theorem ml_X12_95 : Cond.methodLink RX12 95 yX12_partsOf ∈ jB := jB_at 1218 (by decide +kernel) rfl
theorem ml_X12_99 : Cond.methodLink RX12 99 yX12_faultOf ∈ jB := jB_at 1214 (by decide +kernel) rfl
theorem ml_X12_103 : Cond.methodLink RX12 103 yX12_isProgram ∈ jB := jB_at 1228 (by decide +kernel) rfl
theorem ml_X12_106 : Cond.methodLink RX12 106 yX12_laySizes ∈ jB := jB_at 1231 (by decide +kernel) rfl
theorem ml_X12_110 : Cond.methodLink RX12 110 yX12_isNode ∈ jB := jB_at 1239 (by decide +kernel) rfl
theorem ml_X12_114 : Cond.methodLink RX12 114 yX12_linesInSet ∈ jB := jB_at 1263 (by decide +kernel) rfl
theorem ml_X12_117 : Cond.methodLink RX12 117 yX12_statesOfSet ∈ jB := jB_at 1267 (by decide +kernel) rfl
theorem ml_X12_120 : Cond.methodLink RX12 120 yX12_newestOf ∈ jB := jB_at 1279 (by decide +kernel) rfl
theorem ml_X12_124 : Cond.methodLink RX12 124 yX12_isHeld ∈ jB := jB_at 1259 (by decide +kernel) rfl
theorem ml_X12_131 : Cond.methodLink RX12 131 yX12_setOf ∈ jB := jB_at 1271 (by decide +kernel) rfl
theorem ml_X12_134 : Cond.methodLink RX12 134 yX12_roomOf ∈ jB := jB_at 1275 (by decide +kernel) rfl
theorem ml_X12_137 : Cond.methodLink RX12 137 yX12_olderOf ∈ jB := jB_at 1283 (by decide +kernel) rfl
theorem ml_X12_140 : Cond.methodLink RX12 140 yX12_pair ∈ jB := jB_at 1287 (by decide +kernel) rfl
theorem ml_X12_150 : Cond.methodLink RX12 150 yX12_fetch ∈ jB := jB_at 1255 (by decide +kernel) rfl
theorem ml_X12_153 : Cond.methodLink RX12 153 yX12_isBetter ∈ jB := jB_at 1325 (by decide +kernel) rfl
theorem ml_X12_171 : Cond.methodLink RX12 171 yX12_fetchAll ∈ jB := jB_at 1321 (by decide +kernel) rfl
theorem ml_X12_174 : Cond.methodLink RX12 174 yX12_pile ∈ jB := jB_at 1290 (by decide +kernel) rfl
theorem ml_X12_178 : Cond.methodLink RX12 178 yX12_digit ∈ jB := jB_at 1329 (by decide +kernel) rfl
theorem ml_X12_181 : Cond.methodLink RX12 181 yX12_keep ∈ jB := jB_at 1333 (by decide +kernel) rfl
theorem ml_X12_185 : Cond.methodLink RX12 185 yX12_timesOf ∈ jB := jB_at 1298 (by decide +kernel) rfl
theorem ml_X12_188 : Cond.methodLink RX12 188 yX12_copyFrom ∈ jB := jB_at 1341 (by decide +kernel) rfl
theorem ml_X12_191 : Cond.methodLink RX12 191 yX12_joinFrom ∈ jB := jB_at 1345 (by decide +kernel) rfl
theorem ml_X12_194 : Cond.methodLink RX12 194 yX12_states ∈ jB := jB_at 1313 (by decide +kernel) rfl
theorem ml_X12_197 : Cond.methodLink RX12 197 yX12_begin ∈ jB := jB_at 1317 (by decide +kernel) rfl
theorem ml_X12_200 : Cond.methodLink RX12 200 yX12_come ∈ jB := jB_at 1337 (by decide +kernel) rfl
theorem ml_X12_203 : Cond.methodLink RX12 203 yX12_work ∈ jB := jB_at 1309 (by decide +kernel) rfl
theorem ml_X12_207 : Cond.methodLink RX12 207 yX12_bestOf ∈ jB := jB_at 1349 (by decide +kernel) rfl
theorem ml_X12_216 : Cond.methodLink RX12 216 yX12_nextDigit ∈ jB := jB_at 1294 (by decide +kernel) rfl
theorem ml_X12_219 : Cond.methodLink RX12 219 yX12_linesIn ∈ jB := jB_at 1301 (by decide +kernel) rfl
theorem ml_X12_222 : Cond.methodLink RX12 222 yX12_worstOf ∈ jB := jB_at 1361 (by decide +kernel) rfl
theorem ml_X12_225 : Cond.methodLink RX12 225 yX12_layRow ∈ jB := jB_at 1357 (by decide +kernel) rfl
theorem ml_X12_228 : Cond.methodLink RX12 228 yX12_fetchAges ∈ jB := jB_at 1377 (by decide +kernel) rfl
theorem ml_X12_231 : Cond.methodLink RX12 231 yX12_keepAges ∈ jB := jB_at 1381 (by decide +kernel) rfl
theorem ml_X12_234 : Cond.methodLink RX12 234 yX12_swapAges ∈ jB := jB_at 1385 (by decide +kernel) rfl
theorem ml_X12_237 : Cond.methodLink RX12 237 yX12_joinAges ∈ jB := jB_at 1389 (by decide +kernel) rfl
theorem ml_X12_240 : Cond.methodLink RX12 240 yX12_isFetch ∈ jB := jB_at 1369 (by decide +kernel) rfl
theorem ml_X12_243 : Cond.methodLink RX12 243 yX12_layAges ∈ jB := jB_at 1373 (by decide +kernel) rfl
theorem ml_X12_246 : Cond.methodLink RX12 246 yX12_crowdOf ∈ jB := jB_at 1405 (by decide +kernel) rfl
theorem ml_X12_249 : Cond.methodLink RX12 249 yX12_bits ∈ jB := jB_at 1409 (by decide +kernel) rfl
theorem ml_X12_252 : Cond.methodLink RX12 252 yX12_loopOf ∈ jB := jB_at 1401 (by decide +kernel) rfl
theorem ml_X12_255 : Cond.methodLink RX12 255 yX12_sortOf ∈ jB := jB_at 1397 (by decide +kernel) rfl
theorem ml_X12_258 : Cond.methodLink RX12 258 yX12_onceIn ∈ jB := jB_at 1416 (by decide +kernel) rfl
theorem ml_X12_261 : Cond.methodLink RX12 261 yX12_comesTo ∈ jB := jB_at 1420 (by decide +kernel) rfl
theorem ml_X12_264 : Cond.methodLink RX12 264 yX12_crowd0 ∈ jB := jB_at 1432 (by decide +kernel) rfl
theorem ml_X12_267 : Cond.methodLink RX12 267 yX12_breaksOf ∈ jB := jB_at 1444 (by decide +kernel) rfl
theorem ml_X12_270 : Cond.methodLink RX12 270 yX12_layWorsts ∈ jB := jB_at 1452 (by decide +kernel) rfl
theorem ml_X12_273 : Cond.methodLink RX12 273 yX12_doneOf ∈ jB := jB_at 1456 (by decide +kernel) rfl
theorem ml_X12_276 : Cond.methodLink RX12 276 yX12_lateOnes ∈ jB := jB_at 1464 (by decide +kernel) rfl
theorem ml_X2_26 : Cond.methodLink RX2 26 yX1_textOf ∈ jB := jB_at 402 (by decide +kernel) rfl
theorem ml_X2_36 : Cond.methodLink RX2 36 yX0_trace ∈ jB := jB_at 894 (by decide +kernel) rfl
theorem ml_X2_48 : Cond.methodLink RX2 48 yX10_isFetchAt ∈ jB := jB_at 895 (by decide +kernel) rfl
theorem ml_X2_52 : Cond.methodLink RX2 52 yX2_sortOf ∈ jB := jB_at 896 (by decide +kernel) rfl
theorem ml_X2_56 : Cond.methodLink RX2 56 yX1_setting ∈ jB := jB_at 929 (by decide +kernel) rfl
theorem ml_X2_59 : Cond.methodLink RX2 59 yX2_costOf ∈ jB := jB_at 930 (by decide +kernel) rfl
theorem ml_X2_62 : Cond.methodLink RX2 62 yX2_onceLinesOf ∈ jB := jB_at 957 (by decide +kernel) rfl
theorem ml_X2_65 : Cond.methodLink RX2 65 yJ6_bitCount_0f7a4 ∈ jB := jB_at 916 (by decide +kernel) rfl
theorem ml_X2_70 : Cond.methodLink RX2 70 yX2_timesComeTo ∈ jB := jB_at 962 (by decide +kernel) rfl
theorem ml_X2_73 : Cond.methodLink RX2 73 yX10_lineAt ∈ jB := jB_at 900 (by decide +kernel) rfl
theorem ml_X2_76 : Cond.methodLink RX2 76 yX1_roomFor ∈ jB := jB_at 901 (by decide +kernel) rfl
theorem ml_X2_79 : Cond.methodLink RX2 79 yX1_holds ∈ jB := jB_at 902 (by decide +kernel) rfl
theorem ml_X2_82 : Cond.methodLink RX2 82 yX0_mustAt ∈ jB := jB_at 903 (by decide +kernel) rfl
theorem ml_X2_86 : Cond.methodLink RX2 86 yX0_mayAt ∈ jB := jB_at 904 (by decide +kernel) rfl
theorem ml_X2_89 : Cond.methodLink RX2 89 yX2_loopThatKeeps ∈ jB := jB_at 905 (by decide +kernel) rfl
theorem ml_X2_92 : Cond.methodLink RX2 92 yX1_freeMates ∈ jB := jB_at 909 (by decide +kernel) rfl
theorem ml_X2_95 : Cond.methodLink RX2 95 yX10_isLoopAround ∈ jB := jB_at 910 (by decide +kernel) rfl
theorem ml_X2_99 : Cond.methodLink RX2 99 yX10_linesWithin ∈ jB := jB_at 915 (by decide +kernel) rfl
theorem ml_X2_102 : Cond.methodLink RX2 102 yX10_sizeAt ∈ jB := jB_at 961 (by decide +kernel) rfl
theorem ml_X2_105 : Cond.methodLink RX2 105 yX2_sortAt ∈ jB := jB_at 948 (by decide +kernel) rfl
theorem ml_X2_108 : Cond.methodLink RX2 108 yX10_timesAt ∈ jB := jB_at 947 (by decide +kernel) rfl
theorem ml_X2_111 : Cond.methodLink RX2 111 yX2_costOfNode ∈ jB := jB_at 934 (by decide +kernel) rfl
theorem ml_X2_114 : Cond.methodLink RX2 114 yX2_costAt ∈ jB := jB_at 939 (by decide +kernel) rfl
theorem ml_X2_117 : Cond.methodLink RX2 117 yX10_firstPart ∈ jB := jB_at 938 (by decide +kernel) rfl
theorem ml_X2_120 : Cond.methodLink RX2 120 yX10_secondPart ∈ jB := jB_at 944 (by decide +kernel) rfl
theorem ml_X2_123 : Cond.methodLink RX2 123 yX10_signAt ∈ jB := jB_at 945 (by decide +kernel) rfl
theorem ml_X2_126 : Cond.methodLink RX2 126 yJ9_max_7cf53 ∈ jB := jB_at 946 (by decide +kernel) rfl
theorem ml_X2_131 : Cond.methodLink RX2 131 yX2_costOfFetch ∈ jB := jB_at 949 (by decide +kernel) rfl
theorem ml_X2_134 : Cond.methodLink RX2 134 yX10_has ∈ jB := jB_at 943 (by decide +kernel) rfl
theorem ml_X4_25 : Cond.methodLink RX4 25 yJ9_max_7cf53 ∈ jB := jB_at 699 (by decide +kernel) rfl
theorem ml_X4_31 : Cond.methodLink RX4 31 yJ9_min_7cf53 ∈ jB := jB_at 702 (by decide +kernel) rfl
theorem ml_X4_34 : Cond.methodLink RX4 34 yX4_shelfAt ∈ jB := jB_at 718 (by decide +kernel) rfl
theorem ml_X4_38 : Cond.methodLink RX4 38 yX4_costAt ∈ jB := jB_at 722 (by decide +kernel) rfl
theorem ml_X4_41 : Cond.methodLink RX4 41 yX4_add ∈ jB := jB_at 726 (by decide +kernel) rfl
theorem ml_X5_34 : Cond.methodLink RX5 34 yX1_textOf ∈ jB := jB_at 336 (by decide +kernel) rfl
theorem ml_X5_44 : Cond.methodLink RX5 44 yX1_setting ∈ jB := jB_at 754 (by decide +kernel) rfl
theorem ml_X5_58 : Cond.methodLink RX5 58 yX10_allLines ∈ jB := jB_at 755 (by decide +kernel) rfl
theorem ml_X5_64 : Cond.methodLink RX5 64 yX7_lay ∈ jB := jB_at 756 (by decide +kernel) rfl
theorem ml_X5_71 : Cond.methodLink RX5 71 yX5_walk ∈ jB := jB_at 757 (by decide +kernel) rfl
theorem ml_X5_75 : Cond.methodLink RX5 75 yX10_signAt ∈ jB := jB_at 761 (by decide +kernel) rfl
theorem ml_X5_78 : Cond.methodLink RX5 78 yX5_walkBoth ∈ jB := jB_at 762 (by decide +kernel) rfl
theorem ml_X5_81 : Cond.methodLink RX5 81 yX5_walkOne ∈ jB := jB_at 796 (by decide +kernel) rfl
theorem ml_X5_84 : Cond.methodLink RX5 84 yX5_walkLoop ∈ jB := jB_at 808 (by decide +kernel) rfl
theorem ml_X5_87 : Cond.methodLink RX5 87 yX10_lineAt ∈ jB := jB_at 790 (by decide +kernel) rfl
theorem ml_X5_90 : Cond.methodLink RX5 90 yX7_stepOf ∈ jB := jB_at 795 (by decide +kernel) rfl
theorem ml_X5_94 : Cond.methodLink RX5 94 yX5_aheadRow ∈ jB := jB_at 766 (by decide +kernel) rfl
theorem ml_X5_98 : Cond.methodLink RX5 98 yX10_secondPart ∈ jB := jB_at 770 (by decide +kernel) rfl
theorem ml_X5_101 : Cond.methodLink RX5 101 yX5_look ∈ jB := jB_at 771 (by decide +kernel) rfl
theorem ml_X5_105 : Cond.methodLink RX5 105 yX10_firstPart ∈ jB := jB_at 775 (by decide +kernel) rfl
theorem ml_X5_108 : Cond.methodLink RX5 108 yX5_costHere ∈ jB := jB_at 800 (by decide +kernel) rfl
theorem ml_X5_112 : Cond.methodLink RX5 112 yX5_put ∈ jB := jB_at 804 (by decide +kernel) rfl
theorem ml_X5_116 : Cond.methodLink RX5 116 yX10_timesAt ∈ jB := jB_at 785 (by decide +kernel) rfl
theorem ml_X5_119 : Cond.methodLink RX5 119 yX5_raise ∈ jB := jB_at 776 (by decide +kernel) rfl
theorem ml_X5_123 : Cond.methodLink RX5 123 yX5_lookLoop ∈ jB := jB_at 781 (by decide +kernel) rfl
theorem ml_X5_126 : Cond.methodLink RX5 126 yX5_copy ∈ jB := jB_at 786 (by decide +kernel) rfl
theorem ml_X5_129 : Cond.methodLink RX5 129 yX5_lookFetch ∈ jB := jB_at 791 (by decide +kernel) rfl
theorem ml_X5_133 : Cond.methodLink RX5 133 yJ9_max_7cf53 ∈ jB := jB_at 780 (by decide +kernel) rfl
theorem ml_X6_19 : Cond.methodLink RX6 19 yX1_textOf ∈ jB := jB_at 235 (by decide +kernel) rfl
theorem ml_X6_45 : Cond.methodLink RX6 45 yX1_setting ∈ jB := jB_at 586 (by decide +kernel) rfl
theorem ml_X6_49 : Cond.methodLink RX6 49 yX10_allLines ∈ jB := jB_at 587 (by decide +kernel) rfl
theorem ml_X6_55 : Cond.methodLink RX6 55 yX7_lay ∈ jB := jB_at 591 (by decide +kernel) rfl
theorem ml_X6_61 : Cond.methodLink RX6 61 yX6_go ∈ jB := jB_at 629 (by decide +kernel) rfl
theorem ml_X6_65 : Cond.methodLink RX6 65 yX7_linesOn ∈ jB := jB_at 676 (by decide +kernel) rfl
theorem ml_X6_68 : Cond.methodLink RX6 68 yX10_firstPart ∈ jB := jB_at 633 (by decide +kernel) rfl
theorem ml_X6_71 : Cond.methodLink RX6 71 yX10_secondPart ∈ jB := jB_at 637 (by decide +kernel) rfl
theorem ml_X6_74 : Cond.methodLink RX6 74 yX10_signAt ∈ jB := jB_at 641 (by decide +kernel) rfl
theorem ml_X6_80 : Cond.methodLink RX6 80 yX10_timesAt ∈ jB := jB_at 643 (by decide +kernel) rfl
theorem ml_X6_83 : Cond.methodLink RX6 83 yX6_howOften ∈ jB := jB_at 647 (by decide +kernel) rfl
theorem ml_X6_86 : Cond.methodLink RX6 86 yX6_nextDigit ∈ jB := jB_at 651 (by decide +kernel) rfl
theorem ml_X6_89 : Cond.methodLink RX6 89 yX10_isFetchAt ∈ jB := jB_at 659 (by decide +kernel) rfl
theorem ml_X6_93 : Cond.methodLink RX6 93 yX10_lineAt ∈ jB := jB_at 663 (by decide +kernel) rfl
theorem ml_X6_96 : Cond.methodLink RX6 96 yX6_fetch ∈ jB := jB_at 664 (by decide +kernel) rfl
theorem ml_X6_100 : Cond.methodLink RX6 100 yX1_digitAt ∈ jB := jB_at 655 (by decide +kernel) rfl
theorem ml_X6_103 : Cond.methodLink RX6 103 yX7_stepOf ∈ jB := jB_at 668 (by decide +kernel) rfl
theorem ml_X7_42 : Cond.methodLink RX7 42 yX1_setting ∈ jB := jB_at 595 (by decide +kernel) rfl
theorem ml_X7_52 : Cond.methodLink RX7 52 yX7_enrol ∈ jB := jB_at 599 (by decide +kernel) rfl
theorem ml_X7_59 : Cond.methodLink RX7 59 yX7_looksOf ∈ jB := jB_at 606 (by decide +kernel) rfl
theorem ml_X7_66 : Cond.methodLink RX7 66 yX7_fillMoves ∈ jB := jB_at 609 (by decide +kernel) rfl
theorem ml_X7_70 : Cond.methodLink RX7 70 yX7_nextLook ∈ jB := jB_at 613 (by decide +kernel) rfl
theorem ml_X7_73 : Cond.methodLink RX7 73 yX7_lies ∈ jB := jB_at 621 (by decide +kernel) rfl
theorem ml_X7_76 : Cond.methodLink RX7 76 yX7_newestOf ∈ jB := jB_at 617 (by decide +kernel) rfl
theorem ml_X7_79 : Cond.methodLink RX7 79 yX7_olderOf ∈ jB := jB_at 625 (by decide +kernel) rfl
theorem ml_X7_82 : Cond.methodLink RX7 82 yX7_stepOf ∈ jB := jB_at 680 (by decide +kernel) rfl
theorem ml_X8_33 : Cond.methodLink RX8 33 yX1_textOf ∈ jB := jB_at 295 (by decide +kernel) rfl
theorem ml_X8_51 : Cond.methodLink RX8 51 yX10_allLines ∈ jB := jB_at 689 (by decide +kernel) rfl
theorem ml_X8_57 : Cond.methodLink RX8 57 yX7_lay ∈ jB := jB_at 690 (by decide +kernel) rfl
theorem ml_X8_63 : Cond.methodLink RX8 63 yX4_clear ∈ jB := jB_at 691 (by decide +kernel) rfl
theorem ml_X8_66 : Cond.methodLink RX8 66 yX4_add ∈ jB := jB_at 695 (by decide +kernel) rfl
theorem ml_X8_70 : Cond.methodLink RX8 70 yX8_flow ∈ jB := jB_at 703 (by decide +kernel) rfl
theorem ml_X8_74 : Cond.methodLink RX8 74 yX4_costAt ∈ jB := jB_at 739 (by decide +kernel) rfl
theorem ml_X8_81 : Cond.methodLink RX8 81 yJ9_max_7cf53 ∈ jB := jB_at 740 (by decide +kernel) rfl
theorem ml_X8_87 : Cond.methodLink RX8 87 yJ9_min_7cf53 ∈ jB := jB_at 741 (by decide +kernel) rfl
theorem ml_X8_90 : Cond.methodLink RX8 90 yX1_setting ∈ jB := jB_at 974 (by decide +kernel) rfl
theorem ml_X8_96 : Cond.methodLink RX8 96 yX8_costOf ∈ jB := jB_at 975 (by decide +kernel) rfl
theorem ml_X8_107 : Cond.methodLink RX8 107 yX8_compare ∈ jB := jB_at 977 (by decide +kernel) rfl
theorem ml_X8_111 : Cond.methodLink RX8 111 yJ6_bitCount_0f7a4 ∈ jB := jB_at 981 (by decide +kernel) rfl
theorem ml_X8_116 : Cond.methodLink RX8 116 yX10_firstPart ∈ jB := jB_at 707 (by decide +kernel) rfl
theorem ml_X8_119 : Cond.methodLink RX8 119 yX10_secondPart ∈ jB := jB_at 708 (by decide +kernel) rfl
theorem ml_X8_122 : Cond.methodLink RX8 122 yX8_betweenAt ∈ jB := jB_at 709 (by decide +kernel) rfl
theorem ml_X8_126 : Cond.methodLink RX8 126 yX10_signAt ∈ jB := jB_at 713 (by decide +kernel) rfl
theorem ml_X8_129 : Cond.methodLink RX8 129 yX4_addAll ∈ jB := jB_at 714 (by decide +kernel) rfl
theorem ml_X8_133 : Cond.methodLink RX8 133 yX8_repeat ∈ jB := jB_at 727 (by decide +kernel) rfl
theorem ml_X8_136 : Cond.methodLink RX8 136 yX10_lineAt ∈ jB := jB_at 732 (by decide +kernel) rfl
theorem ml_X8_139 : Cond.methodLink RX8 139 yX8_fetch ∈ jB := jB_at 733 (by decide +kernel) rfl
theorem ml_X8_143 : Cond.methodLink RX8 143 yX10_timesAt ∈ jB := jB_at 731 (by decide +kernel) rfl
theorem ml_X8_146 : Cond.methodLink RX8 146 yX4_shelfAt ∈ jB := jB_at 737 (by decide +kernel) rfl
theorem ml_X8_149 : Cond.methodLink RX8 149 yX7_stepOf ∈ jB := jB_at 738 (by decide +kernel) rfl
theorem ml_X9_23 : Cond.methodLink RX9 23 yX1_setting ∈ jB := jB_at 1012 (by decide +kernel) rfl
theorem ml_X9_29 : Cond.methodLink RX9 29 yX1_textOf ∈ jB := jB_at 1013 (by decide +kernel) rfl
theorem ml_X9_33 : Cond.methodLink RX9 33 yX10_allLines ∈ jB := jB_at 1014 (by decide +kernel) rfl
theorem ml_X9_43 : Cond.methodLink RX9 43 yJ6_bitCount_0f7a4 ∈ jB := jB_at 1016 (by decide +kernel) rfl
theorem ml_X9_52 : Cond.methodLink RX9 52 yX1_isTask ∈ jB := jB_at 1025 (by decide +kernel) rfl
theorem ml_X9_56 : Cond.methodLink RX9 56 yX8_costOf ∈ jB := jB_at 1026 (by decide +kernel) rfl
theorem ml_X9_62 : Cond.methodLink RX9 62 yX1_periodOf ∈ jB := jB_at 1031 (by decide +kernel) rfl
theorem ml_X9_65 : Cond.methodLink RX9 65 yX9_worstOf ∈ jB := jB_at 1032 (by decide +kernel) rfl
theorem ml_X9_68 : Cond.methodLink RX9 68 yX9_timeWithBreaks ∈ jB := jB_at 1036 (by decide +kernel) rfl
theorem ml_X9_71 : Cond.methodLink RX9 71 yX9_breakCost ∈ jB := jB_at 1040 (by decide +kernel) rfl
theorem ml_X9_75 : Cond.methodLink RX9 75 yX9_timeOf ∈ jB := jB_at 1049 (by decide +kernel) rfl
theorem ml_X9_78 : Cond.methodLink RX9 78 yX9_weigh ∈ jB := jB_at 1054 (by decide +kernel) rfl
theorem ml_X9_82 : Cond.methodLink RX9 82 yX9_lateOnes ∈ jB := jB_at 1055 (by decide +kernel) rfl
theorem mn_X0_92 : (RX0, 92, yX11_isIn, "LongestRuns") ∈ jnM := by decide +kernel
theorem mn_X1_41 : (RX1, 41, yX11_isIn, "LongestRuns") ∈ jnM := by decide +kernel
theorem mn_X1_44 : (RX1, 44, yX11_setOf, "LongestRuns") ∈ jnM := by decide +kernel
theorem mn_X1_48 : (RX1, 48, yX11_linesOfSet, "LongestRuns") ∈ jnM := by decide +kernel
theorem mn_X10_31 : (RX10, 31, yX11_isLineSign, "LongestRuns") ∈ jnM := by decide +kernel
theorem mn_X10_39 : (RX10, 39, yX11_partsOf, "LongestRuns") ∈ jnM := by decide +kernel
theorem mn_X3_22 : (RX3, 22, yX11_partsOf, "LongestRuns") ∈ jnM := by decide +kernel
theorem mn_X6_77 : (RX6, 77, yX11_partsOf, "LongestRuns") ∈ jnM := by decide +kernel
theorem mn_X7_48 : (RX7, 48, yX11_setOf, "LongestRuns") ∈ jnM := by decide +kernel
theorem mn_X7_62 : (RX7, 62, yX11_isIn, "LongestRuns") ∈ jnM := by decide +kernel
theorem mn_X8_103 : (RX8, 103, yX11_mayBeHeld, "LongestRuns") ∈ jnM := by decide +kernel
theorem mn_X9_39 : (RX9, 39, yX11_linesOfSet, "LongestRuns") ∈ jnM := by decide +kernel
theorem kc_J6_265 : Cond.constant RJ6 265 (Int32.ofInt 1431655765) ∈ jB := jB_at 489 (by decide +kernel) rfl
theorem kc_J6_266 : Cond.constant RJ6 266 (Int32.ofInt 858993459) ∈ jB := jB_at 490 (by decide +kernel) rfl
theorem kc_J6_267 : Cond.constant RJ6 267 (Int32.ofInt 252645135) ∈ jB := jB_at 491 (by decide +kernel) rfl
