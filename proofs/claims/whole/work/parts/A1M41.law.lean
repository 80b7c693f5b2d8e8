set_option maxHeartbeats 4000000 in
set_option maxRecDepth 100000 in
theorem lc_shelf {p : Program} {l : Launch} {e : Env} {s : State} {mi : MethodId} {below : List Frame} {meth : Method} {c : Code} {D : va_G} {cy : Nat → ClassId} {B szC szM cells slots N : Nat} {shC shM : jm_S} {Inv : jm_M → jm_M → Prop} {b L : Nat} {xs : Nat → Int32} {Q : State → Prop} (C : jCx p s mi #[.ref b] meth c cL_law 4 RL (some .boolean) D cy) (hX : va_X b L xs s s.heap) (hbl : b < s.heap.size) (hL : L ≤ 320) (hcs : cells ≤ room_1.cells ∧ slots ≤ room_1.slots) (hC1 : shC 1 = (11, 10)) (hM1 : shM 1 = (12, 34)) (hop : jOp_shelf N shC shM Inv) {x3 : Int} (h3 : jIn x3) (h30 : 0 ≤ x3) (h35 : x3 + 5 ≤ L) {H : Heap} {locs : List Loc} {ls : Array Slot} {mC mM : jm_M} (hI : Inv mC mM) (S : jH2 D cy B szC szM shC shM s H locs mC mM) (Lc : jL ls [some (.ref b), some (jR B 1), some (jR (B + szC) 1), some (jI x3)]) (K : ∀ (H : Heap) (locs : List Loc) (mC mM : jm_M), Inv mC mM → jH2 D cy B szC szM shC shM s H locs mC mM → W p l e room_1 s mi #[.ref b] below meth c H locs cells slots Q (F0 mi 779 ls [])) : W p l e room_1 s mi #[.ref b] below meth c H locs cells slots Q (F0 mi 140 ls []) := by
  obtain ⟨r, nC, nM, eC, eM, hI2⟩ := hop mC mM (jsx xs (jw (x3 + 1))) (jsx xs (jw (x3 + 2))) (jIn_sx _ _) (jIn_sx _ _) hI
  have w1 : jw (x3 + 1) = x3 + 1 := jw_eq (by omega) (by omega)
  have w2 : jw (x3 + 2) = x3 + 2 := jw_eq (by omega) (by omega)
  refine jr_aload_n (pc := 140) C Lc dL_law_140 rfl rfl ?_
  refine jl_aload0 (pc := 141) C Lc rfl dL_law_141 ?_
  refine jr_iload_n (pc := 142) C Lc dL_law_142 rfl rfl ?_
  refine jr_iconst (pc := 143) C dL_law_143 ?_
  refine jr_iadd (pc := 144) C dL_law_144 ?_
  refine jl_sld (pc := 145) C S hX hbl (jIn_w _) (by rw [w1]; omega) (by rw [w1]; omega) dL_law_145 ?_
  refine jl_aload0 (pc := 146) C Lc rfl dL_law_146 ?_
  refine jr_iload_n (pc := 147) C Lc dL_law_147 rfl rfl ?_
  refine jr_iconst (pc := 148) C dL_law_148 ?_
  refine jr_iadd (pc := 149) C dL_law_149 ?_
  refine jl_sld (pc := 150) C S hX hbl (jIn_w _) (by rw [w2]; omega) (by rw [w2]; omega) dL_law_150 ?_
  refine jl_callC (pc := 151) C S Lc (As := [jI (jsx xs (jw (x3 + 1))), jI (jsx xs (jw (x3 + 2)))]) (rest := []) (c_X11_shelf (jIn_sx _ _) (jIn_sx _ _) eC) mv_X11_shelf ml_L_13 rfl hC1 ⟨Nat.le_of_ble_eq_true rfl, Nat.le_of_ble_eq_true rfl⟩ rfl rfl rfl (Nat.le_of_ble_eq_true rfl) hcs dL_law_151 (fun pC H locs S => ?_)
  refine jr_aload_n (pc := 154) C Lc dL_law_154 rfl rfl ?_
  refine jl_aload0 (pc := 155) C Lc rfl dL_law_155 ?_
  refine jr_iload_n (pc := 156) C Lc dL_law_156 rfl rfl ?_
  refine jr_iconst (pc := 157) C dL_law_157 ?_
  refine jr_iadd (pc := 158) C dL_law_158 ?_
  refine jl_sld (pc := 159) C S hX hbl (jIn_w _) (by rw [w1]; omega) (by rw [w1]; omega) dL_law_159 ?_
  refine jl_aload0 (pc := 160) C Lc rfl dL_law_160 ?_
  refine jr_iload_n (pc := 161) C Lc dL_law_161 rfl rfl ?_
  refine jr_iconst (pc := 162) C dL_law_162 ?_
  refine jr_iadd (pc := 163) C dL_law_163 ?_
  refine jl_sld (pc := 164) C S hX hbl (jIn_w _) (by rw [w2]; omega) (by rw [w2]; omega) dL_law_164 ?_
  refine jl_callM (pc := 165) C S Lc (As := [jI (jsx xs (jw (x3 + 1))), jI (jsx xs (jw (x3 + 2)))]) (rest := [jI r]) (c_X12_shelf (jIn_sx _ _) (jIn_sx _ _) eM) mv_X12_shelf ml_L_17 rfl hM1 ⟨Nat.le_of_ble_eq_true rfl, Nat.le_of_ble_eq_true rfl⟩ rfl rfl rfl (Nat.le_of_ble_eq_true rfl) hcs dL_law_165 (fun pM H locs S => ?_)
  refine jr_icmp_eq (pc := 168) C pC pM (tgt := 779) dL_law_168 (by decide) (fun c1 => ?_) (fun c1 => absurd rfl c1)
  exact K H locs _ _ hI2 S
set_option maxHeartbeats 4000000 in
set_option maxRecDepth 100000 in
theorem lc_say {p : Program} {l : Launch} {e : Env} {s : State} {mi : MethodId} {below : List Frame} {meth : Method} {c : Code} {D : va_G} {cy : Nat → ClassId} {B szC szM cells slots N : Nat} {shC shM : jm_S} {Inv : jm_M → jm_M → Prop} {b L : Nat} {xs : Nat → Int32} {Q : State → Prop} (C : jCx p s mi #[.ref b] meth c cL_law 4 RL (some .boolean) D cy) (hX : va_X b L xs s s.heap) (hbl : b < s.heap.size) (hL : L ≤ 320) (hcs : cells ≤ room_1.cells ∧ slots ≤ room_1.slots) (hC1 : shC 1 = (11, 10)) (hM1 : shM 1 = (12, 34)) (hop : jOp_say N shC shM Inv) {x3 : Int} (h3 : jIn x3) (h30 : 0 ≤ x3) (h35 : x3 + 5 ≤ L) {H : Heap} {locs : List Loc} {ls : Array Slot} {mC mM : jm_M} (hI : Inv mC mM) (S : jH2 D cy B szC szM shC shM s H locs mC mM) (Lc : jL ls [some (.ref b), some (jR B 1), some (jR (B + szC) 1), some (jI x3)]) (K : ∀ (H : Heap) (locs : List Loc) (mC mM : jm_M), Inv mC mM → jH2 D cy B szC szM shC shM s H locs mC mM → W p l e room_1 s mi #[.ref b] below meth c H locs cells slots Q (F0 mi 779 ls [])) : W p l e room_1 s mi #[.ref b] below meth c H locs cells slots Q (F0 mi 173 ls []) := by
  obtain ⟨r, nC, nM, eC, eM, hI2⟩ := hop mC mM (jsx xs (jw (x3 + 1))) (jIn_sx _ _) hI
  have w1 : jw (x3 + 1) = x3 + 1 := jw_eq (by omega) (by omega)
  refine jr_aload_n (pc := 173) C Lc dL_law_173 rfl rfl ?_
  refine jl_aload0 (pc := 174) C Lc rfl dL_law_174 ?_
  refine jr_iload_n (pc := 175) C Lc dL_law_175 rfl rfl ?_
  refine jr_iconst (pc := 176) C dL_law_176 ?_
  refine jr_iadd (pc := 177) C dL_law_177 ?_
  refine jl_sld (pc := 178) C S hX hbl (jIn_w _) (by rw [w1]; omega) (by rw [w1]; omega) dL_law_178 ?_
  refine jl_callC (pc := 179) C S Lc (As := [jI (jsx xs (jw (x3 + 1)))]) (rest := []) (c_X11_say (jIn_sx _ _) eC) mv_X11_say ml_L_18 rfl hC1 ⟨Nat.le_of_ble_eq_true rfl, Nat.le_of_ble_eq_true rfl⟩ rfl rfl rfl (Nat.le_of_ble_eq_true rfl) hcs dL_law_179 (fun pC H locs S => ?_)
  refine jr_aload_n (pc := 182) C Lc dL_law_182 rfl rfl ?_
  refine jl_aload0 (pc := 183) C Lc rfl dL_law_183 ?_
  refine jr_iload_n (pc := 184) C Lc dL_law_184 rfl rfl ?_
  refine jr_iconst (pc := 185) C dL_law_185 ?_
  refine jr_iadd (pc := 186) C dL_law_186 ?_
  refine jl_sld (pc := 187) C S hX hbl (jIn_w _) (by rw [w1]; omega) (by rw [w1]; omega) dL_law_187 ?_
  refine jl_callM (pc := 188) C S Lc (As := [jI (jsx xs (jw (x3 + 1)))]) (rest := [jI r]) (c_X12_say (jIn_sx _ _) eM) mv_X12_say ml_L_22 rfl hM1 ⟨Nat.le_of_ble_eq_true rfl, Nat.le_of_ble_eq_true rfl⟩ rfl rfl rfl (Nat.le_of_ble_eq_true rfl) hcs dL_law_188 (fun pM H locs S => ?_)
  refine jr_icmp_eq (pc := 191) C pC pM (tgt := 779) dL_law_191 (by decide) (fun c1 => ?_) (fun c1 => absurd rfl c1)
  exact K H locs _ _ hI2 S
set_option maxHeartbeats 4000000 in
set_option maxRecDepth 100000 in
theorem lc_wipe {p : Program} {l : Launch} {e : Env} {s : State} {mi : MethodId} {below : List Frame} {meth : Method} {c : Code} {D : va_G} {cy : Nat → ClassId} {B szC szM cells slots N : Nat} {shC shM : jm_S} {Inv : jm_M → jm_M → Prop} {b L : Nat} {xs : Nat → Int32} {Q : State → Prop} (C : jCx p s mi #[.ref b] meth c cL_law 4 RL (some .boolean) D cy) (hX : va_X b L xs s s.heap) (hbl : b < s.heap.size) (hL : L ≤ 320) (hcs : cells ≤ room_1.cells ∧ slots ≤ room_1.slots) (hC1 : shC 1 = (11, 10)) (hM1 : shM 1 = (12, 34)) (hop : jOp_wipe N shC shM Inv) {x3 : Int} (h3 : jIn x3) (h30 : 0 ≤ x3) (h35 : x3 + 5 ≤ L) {H : Heap} {locs : List Loc} {ls : Array Slot} {mC mM : jm_M} (hI : Inv mC mM) (S : jH2 D cy B szC szM shC shM s H locs mC mM) (Lc : jL ls [some (.ref b), some (jR B 1), some (jR (B + szC) 1), some (jI x3)]) (K : ∀ (H : Heap) (locs : List Loc) (mC mM : jm_M), Inv mC mM → jH2 D cy B szC szM shC shM s H locs mC mM → W p l e room_1 s mi #[.ref b] below meth c H locs cells slots Q (F0 mi 779 ls [])) : W p l e room_1 s mi #[.ref b] below meth c H locs cells slots Q (F0 mi 196 ls []) := by
  obtain ⟨r, nC, nM, eC, eM, hI2⟩ := hop mC mM   hI
  refine jr_aload_n (pc := 196) C Lc dL_law_196 rfl rfl ?_
  refine jl_callC (pc := 197) C S Lc (As := []) (rest := []) (c_X11_wipe  eC) mv_X11_wipe ml_L_23 rfl hC1 ⟨Nat.le_of_ble_eq_true rfl, Nat.le_of_ble_eq_true rfl⟩ rfl rfl rfl (Nat.le_of_ble_eq_true rfl) hcs dL_law_197 (fun pC H locs S => ?_)
  refine jr_aload_n (pc := 200) C Lc dL_law_200 rfl rfl ?_
  refine jl_callM (pc := 201) C S Lc (As := []) (rest := [jI r]) (c_X12_wipe  eM) mv_X12_wipe ml_L_27 rfl hM1 ⟨Nat.le_of_ble_eq_true rfl, Nat.le_of_ble_eq_true rfl⟩ rfl rfl rfl (Nat.le_of_ble_eq_true rfl) hcs dL_law_201 (fun pM H locs S => ?_)
  refine jr_icmp_eq (pc := 204) C pC pM (tgt := 779) dL_law_204 (by decide) (fun c1 => ?_) (fun c1 => absurd rfl c1)
  exact K H locs _ _ hI2 S
set_option maxHeartbeats 4000000 in
set_option maxRecDepth 100000 in
theorem lc_fault {p : Program} {l : Launch} {e : Env} {s : State} {mi : MethodId} {below : List Frame} {meth : Method} {c : Code} {D : va_G} {cy : Nat → ClassId} {B szC szM cells slots N : Nat} {shC shM : jm_S} {Inv : jm_M → jm_M → Prop} {b L : Nat} {xs : Nat → Int32} {Q : State → Prop} (C : jCx p s mi #[.ref b] meth c cL_law 4 RL (some .boolean) D cy) (hX : va_X b L xs s s.heap) (hbl : b < s.heap.size) (hL : L ≤ 320) (hcs : cells ≤ room_1.cells ∧ slots ≤ room_1.slots) (hC1 : shC 1 = (11, 10)) (hM1 : shM 1 = (12, 34)) (hop : jOp_fault N shC shM Inv) {x3 : Int} (h3 : jIn x3) (h30 : 0 ≤ x3) (h35 : x3 + 5 ≤ L) {H : Heap} {locs : List Loc} {ls : Array Slot} {mC mM : jm_M} (hI : Inv mC mM) (S : jH2 D cy B szC szM shC shM s H locs mC mM) (Lc : jL ls [some (.ref b), some (jR B 1), some (jR (B + szC) 1), some (jI x3)]) (K : ∀ (H : Heap) (locs : List Loc) (mC mM : jm_M), Inv mC mM → jH2 D cy B szC szM shC shM s H locs mC mM → W p l e room_1 s mi #[.ref b] below meth c H locs cells slots Q (F0 mi 779 ls [])) : W p l e room_1 s mi #[.ref b] below meth c H locs cells slots Q (F0 mi 209 ls []) := by
  obtain ⟨r, nC, nM, eC, eM, hI2⟩ := hop mC mM   hI
  refine jr_aload_n (pc := 209) C Lc dL_law_209 rfl rfl ?_
  refine jl_callC (pc := 210) C S Lc (As := []) (rest := []) (c_X11_fault  eC) mv_X11_fault ml_L_28 rfl hC1 ⟨Nat.le_of_ble_eq_true rfl, Nat.le_of_ble_eq_true rfl⟩ rfl rfl rfl (Nat.le_of_ble_eq_true rfl) hcs dL_law_210 (fun pC H locs S => ?_)
  refine jr_aload_n (pc := 213) C Lc dL_law_213 rfl rfl ?_
  refine jl_callM (pc := 214) C S Lc (As := []) (rest := [jI r]) (c_X12_fault  eM) mv_X12_fault ml_L_31 rfl hM1 ⟨Nat.le_of_ble_eq_true rfl, Nat.le_of_ble_eq_true rfl⟩ rfl rfl rfl (Nat.le_of_ble_eq_true rfl) hcs dL_law_214 (fun pM H locs S => ?_)
  refine jr_icmp_eq (pc := 217) C pC pM (tgt := 779) dL_law_217 (by decide) (fun c1 => ?_) (fun c1 => absurd rfl c1)
  exact K H locs _ _ hI2 S
set_option maxHeartbeats 4000000 in
set_option maxRecDepth 100000 in
theorem lc_program {p : Program} {l : Launch} {e : Env} {s : State} {mi : MethodId} {below : List Frame} {meth : Method} {c : Code} {D : va_G} {cy : Nat → ClassId} {B szC szM cells slots N : Nat} {shC shM : jm_S} {Inv : jm_M → jm_M → Prop} {b L : Nat} {xs : Nat → Int32} {Q : State → Prop} (C : jCx p s mi #[.ref b] meth c cL_law 4 RL (some .boolean) D cy) (hX : va_X b L xs s s.heap) (hbl : b < s.heap.size) (hL : L ≤ 320) (hcs : cells ≤ room_1.cells ∧ slots ≤ room_1.slots) (hC1 : shC 1 = (11, 10)) (hM1 : shM 1 = (12, 34)) (hop : jOp_program N shC shM Inv) {x3 : Int} (h3 : jIn x3) (h30 : 0 ≤ x3) (h35 : x3 + 5 ≤ L) {H : Heap} {locs : List Loc} {ls : Array Slot} {mC mM : jm_M} (hI : Inv mC mM) (S : jH2 D cy B szC szM shC shM s H locs mC mM) (Lc : jL ls [some (.ref b), some (jR B 1), some (jR (B + szC) 1), some (jI x3)]) (K : ∀ (H : Heap) (locs : List Loc) (mC mM : jm_M), Inv mC mM → jH2 D cy B szC szM shC shM s H locs mC mM → W p l e room_1 s mi #[.ref b] below meth c H locs cells slots Q (F0 mi 779 ls [])) : W p l e room_1 s mi #[.ref b] below meth c H locs cells slots Q (F0 mi 222 ls []) := by
  obtain ⟨r, nC, nM, eC, eM, hI2⟩ := hop mC mM (jsx xs (jw (x3 + 1))) (jIn_sx _ _) hI
  have w1 : jw (x3 + 1) = x3 + 1 := jw_eq (by omega) (by omega)
  refine jr_aload_n (pc := 222) C Lc dL_law_222 rfl rfl ?_
  refine jl_aload0 (pc := 223) C Lc rfl dL_law_223 ?_
  refine jr_iload_n (pc := 224) C Lc dL_law_224 rfl rfl ?_
  refine jr_iconst (pc := 225) C dL_law_225 ?_
  refine jr_iadd (pc := 226) C dL_law_226 ?_
  refine jl_sld (pc := 227) C S hX hbl (jIn_w _) (by rw [w1]; omega) (by rw [w1]; omega) dL_law_227 ?_
  refine jl_callC (pc := 228) C S Lc (As := [jI (jsx xs (jw (x3 + 1)))]) (rest := []) (c_X11_program (jIn_sx _ _) eC) mv_X11_program ml_L_32 rfl hC1 ⟨Nat.le_of_ble_eq_true rfl, Nat.le_of_ble_eq_true rfl⟩ rfl rfl rfl (Nat.le_of_ble_eq_true rfl) hcs dL_law_228 (fun pC H locs S => ?_)
  refine jr_aload_n (pc := 231) C Lc dL_law_231 rfl rfl ?_
  refine jl_aload0 (pc := 232) C Lc rfl dL_law_232 ?_
  refine jr_iload_n (pc := 233) C Lc dL_law_233 rfl rfl ?_
  refine jr_iconst (pc := 234) C dL_law_234 ?_
  refine jr_iadd (pc := 235) C dL_law_235 ?_
  refine jl_sld (pc := 236) C S hX hbl (jIn_w _) (by rw [w1]; omega) (by rw [w1]; omega) dL_law_236 ?_
  refine jl_callM (pc := 237) C S Lc (As := [jI (jsx xs (jw (x3 + 1)))]) (rest := [jI r]) (c_X12_program (jIn_sx _ _) eM) mv_X12_program ml_L_35 rfl hM1 ⟨Nat.le_of_ble_eq_true rfl, Nat.le_of_ble_eq_true rfl⟩ rfl rfl rfl (Nat.le_of_ble_eq_true rfl) hcs dL_law_237 (fun pM H locs S => ?_)
  refine jr_icmp_eq (pc := 240) C pC pM (tgt := 779) dL_law_240 (by decide) (fun c1 => ?_) (fun c1 => absurd rfl c1)
  exact K H locs _ _ hI2 S
set_option maxHeartbeats 4000000 in
set_option maxRecDepth 100000 in
theorem lc_node {p : Program} {l : Launch} {e : Env} {s : State} {mi : MethodId} {below : List Frame} {meth : Method} {c : Code} {D : va_G} {cy : Nat → ClassId} {B szC szM cells slots N : Nat} {shC shM : jm_S} {Inv : jm_M → jm_M → Prop} {b L : Nat} {xs : Nat → Int32} {Q : State → Prop} (C : jCx p s mi #[.ref b] meth c cL_law 4 RL (some .boolean) D cy) (hX : va_X b L xs s s.heap) (hbl : b < s.heap.size) (hL : L ≤ 320) (hcs : cells ≤ room_1.cells ∧ slots ≤ room_1.slots) (hC1 : shC 1 = (11, 10)) (hM1 : shM 1 = (12, 34)) (hop : jOp_node N shC shM Inv) {x3 : Int} (h3 : jIn x3) (h30 : 0 ≤ x3) (h35 : x3 + 5 ≤ L) {H : Heap} {locs : List Loc} {ls : Array Slot} {mC mM : jm_M} (hI : Inv mC mM) (S : jH2 D cy B szC szM shC shM s H locs mC mM) (Lc : jL ls [some (.ref b), some (jR B 1), some (jR (B + szC) 1), some (jI x3)]) (K : ∀ (H : Heap) (locs : List Loc) (mC mM : jm_M), Inv mC mM → jH2 D cy B szC szM shC shM s H locs mC mM → W p l e room_1 s mi #[.ref b] below meth c H locs cells slots Q (F0 mi 779 ls [])) : W p l e room_1 s mi #[.ref b] below meth c H locs cells slots Q (F0 mi 245 ls []) := by
  obtain ⟨r, nC, nM, eC, eM, hI2⟩ := hop mC mM (jsx xs (jw (x3 + 1))) (jsx xs (jw (x3 + 2))) (jsx xs (jw (x3 + 3))) (jIn_sx _ _) (jIn_sx _ _) (jIn_sx _ _) hI
  obtain ⟨eC, rfl⟩ := eC
  obtain ⟨eM, rfl⟩ := eM
  have w1 : jw (x3 + 1) = x3 + 1 := jw_eq (by omega) (by omega)
  have w2 : jw (x3 + 2) = x3 + 2 := jw_eq (by omega) (by omega)
  have w3 : jw (x3 + 3) = x3 + 3 := jw_eq (by omega) (by omega)
  refine jr_aload_n (pc := 245) C Lc dL_law_245 rfl rfl ?_
  refine jl_aload0 (pc := 246) C Lc rfl dL_law_246 ?_
  refine jr_iload_n (pc := 247) C Lc dL_law_247 rfl rfl ?_
  refine jr_iconst (pc := 248) C dL_law_248 ?_
  refine jr_iadd (pc := 249) C dL_law_249 ?_
  refine jl_sld (pc := 250) C S hX hbl (jIn_w _) (by rw [w1]; omega) (by rw [w1]; omega) dL_law_250 ?_
  refine jl_aload0 (pc := 251) C Lc rfl dL_law_251 ?_
  refine jr_iload_n (pc := 252) C Lc dL_law_252 rfl rfl ?_
  refine jr_iconst (pc := 253) C dL_law_253 ?_
  refine jr_iadd (pc := 254) C dL_law_254 ?_
  refine jl_sld (pc := 255) C S hX hbl (jIn_w _) (by rw [w2]; omega) (by rw [w2]; omega) dL_law_255 ?_
  refine jl_aload0 (pc := 256) C Lc rfl dL_law_256 ?_
  refine jr_iload_n (pc := 257) C Lc dL_law_257 rfl rfl ?_
  refine jr_iconst (pc := 258) C dL_law_258 ?_
  refine jr_iadd (pc := 259) C dL_law_259 ?_
  refine jl_sld (pc := 260) C S hX hbl (jIn_w _) (by rw [w3]; omega) (by rw [w3]; omega) dL_law_260 ?_
  refine jl_callC (pc := 261) C S Lc (As := [jI (jsx xs (jw (x3 + 1))), jI (jsx xs (jw (x3 + 2))), jI (jsx xs (jw (x3 + 3)))]) (rest := []) (c_X11_node (jIn_sx _ _) (jIn_sx _ _) (jIn_sx _ _) eC) mv_X11_node ml_L_36 rfl hC1 ⟨Nat.le_of_ble_eq_true rfl, Nat.le_of_ble_eq_true rfl⟩ rfl rfl rfl (Nat.le_of_ble_eq_true rfl) hcs dL_law_261 (fun pC H locs S => ?_)
  refine jr_aload_n (pc := 264) C Lc dL_law_264 rfl rfl ?_
  refine jl_aload0 (pc := 265) C Lc rfl dL_law_265 ?_
  refine jr_iload_n (pc := 266) C Lc dL_law_266 rfl rfl ?_
  refine jr_iconst (pc := 267) C dL_law_267 ?_
  refine jr_iadd (pc := 268) C dL_law_268 ?_
  refine jl_sld (pc := 269) C S hX hbl (jIn_w _) (by rw [w1]; omega) (by rw [w1]; omega) dL_law_269 ?_
  refine jl_aload0 (pc := 270) C Lc rfl dL_law_270 ?_
  refine jr_iload_n (pc := 271) C Lc dL_law_271 rfl rfl ?_
  refine jr_iconst (pc := 272) C dL_law_272 ?_
  refine jr_iadd (pc := 273) C dL_law_273 ?_
  refine jl_sld (pc := 274) C S hX hbl (jIn_w _) (by rw [w2]; omega) (by rw [w2]; omega) dL_law_274 ?_
  refine jl_aload0 (pc := 275) C Lc rfl dL_law_275 ?_
  refine jr_iload_n (pc := 276) C Lc dL_law_276 rfl rfl ?_
  refine jr_iconst (pc := 277) C dL_law_277 ?_
  refine jr_iadd (pc := 278) C dL_law_278 ?_
  refine jl_sld (pc := 279) C S hX hbl (jIn_w _) (by rw [w3]; omega) (by rw [w3]; omega) dL_law_279 ?_
  refine jl_callM (pc := 280) C S Lc (As := [jI (jsx xs (jw (x3 + 1))), jI (jsx xs (jw (x3 + 2))), jI (jsx xs (jw (x3 + 3)))]) (rest := [jI r]) (c_X12_node (jIn_sx _ _) (jIn_sx _ _) (jIn_sx _ _) eM) mv_X12_node ml_L_40 rfl hM1 ⟨Nat.le_of_ble_eq_true rfl, Nat.le_of_ble_eq_true rfl⟩ rfl rfl rfl (Nat.le_of_ble_eq_true rfl) hcs dL_law_280 (fun pM H locs S => ?_)
  refine jr_icmp_eq (pc := 283) C pC pM (tgt := 779) dL_law_283 (by decide) (fun c1 => ?_) (fun c1 => absurd rfl c1)
  exact K H locs _ _ hI2 S
set_option maxHeartbeats 4000000 in
set_option maxRecDepth 100000 in
theorem lc_choose {p : Program} {l : Launch} {e : Env} {s : State} {mi : MethodId} {below : List Frame} {meth : Method} {c : Code} {D : va_G} {cy : Nat → ClassId} {B szC szM cells slots N : Nat} {shC shM : jm_S} {Inv : jm_M → jm_M → Prop} {b L : Nat} {xs : Nat → Int32} {Q : State → Prop} (C : jCx p s mi #[.ref b] meth c cL_law 4 RL (some .boolean) D cy) (hX : va_X b L xs s s.heap) (hbl : b < s.heap.size) (hL : L ≤ 320) (hcs : cells ≤ room_1.cells ∧ slots ≤ room_1.slots) (hC1 : shC 1 = (11, 10)) (hM1 : shM 1 = (12, 34)) (hop : jOp_choose N shC shM Inv) {x3 : Int} (h3 : jIn x3) (h30 : 0 ≤ x3) (h35 : x3 + 5 ≤ L) {H : Heap} {locs : List Loc} {ls : Array Slot} {mC mM : jm_M} (hI : Inv mC mM) (S : jH2 D cy B szC szM shC shM s H locs mC mM) (Lc : jL ls [some (.ref b), some (jR B 1), some (jR (B + szC) 1), some (jI x3)]) (K : ∀ (H : Heap) (locs : List Loc) (mC mM : jm_M), Inv mC mM → jH2 D cy B szC szM shC shM s H locs mC mM → W p l e room_1 s mi #[.ref b] below meth c H locs cells slots Q (F0 mi 779 ls [])) : W p l e room_1 s mi #[.ref b] below meth c H locs cells slots Q (F0 mi 288 ls []) := by
  obtain ⟨r, nC, nM, eC, eM, hI2⟩ := hop mC mM (jsx xs (jw (x3 + 1))) (jIn_sx _ _) hI
  have w1 : jw (x3 + 1) = x3 + 1 := jw_eq (by omega) (by omega)
  refine jr_aload_n (pc := 288) C Lc dL_law_288 rfl rfl ?_
  refine jl_aload0 (pc := 289) C Lc rfl dL_law_289 ?_
  refine jr_iload_n (pc := 290) C Lc dL_law_290 rfl rfl ?_
  refine jr_iconst (pc := 291) C dL_law_291 ?_
  refine jr_iadd (pc := 292) C dL_law_292 ?_
  refine jl_sld (pc := 293) C S hX hbl (jIn_w _) (by rw [w1]; omega) (by rw [w1]; omega) dL_law_293 ?_
  refine jl_callC (pc := 294) C S Lc (As := [jI (jsx xs (jw (x3 + 1)))]) (rest := []) (c_X11_choose (jIn_sx _ _) eC) mv_X11_choose ml_L_41 rfl hC1 ⟨Nat.le_of_ble_eq_true rfl, Nat.le_of_ble_eq_true rfl⟩ rfl rfl rfl (Nat.le_of_ble_eq_true rfl) hcs dL_law_294 (fun pC H locs S => ?_)
  refine jr_aload_n (pc := 297) C Lc dL_law_297 rfl rfl ?_
  refine jl_aload0 (pc := 298) C Lc rfl dL_law_298 ?_
  refine jr_iload_n (pc := 299) C Lc dL_law_299 rfl rfl ?_
  refine jr_iconst (pc := 300) C dL_law_300 ?_
  refine jr_iadd (pc := 301) C dL_law_301 ?_
  refine jl_sld (pc := 302) C S hX hbl (jIn_w _) (by rw [w1]; omega) (by rw [w1]; omega) dL_law_302 ?_
  refine jl_callM (pc := 303) C S Lc (As := [jI (jsx xs (jw (x3 + 1)))]) (rest := [jI r]) (c_X12_choose (jIn_sx _ _) eM) mv_X12_choose ml_L_44 rfl hM1 ⟨Nat.le_of_ble_eq_true rfl, Nat.le_of_ble_eq_true rfl⟩ rfl rfl rfl (Nat.le_of_ble_eq_true rfl) hcs dL_law_303 (fun pM H locs S => ?_)
  refine jr_icmp_eq (pc := 306) C pC pM (tgt := 779) dL_law_306 (by decide) (fun c1 => ?_) (fun c1 => absurd rfl c1)
  exact K H locs _ _ hI2 S
set_option maxHeartbeats 4000000 in
set_option maxRecDepth 100000 in
theorem lc_forget {p : Program} {l : Launch} {e : Env} {s : State} {mi : MethodId} {below : List Frame} {meth : Method} {c : Code} {D : va_G} {cy : Nat → ClassId} {B szC szM cells slots N : Nat} {shC shM : jm_S} {Inv : jm_M → jm_M → Prop} {b L : Nat} {xs : Nat → Int32} {Q : State → Prop} (C : jCx p s mi #[.ref b] meth c cL_law 4 RL (some .boolean) D cy) (hX : va_X b L xs s s.heap) (hbl : b < s.heap.size) (hL : L ≤ 320) (hcs : cells ≤ room_1.cells ∧ slots ≤ room_1.slots) (hC1 : shC 1 = (11, 10)) (hM1 : shM 1 = (12, 34)) (hop : jOp_forget N shC shM Inv) {x3 : Int} (h3 : jIn x3) (h30 : 0 ≤ x3) (h35 : x3 + 5 ≤ L) {H : Heap} {locs : List Loc} {ls : Array Slot} {mC mM : jm_M} (hI : Inv mC mM) (S : jH2 D cy B szC szM shC shM s H locs mC mM) (Lc : jL ls [some (.ref b), some (jR B 1), some (jR (B + szC) 1), some (jI x3)]) (K : ∀ (H : Heap) (locs : List Loc) (mC mM : jm_M), Inv mC mM → jH2 D cy B szC szM shC shM s H locs mC mM → W p l e room_1 s mi #[.ref b] below meth c H locs cells slots Q (F0 mi 779 ls [])) : W p l e room_1 s mi #[.ref b] below meth c H locs cells slots Q (F0 mi 311 ls []) := by
  obtain ⟨r, nC, nM, eC, eM, hI2⟩ := hop mC mM   hI
  refine jr_aload_n (pc := 311) C Lc dL_law_311 rfl rfl ?_
  refine jl_callC (pc := 312) C S Lc (As := []) (rest := []) (c_X11_forget  eC) mv_X11_forget ml_L_45 rfl hC1 ⟨Nat.le_of_ble_eq_true rfl, Nat.le_of_ble_eq_true rfl⟩ rfl rfl rfl (Nat.le_of_ble_eq_true rfl) hcs dL_law_312 (fun pC H locs S => ?_)
  refine jr_aload_n (pc := 315) C Lc dL_law_315 rfl rfl ?_
  refine jl_callM (pc := 316) C S Lc (As := []) (rest := [jI r]) (c_X12_forget  eM) mv_X12_forget ml_L_48 rfl hM1 ⟨Nat.le_of_ble_eq_true rfl, Nat.le_of_ble_eq_true rfl⟩ rfl rfl rfl (Nat.le_of_ble_eq_true rfl) hcs dL_law_316 (fun pM H locs S => ?_)
  refine jr_icmp_eq (pc := 319) C pC pM (tgt := 779) dL_law_319 (by decide) (fun c1 => ?_) (fun c1 => absurd rfl c1)
  exact K H locs _ _ hI2 S
set_option maxHeartbeats 4000000 in
set_option maxRecDepth 100000 in
theorem lc_run {p : Program} {l : Launch} {e : Env} {s : State} {mi : MethodId} {below : List Frame} {meth : Method} {c : Code} {D : va_G} {cy : Nat → ClassId} {B szC szM cells slots N : Nat} {shC shM : jm_S} {Inv : jm_M → jm_M → Prop} {b L : Nat} {xs : Nat → Int32} {Q : State → Prop} (C : jCx p s mi #[.ref b] meth c cL_law 4 RL (some .boolean) D cy) (hX : va_X b L xs s s.heap) (hbl : b < s.heap.size) (hL : L ≤ 320) (hcs : cells ≤ room_1.cells ∧ slots ≤ room_1.slots) (hC1 : shC 1 = (11, 10)) (hM1 : shM 1 = (12, 34)) (hop : jOp_run N shC shM Inv) {x3 : Int} (h3 : jIn x3) (h30 : 0 ≤ x3) (h35 : x3 + 5 ≤ L) {H : Heap} {locs : List Loc} {ls : Array Slot} {mC mM : jm_M} (hI : Inv mC mM) (S : jH2 D cy B szC szM shC shM s H locs mC mM) (Lc : jL ls [some (.ref b), some (jR B 1), some (jR (B + szC) 1), some (jI x3)]) (K : ∀ (H : Heap) (locs : List Loc) (mC mM : jm_M), Inv mC mM → jH2 D cy B szC szM shC shM s H locs mC mM → W p l e room_1 s mi #[.ref b] below meth c H locs cells slots Q (F0 mi 779 ls [])) : W p l e room_1 s mi #[.ref b] below meth c H locs cells slots Q (F0 mi 324 ls []) := by
  obtain ⟨r, nC, nM, eC, eM, hI2⟩ := hop mC mM (jsx xs (jw (x3 + 1))) (jsx xs (jw (x3 + 2))) (jIn_sx _ _) (jIn_sx _ _) hI
  have w1 : jw (x3 + 1) = x3 + 1 := jw_eq (by omega) (by omega)
  have w2 : jw (x3 + 2) = x3 + 2 := jw_eq (by omega) (by omega)
  refine jr_aload_n (pc := 324) C Lc dL_law_324 rfl rfl ?_
  refine jl_aload0 (pc := 325) C Lc rfl dL_law_325 ?_
  refine jr_iload_n (pc := 326) C Lc dL_law_326 rfl rfl ?_
  refine jr_iconst (pc := 327) C dL_law_327 ?_
  refine jr_iadd (pc := 328) C dL_law_328 ?_
  refine jl_sld (pc := 329) C S hX hbl (jIn_w _) (by rw [w1]; omega) (by rw [w1]; omega) dL_law_329 ?_
  refine jl_aload0 (pc := 330) C Lc rfl dL_law_330 ?_
  refine jr_iload_n (pc := 331) C Lc dL_law_331 rfl rfl ?_
  refine jr_iconst (pc := 332) C dL_law_332 ?_
  refine jr_iadd (pc := 333) C dL_law_333 ?_
  refine jl_sld (pc := 334) C S hX hbl (jIn_w _) (by rw [w2]; omega) (by rw [w2]; omega) dL_law_334 ?_
  refine jl_callC (pc := 335) C S Lc (As := [jI (jsx xs (jw (x3 + 1))), jI (jsx xs (jw (x3 + 2)))]) (rest := []) (c_X11_run (jIn_sx _ _) (jIn_sx _ _) eC) mv_X11_run ml_L_49 rfl hC1 ⟨Nat.le_of_ble_eq_true rfl, Nat.le_of_ble_eq_true rfl⟩ rfl rfl rfl (Nat.le_of_ble_eq_true rfl) hcs dL_law_335 (fun pC H locs S => ?_)
  refine jr_aload_n (pc := 338) C Lc dL_law_338 rfl rfl ?_
  refine jl_aload0 (pc := 339) C Lc rfl dL_law_339 ?_
  refine jr_iload_n (pc := 340) C Lc dL_law_340 rfl rfl ?_
  refine jr_iconst (pc := 341) C dL_law_341 ?_
  refine jr_iadd (pc := 342) C dL_law_342 ?_
  refine jl_sld (pc := 343) C S hX hbl (jIn_w _) (by rw [w1]; omega) (by rw [w1]; omega) dL_law_343 ?_
  refine jl_aload0 (pc := 344) C Lc rfl dL_law_344 ?_
  refine jr_iload_n (pc := 345) C Lc dL_law_345 rfl rfl ?_
  refine jr_iconst (pc := 346) C dL_law_346 ?_
  refine jr_iadd (pc := 347) C dL_law_347 ?_
  refine jl_sld (pc := 348) C S hX hbl (jIn_w _) (by rw [w2]; omega) (by rw [w2]; omega) dL_law_348 ?_
  refine jl_callM (pc := 349) C S Lc (As := [jI (jsx xs (jw (x3 + 1))), jI (jsx xs (jw (x3 + 2)))]) (rest := [jI r]) (c_X12_run (jIn_sx _ _) (jIn_sx _ _) eM) mv_X12_run ml_L_52 rfl hM1 ⟨Nat.le_of_ble_eq_true rfl, Nat.le_of_ble_eq_true rfl⟩ rfl rfl rfl (Nat.le_of_ble_eq_true rfl) hcs dL_law_349 (fun pM H locs S => ?_)
  refine jr_icmp_eq (pc := 352) C pC pM (tgt := 779) dL_law_352 (by decide) (fun c1 => ?_) (fun c1 => absurd rfl c1)
  exact K H locs _ _ hI2 S
set_option maxHeartbeats 4000000 in
set_option maxRecDepth 100000 in
theorem lc_most {p : Program} {l : Launch} {e : Env} {s : State} {mi : MethodId} {below : List Frame} {meth : Method} {c : Code} {D : va_G} {cy : Nat → ClassId} {B szC szM cells slots N : Nat} {shC shM : jm_S} {Inv : jm_M → jm_M → Prop} {b L : Nat} {xs : Nat → Int32} {Q : State → Prop} (C : jCx p s mi #[.ref b] meth c cL_law 4 RL (some .boolean) D cy) (hX : va_X b L xs s s.heap) (hbl : b < s.heap.size) (hL : L ≤ 320) (hcs : cells ≤ room_1.cells ∧ slots ≤ room_1.slots) (hC1 : shC 1 = (11, 10)) (hM1 : shM 1 = (12, 34)) (hop : jOp_most N shC shM Inv) {x3 : Int} (h3 : jIn x3) (h30 : 0 ≤ x3) (h35 : x3 + 5 ≤ L) {H : Heap} {locs : List Loc} {ls : Array Slot} {mC mM : jm_M} (hI : Inv mC mM) (S : jH2 D cy B szC szM shC shM s H locs mC mM) (Lc : jL ls [some (.ref b), some (jR B 1), some (jR (B + szC) 1), some (jI x3)]) (K : ∀ (H : Heap) (locs : List Loc) (mC mM : jm_M), Inv mC mM → jH2 D cy B szC szM shC shM s H locs mC mM → W p l e room_1 s mi #[.ref b] below meth c H locs cells slots Q (F0 mi 779 ls [])) : W p l e room_1 s mi #[.ref b] below meth c H locs cells slots Q (F0 mi 357 ls []) := by
  obtain ⟨r, nC, nM, eC, eM, hI2⟩ := hop mC mM (jsx xs (jw (x3 + 1))) (jsx xs (jw (x3 + 2))) (jIn_sx _ _) (jIn_sx _ _) hI
  have w1 : jw (x3 + 1) = x3 + 1 := jw_eq (by omega) (by omega)
  have w2 : jw (x3 + 2) = x3 + 2 := jw_eq (by omega) (by omega)
  refine jr_aload_n (pc := 357) C Lc dL_law_357 rfl rfl ?_
  refine jl_aload0 (pc := 358) C Lc rfl dL_law_358 ?_
  refine jr_iload_n (pc := 359) C Lc dL_law_359 rfl rfl ?_
  refine jr_iconst (pc := 360) C dL_law_360 ?_
  refine jr_iadd (pc := 361) C dL_law_361 ?_
  refine jl_sld (pc := 362) C S hX hbl (jIn_w _) (by rw [w1]; omega) (by rw [w1]; omega) dL_law_362 ?_
  refine jl_aload0 (pc := 363) C Lc rfl dL_law_363 ?_
  refine jr_iload_n (pc := 364) C Lc dL_law_364 rfl rfl ?_
  refine jr_iconst (pc := 365) C dL_law_365 ?_
  refine jr_iadd (pc := 366) C dL_law_366 ?_
  refine jl_sld (pc := 367) C S hX hbl (jIn_w _) (by rw [w2]; omega) (by rw [w2]; omega) dL_law_367 ?_
  refine jl_callC (pc := 368) C S Lc (As := [jI (jsx xs (jw (x3 + 1))), jI (jsx xs (jw (x3 + 2)))]) (rest := []) (c_X11_most (jIn_sx _ _) (jIn_sx _ _) eC) mv_X11_most ml_L_53 rfl hC1 ⟨Nat.le_of_ble_eq_true rfl, Nat.le_of_ble_eq_true rfl⟩ rfl rfl rfl (Nat.le_of_ble_eq_true rfl) hcs dL_law_368 (fun pC H locs S => ?_)
  refine jr_aload_n (pc := 371) C Lc dL_law_371 rfl rfl ?_
  refine jl_aload0 (pc := 372) C Lc rfl dL_law_372 ?_
  refine jr_iload_n (pc := 373) C Lc dL_law_373 rfl rfl ?_
  refine jr_iconst (pc := 374) C dL_law_374 ?_
  refine jr_iadd (pc := 375) C dL_law_375 ?_
  refine jl_sld (pc := 376) C S hX hbl (jIn_w _) (by rw [w1]; omega) (by rw [w1]; omega) dL_law_376 ?_
  refine jl_aload0 (pc := 377) C Lc rfl dL_law_377 ?_
  refine jr_iload_n (pc := 378) C Lc dL_law_378 rfl rfl ?_
  refine jr_iconst (pc := 379) C dL_law_379 ?_
  refine jr_iadd (pc := 380) C dL_law_380 ?_
  refine jl_sld (pc := 381) C S hX hbl (jIn_w _) (by rw [w2]; omega) (by rw [w2]; omega) dL_law_381 ?_
  refine jl_callM (pc := 382) C S Lc (As := [jI (jsx xs (jw (x3 + 1))), jI (jsx xs (jw (x3 + 2)))]) (rest := [jI r]) (c_X12_most (jIn_sx _ _) (jIn_sx _ _) eM) mv_X12_most ml_L_56 rfl hM1 ⟨Nat.le_of_ble_eq_true rfl, Nat.le_of_ble_eq_true rfl⟩ rfl rfl rfl (Nat.le_of_ble_eq_true rfl) hcs dL_law_382 (fun pM H locs S => ?_)
  refine jr_icmp_eq (pc := 385) C pC pM (tgt := 779) dL_law_385 (by decide) (fun c1 => ?_) (fun c1 => absurd rfl c1)
  exact K H locs _ _ hI2 S
set_option maxHeartbeats 4000000 in
set_option maxRecDepth 100000 in
theorem lc_row {p : Program} {l : Launch} {e : Env} {s : State} {mi : MethodId} {below : List Frame} {meth : Method} {c : Code} {D : va_G} {cy : Nat → ClassId} {B szC szM cells slots N : Nat} {shC shM : jm_S} {Inv : jm_M → jm_M → Prop} {b L : Nat} {xs : Nat → Int32} {Q : State → Prop} (C : jCx p s mi #[.ref b] meth c cL_law 4 RL (some .boolean) D cy) (hX : va_X b L xs s s.heap) (hbl : b < s.heap.size) (hL : L ≤ 320) (hcs : cells ≤ room_1.cells ∧ slots ≤ room_1.slots) (hC1 : shC 1 = (11, 10)) (hM1 : shM 1 = (12, 34)) (hop : jOp_row N shC shM Inv) {x3 : Int} (h3 : jIn x3) (h30 : 0 ≤ x3) (h35 : x3 + 5 ≤ L) {H : Heap} {locs : List Loc} {ls : Array Slot} {mC mM : jm_M} (hI : Inv mC mM) (S : jH2 D cy B szC szM shC shM s H locs mC mM) (Lc : jL ls [some (.ref b), some (jR B 1), some (jR (B + szC) 1), some (jI x3)]) (K : ∀ (H : Heap) (locs : List Loc) (mC mM : jm_M), Inv mC mM → jH2 D cy B szC szM shC shM s H locs mC mM → W p l e room_1 s mi #[.ref b] below meth c H locs cells slots Q (F0 mi 779 ls [])) : W p l e room_1 s mi #[.ref b] below meth c H locs cells slots Q (F0 mi 390 ls []) := by
  obtain ⟨r, nC, nM, eC, eM, hI2⟩ := hop mC mM (jsx xs (jw (x3 + 1))) (jsx xs (jw (x3 + 2))) (jIn_sx _ _) (jIn_sx _ _) hI
  have w1 : jw (x3 + 1) = x3 + 1 := jw_eq (by omega) (by omega)
  have w2 : jw (x3 + 2) = x3 + 2 := jw_eq (by omega) (by omega)
  refine jr_aload_n (pc := 390) C Lc dL_law_390 rfl rfl ?_
  refine jl_aload0 (pc := 391) C Lc rfl dL_law_391 ?_
  refine jr_iload_n (pc := 392) C Lc dL_law_392 rfl rfl ?_
  refine jr_iconst (pc := 393) C dL_law_393 ?_
  refine jr_iadd (pc := 394) C dL_law_394 ?_
  refine jl_sld (pc := 395) C S hX hbl (jIn_w _) (by rw [w1]; omega) (by rw [w1]; omega) dL_law_395 ?_
  refine jl_aload0 (pc := 396) C Lc rfl dL_law_396 ?_
  refine jr_iload_n (pc := 397) C Lc dL_law_397 rfl rfl ?_
  refine jr_iconst (pc := 398) C dL_law_398 ?_
  refine jr_iadd (pc := 399) C dL_law_399 ?_
  refine jl_sld (pc := 400) C S hX hbl (jIn_w _) (by rw [w2]; omega) (by rw [w2]; omega) dL_law_400 ?_
  refine jl_callC (pc := 401) C S Lc (As := [jI (jsx xs (jw (x3 + 1))), jI (jsx xs (jw (x3 + 2)))]) (rest := []) (c_X11_row (jIn_sx _ _) (jIn_sx _ _) eC) mv_X11_row ml_L_57 rfl hC1 ⟨Nat.le_of_ble_eq_true rfl, Nat.le_of_ble_eq_true rfl⟩ rfl rfl rfl (Nat.le_of_ble_eq_true rfl) hcs dL_law_401 (fun pC H locs S => ?_)
  refine jr_aload_n (pc := 404) C Lc dL_law_404 rfl rfl ?_
  refine jl_aload0 (pc := 405) C Lc rfl dL_law_405 ?_
  refine jr_iload_n (pc := 406) C Lc dL_law_406 rfl rfl ?_
  refine jr_iconst (pc := 407) C dL_law_407 ?_
  refine jr_iadd (pc := 408) C dL_law_408 ?_
  refine jl_sld (pc := 409) C S hX hbl (jIn_w _) (by rw [w1]; omega) (by rw [w1]; omega) dL_law_409 ?_
  refine jl_aload0 (pc := 410) C Lc rfl dL_law_410 ?_
  refine jr_iload_n (pc := 411) C Lc dL_law_411 rfl rfl ?_
  refine jr_iconst (pc := 412) C dL_law_412 ?_
  refine jr_iadd (pc := 413) C dL_law_413 ?_
  refine jl_sld (pc := 414) C S hX hbl (jIn_w _) (by rw [w2]; omega) (by rw [w2]; omega) dL_law_414 ?_
  refine jl_callM (pc := 415) C S Lc (As := [jI (jsx xs (jw (x3 + 1))), jI (jsx xs (jw (x3 + 2)))]) (rest := [jI r]) (c_X12_row (jIn_sx _ _) (jIn_sx _ _) eM) mv_X12_row ml_L_60 rfl hM1 ⟨Nat.le_of_ble_eq_true rfl, Nat.le_of_ble_eq_true rfl⟩ rfl rfl rfl (Nat.le_of_ble_eq_true rfl) hcs dL_law_415 (fun pM H locs S => ?_)
  refine jr_icmp_eq (pc := 418) C pC pM (tgt := 779) dL_law_418 (by decide) (fun c1 => ?_) (fun c1 => absurd rfl c1)
  exact K H locs _ _ hI2 S
set_option maxHeartbeats 4000000 in
set_option maxRecDepth 100000 in
theorem lc_age {p : Program} {l : Launch} {e : Env} {s : State} {mi : MethodId} {below : List Frame} {meth : Method} {c : Code} {D : va_G} {cy : Nat → ClassId} {B szC szM cells slots N : Nat} {shC shM : jm_S} {Inv : jm_M → jm_M → Prop} {b L : Nat} {xs : Nat → Int32} {Q : State → Prop} (C : jCx p s mi #[.ref b] meth c cL_law 4 RL (some .boolean) D cy) (hX : va_X b L xs s s.heap) (hbl : b < s.heap.size) (hL : L ≤ 320) (hcs : cells ≤ room_1.cells ∧ slots ≤ room_1.slots) (hC1 : shC 1 = (11, 10)) (hM1 : shM 1 = (12, 34)) (hop : jOp_age N shC shM Inv) {x3 : Int} (h3 : jIn x3) (h30 : 0 ≤ x3) (h35 : x3 + 5 ≤ L) {H : Heap} {locs : List Loc} {ls : Array Slot} {mC mM : jm_M} (hI : Inv mC mM) (S : jH2 D cy B szC szM shC shM s H locs mC mM) (Lc : jL ls [some (.ref b), some (jR B 1), some (jR (B + szC) 1), some (jI x3)]) (K : ∀ (H : Heap) (locs : List Loc) (mC mM : jm_M), Inv mC mM → jH2 D cy B szC szM shC shM s H locs mC mM → W p l e room_1 s mi #[.ref b] below meth c H locs cells slots Q (F0 mi 779 ls [])) : W p l e room_1 s mi #[.ref b] below meth c H locs cells slots Q (F0 mi 423 ls []) := by
  obtain ⟨r, nC, nM, eC, eM, hI2⟩ := hop mC mM (jsx xs (jw (x3 + 1))) (jsx xs (jw (x3 + 2))) (jsx xs (jw (x3 + 3))) (jsx xs (jw (x3 + 4))) (jIn_sx _ _) (jIn_sx _ _) (jIn_sx _ _) (jIn_sx _ _) hI
  have w1 : jw (x3 + 1) = x3 + 1 := jw_eq (by omega) (by omega)
  have w2 : jw (x3 + 2) = x3 + 2 := jw_eq (by omega) (by omega)
  have w3 : jw (x3 + 3) = x3 + 3 := jw_eq (by omega) (by omega)
  have w4 : jw (x3 + 4) = x3 + 4 := jw_eq (by omega) (by omega)
  refine jr_aload_n (pc := 423) C Lc dL_law_423 rfl rfl ?_
  refine jl_aload0 (pc := 424) C Lc rfl dL_law_424 ?_
  refine jr_iload_n (pc := 425) C Lc dL_law_425 rfl rfl ?_
  refine jr_iconst (pc := 426) C dL_law_426 ?_
  refine jr_iadd (pc := 427) C dL_law_427 ?_
  refine jl_sld (pc := 428) C S hX hbl (jIn_w _) (by rw [w1]; omega) (by rw [w1]; omega) dL_law_428 ?_
  refine jl_aload0 (pc := 429) C Lc rfl dL_law_429 ?_
  refine jr_iload_n (pc := 430) C Lc dL_law_430 rfl rfl ?_
  refine jr_iconst (pc := 431) C dL_law_431 ?_
  refine jr_iadd (pc := 432) C dL_law_432 ?_
  refine jl_sld (pc := 433) C S hX hbl (jIn_w _) (by rw [w2]; omega) (by rw [w2]; omega) dL_law_433 ?_
  refine jl_aload0 (pc := 434) C Lc rfl dL_law_434 ?_
  refine jr_iload_n (pc := 435) C Lc dL_law_435 rfl rfl ?_
  refine jr_iconst (pc := 436) C dL_law_436 ?_
  refine jr_iadd (pc := 437) C dL_law_437 ?_
  refine jl_sld (pc := 438) C S hX hbl (jIn_w _) (by rw [w3]; omega) (by rw [w3]; omega) dL_law_438 ?_
  refine jl_aload0 (pc := 439) C Lc rfl dL_law_439 ?_
  refine jr_iload_n (pc := 440) C Lc dL_law_440 rfl rfl ?_
  refine jr_iconst (pc := 441) C dL_law_441 ?_
  refine jr_iadd (pc := 442) C dL_law_442 ?_
  refine jl_sld (pc := 443) C S hX hbl (jIn_w _) (by rw [w4]; omega) (by rw [w4]; omega) dL_law_443 ?_
  refine jl_callC (pc := 444) C S Lc (As := [jI (jsx xs (jw (x3 + 1))), jI (jsx xs (jw (x3 + 2))), jI (jsx xs (jw (x3 + 3))), jI (jsx xs (jw (x3 + 4)))]) (rest := []) (c_X11_age (jIn_sx _ _) (jIn_sx _ _) (jIn_sx _ _) (jIn_sx _ _) eC) mv_X11_age ml_L_61 rfl hC1 ⟨Nat.le_of_ble_eq_true rfl, Nat.le_of_ble_eq_true rfl⟩ rfl rfl rfl (Nat.le_of_ble_eq_true rfl) hcs dL_law_444 (fun pC H locs S => ?_)
  refine jr_aload_n (pc := 447) C Lc dL_law_447 rfl rfl ?_
  refine jl_aload0 (pc := 448) C Lc rfl dL_law_448 ?_
  refine jr_iload_n (pc := 449) C Lc dL_law_449 rfl rfl ?_
  refine jr_iconst (pc := 450) C dL_law_450 ?_
  refine jr_iadd (pc := 451) C dL_law_451 ?_
  refine jl_sld (pc := 452) C S hX hbl (jIn_w _) (by rw [w1]; omega) (by rw [w1]; omega) dL_law_452 ?_
  refine jl_aload0 (pc := 453) C Lc rfl dL_law_453 ?_
  refine jr_iload_n (pc := 454) C Lc dL_law_454 rfl rfl ?_
  refine jr_iconst (pc := 455) C dL_law_455 ?_
  refine jr_iadd (pc := 456) C dL_law_456 ?_
  refine jl_sld (pc := 457) C S hX hbl (jIn_w _) (by rw [w2]; omega) (by rw [w2]; omega) dL_law_457 ?_
  refine jl_aload0 (pc := 458) C Lc rfl dL_law_458 ?_
  refine jr_iload_n (pc := 459) C Lc dL_law_459 rfl rfl ?_
  refine jr_iconst (pc := 460) C dL_law_460 ?_
  refine jr_iadd (pc := 461) C dL_law_461 ?_
  refine jl_sld (pc := 462) C S hX hbl (jIn_w _) (by rw [w3]; omega) (by rw [w3]; omega) dL_law_462 ?_
  refine jl_aload0 (pc := 463) C Lc rfl dL_law_463 ?_
  refine jr_iload_n (pc := 464) C Lc dL_law_464 rfl rfl ?_
  refine jr_iconst (pc := 465) C dL_law_465 ?_
  refine jr_iadd (pc := 466) C dL_law_466 ?_
  refine jl_sld (pc := 467) C S hX hbl (jIn_w _) (by rw [w4]; omega) (by rw [w4]; omega) dL_law_467 ?_
  refine jl_callM (pc := 468) C S Lc (As := [jI (jsx xs (jw (x3 + 1))), jI (jsx xs (jw (x3 + 2))), jI (jsx xs (jw (x3 + 3))), jI (jsx xs (jw (x3 + 4)))]) (rest := [jI r]) (c_X12_age (jIn_sx _ _) (jIn_sx _ _) (jIn_sx _ _) (jIn_sx _ _) eM) mv_X12_age ml_L_65 rfl hM1 ⟨Nat.le_of_ble_eq_true rfl, Nat.le_of_ble_eq_true rfl⟩ rfl rfl rfl (Nat.le_of_ble_eq_true rfl) hcs dL_law_468 (fun pM H locs S => ?_)
  refine jr_icmp_eq (pc := 471) C pC pM (tgt := 779) dL_law_471 (by decide) (fun c1 => ?_) (fun c1 => absurd rfl c1)
  exact K H locs _ _ hI2 S
set_option maxHeartbeats 4000000 in
set_option maxRecDepth 100000 in
theorem lc_sort {p : Program} {l : Launch} {e : Env} {s : State} {mi : MethodId} {below : List Frame} {meth : Method} {c : Code} {D : va_G} {cy : Nat → ClassId} {B szC szM cells slots N : Nat} {shC shM : jm_S} {Inv : jm_M → jm_M → Prop} {b L : Nat} {xs : Nat → Int32} {Q : State → Prop} (C : jCx p s mi #[.ref b] meth c cL_law 4 RL (some .boolean) D cy) (hX : va_X b L xs s s.heap) (hbl : b < s.heap.size) (hL : L ≤ 320) (hcs : cells ≤ room_1.cells ∧ slots ≤ room_1.slots) (hC1 : shC 1 = (11, 10)) (hM1 : shM 1 = (12, 34)) (hop : jOp_sort N shC shM Inv) {x3 : Int} (h3 : jIn x3) (h30 : 0 ≤ x3) (h35 : x3 + 5 ≤ L) {H : Heap} {locs : List Loc} {ls : Array Slot} {mC mM : jm_M} (hI : Inv mC mM) (S : jH2 D cy B szC szM shC shM s H locs mC mM) (Lc : jL ls [some (.ref b), some (jR B 1), some (jR (B + szC) 1), some (jI x3)]) (K : ∀ (H : Heap) (locs : List Loc) (mC mM : jm_M), Inv mC mM → jH2 D cy B szC szM shC shM s H locs mC mM → W p l e room_1 s mi #[.ref b] below meth c H locs cells slots Q (F0 mi 779 ls [])) : W p l e room_1 s mi #[.ref b] below meth c H locs cells slots Q (F0 mi 476 ls []) := by
  obtain ⟨r, nC, nM, eC, eM, hI2⟩ := hop mC mM (jsx xs (jw (x3 + 1))) (jsx xs (jw (x3 + 2))) (jIn_sx _ _) (jIn_sx _ _) hI
  have w1 : jw (x3 + 1) = x3 + 1 := jw_eq (by omega) (by omega)
  have w2 : jw (x3 + 2) = x3 + 2 := jw_eq (by omega) (by omega)
  refine jr_aload_n (pc := 476) C Lc dL_law_476 rfl rfl ?_
  refine jl_aload0 (pc := 477) C Lc rfl dL_law_477 ?_
  refine jr_iload_n (pc := 478) C Lc dL_law_478 rfl rfl ?_
  refine jr_iconst (pc := 479) C dL_law_479 ?_
  refine jr_iadd (pc := 480) C dL_law_480 ?_
  refine jl_sld (pc := 481) C S hX hbl (jIn_w _) (by rw [w1]; omega) (by rw [w1]; omega) dL_law_481 ?_
  refine jl_aload0 (pc := 482) C Lc rfl dL_law_482 ?_
  refine jr_iload_n (pc := 483) C Lc dL_law_483 rfl rfl ?_
  refine jr_iconst (pc := 484) C dL_law_484 ?_
  refine jr_iadd (pc := 485) C dL_law_485 ?_
  refine jl_sld (pc := 486) C S hX hbl (jIn_w _) (by rw [w2]; omega) (by rw [w2]; omega) dL_law_486 ?_
  refine jl_callC (pc := 487) C S Lc (As := [jI (jsx xs (jw (x3 + 1))), jI (jsx xs (jw (x3 + 2)))]) (rest := []) (c_X11_sort (jIn_sx _ _) (jIn_sx _ _) eC) mv_X11_sort ml_L_66 rfl hC1 ⟨Nat.le_of_ble_eq_true rfl, Nat.le_of_ble_eq_true rfl⟩ rfl rfl rfl (Nat.le_of_ble_eq_true rfl) hcs dL_law_487 (fun pC H locs S => ?_)
  refine jr_aload_n (pc := 490) C Lc dL_law_490 rfl rfl ?_
  refine jl_aload0 (pc := 491) C Lc rfl dL_law_491 ?_
  refine jr_iload_n (pc := 492) C Lc dL_law_492 rfl rfl ?_
  refine jr_iconst (pc := 493) C dL_law_493 ?_
  refine jr_iadd (pc := 494) C dL_law_494 ?_
  refine jl_sld (pc := 495) C S hX hbl (jIn_w _) (by rw [w1]; omega) (by rw [w1]; omega) dL_law_495 ?_
  refine jl_aload0 (pc := 496) C Lc rfl dL_law_496 ?_
  refine jr_iload_n (pc := 497) C Lc dL_law_497 rfl rfl ?_
  refine jr_iconst (pc := 498) C dL_law_498 ?_
  refine jr_iadd (pc := 499) C dL_law_499 ?_
  refine jl_sld (pc := 500) C S hX hbl (jIn_w _) (by rw [w2]; omega) (by rw [w2]; omega) dL_law_500 ?_
  refine jl_callM (pc := 501) C S Lc (As := [jI (jsx xs (jw (x3 + 1))), jI (jsx xs (jw (x3 + 2)))]) (rest := [jI r]) (c_X12_sort (jIn_sx _ _) (jIn_sx _ _) eM) mv_X12_sort ml_L_69 rfl hM1 ⟨Nat.le_of_ble_eq_true rfl, Nat.le_of_ble_eq_true rfl⟩ rfl rfl rfl (Nat.le_of_ble_eq_true rfl) hcs dL_law_501 (fun pM H locs S => ?_)
  refine jr_icmp_eq (pc := 504) C pC pM (tgt := 779) dL_law_504 (by decide) (fun c1 => ?_) (fun c1 => absurd rfl c1)
  exact K H locs _ _ hI2 S
set_option maxHeartbeats 4000000 in
set_option maxRecDepth 100000 in
theorem lc_bound {p : Program} {l : Launch} {e : Env} {s : State} {mi : MethodId} {below : List Frame} {meth : Method} {c : Code} {D : va_G} {cy : Nat → ClassId} {B szC szM cells slots N : Nat} {shC shM : jm_S} {Inv : jm_M → jm_M → Prop} {b L : Nat} {xs : Nat → Int32} {Q : State → Prop} (C : jCx p s mi #[.ref b] meth c cL_law 4 RL (some .boolean) D cy) (hX : va_X b L xs s s.heap) (hbl : b < s.heap.size) (hL : L ≤ 320) (hcs : cells ≤ room_1.cells ∧ slots ≤ room_1.slots) (hC1 : shC 1 = (11, 10)) (hM1 : shM 1 = (12, 34)) (hop : jOp_bound N shC shM Inv) {x3 : Int} (h3 : jIn x3) (h30 : 0 ≤ x3) (h35 : x3 + 5 ≤ L) {H : Heap} {locs : List Loc} {ls : Array Slot} {mC mM : jm_M} (hI : Inv mC mM) (S : jH2 D cy B szC szM shC shM s H locs mC mM) (Lc : jL ls [some (.ref b), some (jR B 1), some (jR (B + szC) 1), some (jI x3)]) (K : ∀ (H : Heap) (locs : List Loc) (mC mM : jm_M), Inv mC mM → jH2 D cy B szC szM shC shM s H locs mC mM → W p l e room_1 s mi #[.ref b] below meth c H locs cells slots Q (F0 mi 779 ls [])) : W p l e room_1 s mi #[.ref b] below meth c H locs cells slots Q (F0 mi 509 ls []) := by
  obtain ⟨r, nC, nM, eC, eM, hI2⟩ := hop mC mM (jsx xs (jw (x3 + 1))) (jsx xs (jw (x3 + 2))) (jIn_sx _ _) (jIn_sx _ _) hI
  have w1 : jw (x3 + 1) = x3 + 1 := jw_eq (by omega) (by omega)
  have w2 : jw (x3 + 2) = x3 + 2 := jw_eq (by omega) (by omega)
  refine jr_aload_n (pc := 509) C Lc dL_law_509 rfl rfl ?_
  refine jl_aload0 (pc := 510) C Lc rfl dL_law_510 ?_
  refine jr_iload_n (pc := 511) C Lc dL_law_511 rfl rfl ?_
  refine jr_iconst (pc := 512) C dL_law_512 ?_
  refine jr_iadd (pc := 513) C dL_law_513 ?_
  refine jl_sld (pc := 514) C S hX hbl (jIn_w _) (by rw [w1]; omega) (by rw [w1]; omega) dL_law_514 ?_
  refine jl_aload0 (pc := 515) C Lc rfl dL_law_515 ?_
  refine jr_iload_n (pc := 516) C Lc dL_law_516 rfl rfl ?_
  refine jr_iconst (pc := 517) C dL_law_517 ?_
  refine jr_iadd (pc := 518) C dL_law_518 ?_
  refine jl_sld (pc := 519) C S hX hbl (jIn_w _) (by rw [w2]; omega) (by rw [w2]; omega) dL_law_519 ?_
  refine jl_callC (pc := 520) C S Lc (As := [jI (jsx xs (jw (x3 + 1))), jI (jsx xs (jw (x3 + 2)))]) (rest := []) (c_X11_bound (jIn_sx _ _) (jIn_sx _ _) eC) mv_X11_bound ml_L_70 rfl hC1 ⟨Nat.le_of_ble_eq_true rfl, Nat.le_of_ble_eq_true rfl⟩ rfl rfl rfl (Nat.le_of_ble_eq_true rfl) hcs dL_law_520 (fun pC H locs S => ?_)
  refine jr_aload_n (pc := 523) C Lc dL_law_523 rfl rfl ?_
  refine jl_aload0 (pc := 524) C Lc rfl dL_law_524 ?_
  refine jr_iload_n (pc := 525) C Lc dL_law_525 rfl rfl ?_
  refine jr_iconst (pc := 526) C dL_law_526 ?_
  refine jr_iadd (pc := 527) C dL_law_527 ?_
  refine jl_sld (pc := 528) C S hX hbl (jIn_w _) (by rw [w1]; omega) (by rw [w1]; omega) dL_law_528 ?_
  refine jl_aload0 (pc := 529) C Lc rfl dL_law_529 ?_
  refine jr_iload_n (pc := 530) C Lc dL_law_530 rfl rfl ?_
  refine jr_iconst (pc := 531) C dL_law_531 ?_
  refine jr_iadd (pc := 532) C dL_law_532 ?_
  refine jl_sld (pc := 533) C S hX hbl (jIn_w _) (by rw [w2]; omega) (by rw [w2]; omega) dL_law_533 ?_
  refine jl_callM (pc := 534) C S Lc (As := [jI (jsx xs (jw (x3 + 1))), jI (jsx xs (jw (x3 + 2)))]) (rest := [jI r]) (c_X12_bound (jIn_sx _ _) (jIn_sx _ _) eM) mv_X12_bound ml_L_73 rfl hM1 ⟨Nat.le_of_ble_eq_true rfl, Nat.le_of_ble_eq_true rfl⟩ rfl rfl rfl (Nat.le_of_ble_eq_true rfl) hcs dL_law_534 (fun pM H locs S => ?_)
  refine jr_icmp_eq (pc := 537) C pC pM (tgt := 779) dL_law_537 (by decide) (fun c1 => ?_) (fun c1 => absurd rfl c1)
  exact K H locs _ _ hI2 S
set_option maxHeartbeats 4000000 in
set_option maxRecDepth 100000 in
theorem lc_fast {p : Program} {l : Launch} {e : Env} {s : State} {mi : MethodId} {below : List Frame} {meth : Method} {c : Code} {D : va_G} {cy : Nat → ClassId} {B szC szM cells slots N : Nat} {shC shM : jm_S} {Inv : jm_M → jm_M → Prop} {b L : Nat} {xs : Nat → Int32} {Q : State → Prop} (C : jCx p s mi #[.ref b] meth c cL_law 4 RL (some .boolean) D cy) (hX : va_X b L xs s s.heap) (hbl : b < s.heap.size) (hL : L ≤ 320) (hcs : cells ≤ room_1.cells ∧ slots ≤ room_1.slots) (hC1 : shC 1 = (11, 10)) (hM1 : shM 1 = (12, 34)) (hop : jOp_fast N shC shM Inv) {x3 : Int} (h3 : jIn x3) (h30 : 0 ≤ x3) (h35 : x3 + 5 ≤ L) {H : Heap} {locs : List Loc} {ls : Array Slot} {mC mM : jm_M} (hI : Inv mC mM) (S : jH2 D cy B szC szM shC shM s H locs mC mM) (Lc : jL ls [some (.ref b), some (jR B 1), some (jR (B + szC) 1), some (jI x3)]) (K : ∀ (H : Heap) (locs : List Loc) (mC mM : jm_M), Inv mC mM → jH2 D cy B szC szM shC shM s H locs mC mM → W p l e room_1 s mi #[.ref b] below meth c H locs cells slots Q (F0 mi 779 ls [])) : W p l e room_1 s mi #[.ref b] below meth c H locs cells slots Q (F0 mi 542 ls []) := by
  obtain ⟨r, nC, nM, eC, eM, hI2⟩ := hop mC mM (jsx xs (jw (x3 + 1))) (jsx xs (jw (x3 + 2))) (jIn_sx _ _) (jIn_sx _ _) hI
  have w1 : jw (x3 + 1) = x3 + 1 := jw_eq (by omega) (by omega)
  have w2 : jw (x3 + 2) = x3 + 2 := jw_eq (by omega) (by omega)
  refine jr_aload_n (pc := 542) C Lc dL_law_542 rfl rfl ?_
  refine jl_aload0 (pc := 543) C Lc rfl dL_law_543 ?_
  refine jr_iload_n (pc := 544) C Lc dL_law_544 rfl rfl ?_
  refine jr_iconst (pc := 545) C dL_law_545 ?_
  refine jr_iadd (pc := 546) C dL_law_546 ?_
  refine jl_sld (pc := 547) C S hX hbl (jIn_w _) (by rw [w1]; omega) (by rw [w1]; omega) dL_law_547 ?_
  refine jl_aload0 (pc := 548) C Lc rfl dL_law_548 ?_
  refine jr_iload_n (pc := 549) C Lc dL_law_549 rfl rfl ?_
  refine jr_iconst (pc := 550) C dL_law_550 ?_
  refine jr_iadd (pc := 551) C dL_law_551 ?_
  refine jl_sld (pc := 552) C S hX hbl (jIn_w _) (by rw [w2]; omega) (by rw [w2]; omega) dL_law_552 ?_
  refine jl_callC (pc := 553) C S Lc (As := [jI (jsx xs (jw (x3 + 1))), jI (jsx xs (jw (x3 + 2)))]) (rest := []) (c_X11_fast (jIn_sx _ _) (jIn_sx _ _) eC) mv_X11_fast ml_L_74 rfl hC1 ⟨Nat.le_of_ble_eq_true rfl, Nat.le_of_ble_eq_true rfl⟩ rfl rfl rfl (Nat.le_of_ble_eq_true rfl) hcs dL_law_553 (fun pC H locs S => ?_)
  refine jr_aload_n (pc := 556) C Lc dL_law_556 rfl rfl ?_
  refine jl_aload0 (pc := 557) C Lc rfl dL_law_557 ?_
  refine jr_iload_n (pc := 558) C Lc dL_law_558 rfl rfl ?_
  refine jr_iconst (pc := 559) C dL_law_559 ?_
  refine jr_iadd (pc := 560) C dL_law_560 ?_
  refine jl_sld (pc := 561) C S hX hbl (jIn_w _) (by rw [w1]; omega) (by rw [w1]; omega) dL_law_561 ?_
  refine jl_aload0 (pc := 562) C Lc rfl dL_law_562 ?_
  refine jr_iload_n (pc := 563) C Lc dL_law_563 rfl rfl ?_
  refine jr_iconst (pc := 564) C dL_law_564 ?_
  refine jr_iadd (pc := 565) C dL_law_565 ?_
  refine jl_sld (pc := 566) C S hX hbl (jIn_w _) (by rw [w2]; omega) (by rw [w2]; omega) dL_law_566 ?_
  refine jl_callM (pc := 567) C S Lc (As := [jI (jsx xs (jw (x3 + 1))), jI (jsx xs (jw (x3 + 2)))]) (rest := [jI r]) (c_X12_fast (jIn_sx _ _) (jIn_sx _ _) eM) mv_X12_fast ml_L_77 rfl hM1 ⟨Nat.le_of_ble_eq_true rfl, Nat.le_of_ble_eq_true rfl⟩ rfl rfl rfl (Nat.le_of_ble_eq_true rfl) hcs dL_law_567 (fun pM H locs S => ?_)
  refine jr_icmp_eq (pc := 570) C pC pM (tgt := 779) dL_law_570 (by decide) (fun c1 => ?_) (fun c1 => absurd rfl c1)
  exact K H locs _ _ hI2 S
set_option maxHeartbeats 4000000 in
set_option maxRecDepth 100000 in
theorem lc_crowd {p : Program} {l : Launch} {e : Env} {s : State} {mi : MethodId} {below : List Frame} {meth : Method} {c : Code} {D : va_G} {cy : Nat → ClassId} {B szC szM cells slots N : Nat} {shC shM : jm_S} {Inv : jm_M → jm_M → Prop} {b L : Nat} {xs : Nat → Int32} {Q : State → Prop} (C : jCx p s mi #[.ref b] meth c cL_law 4 RL (some .boolean) D cy) (hX : va_X b L xs s s.heap) (hbl : b < s.heap.size) (hL : L ≤ 320) (hcs : cells ≤ room_1.cells ∧ slots ≤ room_1.slots) (hC1 : shC 1 = (11, 10)) (hM1 : shM 1 = (12, 34)) (hop : jOp_crowd N shC shM Inv) {x3 : Int} (h3 : jIn x3) (h30 : 0 ≤ x3) (h35 : x3 + 5 ≤ L) {H : Heap} {locs : List Loc} {ls : Array Slot} {mC mM : jm_M} (hI : Inv mC mM) (S : jH2 D cy B szC szM shC shM s H locs mC mM) (Lc : jL ls [some (.ref b), some (jR B 1), some (jR (B + szC) 1), some (jI x3)]) (K : ∀ (H : Heap) (locs : List Loc) (mC mM : jm_M), Inv mC mM → jH2 D cy B szC szM shC shM s H locs mC mM → W p l e room_1 s mi #[.ref b] below meth c H locs cells slots Q (F0 mi 779 ls [])) : W p l e room_1 s mi #[.ref b] below meth c H locs cells slots Q (F0 mi 575 ls []) := by
  obtain ⟨r, nC, nM, eC, eM, hI2⟩ := hop mC mM (jsx xs (jw (x3 + 1))) (jIn_sx _ _) hI
  obtain ⟨eC, rfl⟩ := eC
  obtain ⟨eM, rfl⟩ := eM
  have w1 : jw (x3 + 1) = x3 + 1 := jw_eq (by omega) (by omega)
  refine jr_aload_n (pc := 575) C Lc dL_law_575 rfl rfl ?_
  refine jl_aload0 (pc := 576) C Lc rfl dL_law_576 ?_
  refine jr_iload_n (pc := 577) C Lc dL_law_577 rfl rfl ?_
  refine jr_iconst (pc := 578) C dL_law_578 ?_
  refine jr_iadd (pc := 579) C dL_law_579 ?_
  refine jl_sld (pc := 580) C S hX hbl (jIn_w _) (by rw [w1]; omega) (by rw [w1]; omega) dL_law_580 ?_
  refine jl_callC (pc := 581) C S Lc (As := [jI (jsx xs (jw (x3 + 1)))]) (rest := []) (c_X11_crowd (jIn_sx _ _) eC) mv_X11_crowd ml_L_78 rfl hC1 ⟨Nat.le_of_ble_eq_true rfl, Nat.le_of_ble_eq_true rfl⟩ rfl rfl rfl (Nat.le_of_ble_eq_true rfl) hcs dL_law_581 (fun pC H locs S => ?_)
  refine jr_aload_n (pc := 584) C Lc dL_law_584 rfl rfl ?_
  refine jl_aload0 (pc := 585) C Lc rfl dL_law_585 ?_
  refine jr_iload_n (pc := 586) C Lc dL_law_586 rfl rfl ?_
  refine jr_iconst (pc := 587) C dL_law_587 ?_
  refine jr_iadd (pc := 588) C dL_law_588 ?_
  refine jl_sld (pc := 589) C S hX hbl (jIn_w _) (by rw [w1]; omega) (by rw [w1]; omega) dL_law_589 ?_
  refine jl_callM (pc := 590) C S Lc (As := [jI (jsx xs (jw (x3 + 1)))]) (rest := [jI r]) (c_X12_crowd (jIn_sx _ _) eM) mv_X12_crowd ml_L_81 rfl hM1 ⟨Nat.le_of_ble_eq_true rfl, Nat.le_of_ble_eq_true rfl⟩ rfl rfl rfl (Nat.le_of_ble_eq_true rfl) hcs dL_law_590 (fun pM H locs S => ?_)
  refine jr_icmp_eq (pc := 593) C pC pM (tgt := 779) dL_law_593 (by decide) (fun c1 => ?_) (fun c1 => absurd rfl c1)
  exact K H locs _ _ hI2 S
set_option maxHeartbeats 4000000 in
set_option maxRecDepth 100000 in
theorem lc_period {p : Program} {l : Launch} {e : Env} {s : State} {mi : MethodId} {below : List Frame} {meth : Method} {c : Code} {D : va_G} {cy : Nat → ClassId} {B szC szM cells slots N : Nat} {shC shM : jm_S} {Inv : jm_M → jm_M → Prop} {b L : Nat} {xs : Nat → Int32} {Q : State → Prop} (C : jCx p s mi #[.ref b] meth c cL_law 4 RL (some .boolean) D cy) (hX : va_X b L xs s s.heap) (hbl : b < s.heap.size) (hL : L ≤ 320) (hcs : cells ≤ room_1.cells ∧ slots ≤ room_1.slots) (hC1 : shC 1 = (11, 10)) (hM1 : shM 1 = (12, 34)) (hop : jOp_period N shC shM Inv) {x3 : Int} (h3 : jIn x3) (h30 : 0 ≤ x3) (h35 : x3 + 5 ≤ L) {H : Heap} {locs : List Loc} {ls : Array Slot} {mC mM : jm_M} (hI : Inv mC mM) (S : jH2 D cy B szC szM shC shM s H locs mC mM) (Lc : jL ls [some (.ref b), some (jR B 1), some (jR (B + szC) 1), some (jI x3)]) (K : ∀ (H : Heap) (locs : List Loc) (mC mM : jm_M), Inv mC mM → jH2 D cy B szC szM shC shM s H locs mC mM → W p l e room_1 s mi #[.ref b] below meth c H locs cells slots Q (F0 mi 779 ls [])) : W p l e room_1 s mi #[.ref b] below meth c H locs cells slots Q (F0 mi 598 ls []) := by
  obtain ⟨r, nC, nM, eC, eM, hI2⟩ := hop mC mM (jsx xs (jw (x3 + 1))) (jsx xs (jw (x3 + 2))) (jIn_sx _ _) (jIn_sx _ _) hI
  have w1 : jw (x3 + 1) = x3 + 1 := jw_eq (by omega) (by omega)
  have w2 : jw (x3 + 2) = x3 + 2 := jw_eq (by omega) (by omega)
  refine jr_aload_n (pc := 598) C Lc dL_law_598 rfl rfl ?_
  refine jl_aload0 (pc := 599) C Lc rfl dL_law_599 ?_
  refine jr_iload_n (pc := 600) C Lc dL_law_600 rfl rfl ?_
  refine jr_iconst (pc := 601) C dL_law_601 ?_
  refine jr_iadd (pc := 602) C dL_law_602 ?_
  refine jl_sld (pc := 603) C S hX hbl (jIn_w _) (by rw [w1]; omega) (by rw [w1]; omega) dL_law_603 ?_
  refine jl_aload0 (pc := 604) C Lc rfl dL_law_604 ?_
  refine jr_iload_n (pc := 605) C Lc dL_law_605 rfl rfl ?_
  refine jr_iconst (pc := 606) C dL_law_606 ?_
  refine jr_iadd (pc := 607) C dL_law_607 ?_
  refine jl_sld (pc := 608) C S hX hbl (jIn_w _) (by rw [w2]; omega) (by rw [w2]; omega) dL_law_608 ?_
  refine jl_callC (pc := 609) C S Lc (As := [jI (jsx xs (jw (x3 + 1))), jI (jsx xs (jw (x3 + 2)))]) (rest := []) (c_X11_period (jIn_sx _ _) (jIn_sx _ _) eC) mv_X11_period ml_L_82 rfl hC1 ⟨Nat.le_of_ble_eq_true rfl, Nat.le_of_ble_eq_true rfl⟩ rfl rfl rfl (Nat.le_of_ble_eq_true rfl) hcs dL_law_609 (fun pC H locs S => ?_)
  refine jr_aload_n (pc := 612) C Lc dL_law_612 rfl rfl ?_
  refine jl_aload0 (pc := 613) C Lc rfl dL_law_613 ?_
  refine jr_iload_n (pc := 614) C Lc dL_law_614 rfl rfl ?_
  refine jr_iconst (pc := 615) C dL_law_615 ?_
  refine jr_iadd (pc := 616) C dL_law_616 ?_
  refine jl_sld (pc := 617) C S hX hbl (jIn_w _) (by rw [w1]; omega) (by rw [w1]; omega) dL_law_617 ?_
  refine jl_aload0 (pc := 618) C Lc rfl dL_law_618 ?_
  refine jr_iload_n (pc := 619) C Lc dL_law_619 rfl rfl ?_
  refine jr_iconst (pc := 620) C dL_law_620 ?_
  refine jr_iadd (pc := 621) C dL_law_621 ?_
  refine jl_sld (pc := 622) C S hX hbl (jIn_w _) (by rw [w2]; omega) (by rw [w2]; omega) dL_law_622 ?_
  refine jl_callM (pc := 623) C S Lc (As := [jI (jsx xs (jw (x3 + 1))), jI (jsx xs (jw (x3 + 2)))]) (rest := [jI r]) (c_X12_period (jIn_sx _ _) (jIn_sx _ _) eM) mv_X12_period ml_L_85 rfl hM1 ⟨Nat.le_of_ble_eq_true rfl, Nat.le_of_ble_eq_true rfl⟩ rfl rfl rfl (Nat.le_of_ble_eq_true rfl) hcs dL_law_623 (fun pM H locs S => ?_)
  refine jr_icmp_eq (pc := 626) C pC pM (tgt := 779) dL_law_626 (by decide) (fun c1 => ?_) (fun c1 => absurd rfl c1)
  exact K H locs _ _ hI2 S
set_option maxHeartbeats 4000000 in
set_option maxRecDepth 100000 in
theorem lc_breaks {p : Program} {l : Launch} {e : Env} {s : State} {mi : MethodId} {below : List Frame} {meth : Method} {c : Code} {D : va_G} {cy : Nat → ClassId} {B szC szM cells slots N : Nat} {shC shM : jm_S} {Inv : jm_M → jm_M → Prop} {b L : Nat} {xs : Nat → Int32} {Q : State → Prop} (C : jCx p s mi #[.ref b] meth c cL_law 4 RL (some .boolean) D cy) (hX : va_X b L xs s s.heap) (hbl : b < s.heap.size) (hL : L ≤ 320) (hcs : cells ≤ room_1.cells ∧ slots ≤ room_1.slots) (hC1 : shC 1 = (11, 10)) (hM1 : shM 1 = (12, 34)) (hop : jOp_breaks N shC shM Inv) {x3 : Int} (h3 : jIn x3) (h30 : 0 ≤ x3) (h35 : x3 + 5 ≤ L) {H : Heap} {locs : List Loc} {ls : Array Slot} {mC mM : jm_M} (hI : Inv mC mM) (S : jH2 D cy B szC szM shC shM s H locs mC mM) (Lc : jL ls [some (.ref b), some (jR B 1), some (jR (B + szC) 1), some (jI x3)]) (K : ∀ (H : Heap) (locs : List Loc) (mC mM : jm_M), Inv mC mM → jH2 D cy B szC szM shC shM s H locs mC mM → W p l e room_1 s mi #[.ref b] below meth c H locs cells slots Q (F0 mi 779 ls [])) : W p l e room_1 s mi #[.ref b] below meth c H locs cells slots Q (F0 mi 631 ls []) := by
  obtain ⟨r, nC, nM, eC, eM, hI2⟩ := hop mC mM (jsx xs (jw (x3 + 1))) (jsx xs (jw (x3 + 2))) (jIn_sx _ _) (jIn_sx _ _) hI
  obtain ⟨eC, rfl⟩ := eC
  obtain ⟨eM, rfl⟩ := eM
  have w1 : jw (x3 + 1) = x3 + 1 := jw_eq (by omega) (by omega)
  have w2 : jw (x3 + 2) = x3 + 2 := jw_eq (by omega) (by omega)
  refine jr_aload_n (pc := 631) C Lc dL_law_631 rfl rfl ?_
  refine jl_aload0 (pc := 632) C Lc rfl dL_law_632 ?_
  refine jr_iload_n (pc := 633) C Lc dL_law_633 rfl rfl ?_
  refine jr_iconst (pc := 634) C dL_law_634 ?_
  refine jr_iadd (pc := 635) C dL_law_635 ?_
  refine jl_sld (pc := 636) C S hX hbl (jIn_w _) (by rw [w1]; omega) (by rw [w1]; omega) dL_law_636 ?_
  refine jl_aload0 (pc := 637) C Lc rfl dL_law_637 ?_
  refine jr_iload_n (pc := 638) C Lc dL_law_638 rfl rfl ?_
  refine jr_iconst (pc := 639) C dL_law_639 ?_
  refine jr_iadd (pc := 640) C dL_law_640 ?_
  refine jl_sld (pc := 641) C S hX hbl (jIn_w _) (by rw [w2]; omega) (by rw [w2]; omega) dL_law_641 ?_
  refine jl_callC (pc := 642) C S Lc (As := [jI (jsx xs (jw (x3 + 1))), jI (jsx xs (jw (x3 + 2)))]) (rest := []) (c_X11_breaks (jIn_sx _ _) (jIn_sx _ _) eC) mv_X11_breaks ml_L_86 rfl hC1 ⟨Nat.le_of_ble_eq_true rfl, Nat.le_of_ble_eq_true rfl⟩ rfl rfl rfl (Nat.le_of_ble_eq_true rfl) hcs dL_law_642 (fun pC H locs S => ?_)
  refine jr_aload_n (pc := 645) C Lc dL_law_645 rfl rfl ?_
  refine jl_aload0 (pc := 646) C Lc rfl dL_law_646 ?_
  refine jr_iload_n (pc := 647) C Lc dL_law_647 rfl rfl ?_
  refine jr_iconst (pc := 648) C dL_law_648 ?_
  refine jr_iadd (pc := 649) C dL_law_649 ?_
  refine jl_sld (pc := 650) C S hX hbl (jIn_w _) (by rw [w1]; omega) (by rw [w1]; omega) dL_law_650 ?_
  refine jl_aload0 (pc := 651) C Lc rfl dL_law_651 ?_
  refine jr_iload_n (pc := 652) C Lc dL_law_652 rfl rfl ?_
  refine jr_iconst (pc := 653) C dL_law_653 ?_
  refine jr_iadd (pc := 654) C dL_law_654 ?_
  refine jl_sld (pc := 655) C S hX hbl (jIn_w _) (by rw [w2]; omega) (by rw [w2]; omega) dL_law_655 ?_
  refine jl_callM (pc := 656) C S Lc (As := [jI (jsx xs (jw (x3 + 1))), jI (jsx xs (jw (x3 + 2)))]) (rest := [jI r]) (c_X12_breaks (jIn_sx _ _) (jIn_sx _ _) eM) mv_X12_breaks ml_L_89 rfl hM1 ⟨Nat.le_of_ble_eq_true rfl, Nat.le_of_ble_eq_true rfl⟩ rfl rfl rfl (Nat.le_of_ble_eq_true rfl) hcs dL_law_656 (fun pM H locs S => ?_)
  refine jr_icmp_eq (pc := 659) C pC pM (tgt := 779) dL_law_659 (by decide) (fun c1 => ?_) (fun c1 => absurd rfl c1)
  exact K H locs _ _ hI2 S
set_option maxHeartbeats 4000000 in
set_option maxRecDepth 100000 in
theorem lc_done {p : Program} {l : Launch} {e : Env} {s : State} {mi : MethodId} {below : List Frame} {meth : Method} {c : Code} {D : va_G} {cy : Nat → ClassId} {B szC szM cells slots N : Nat} {shC shM : jm_S} {Inv : jm_M → jm_M → Prop} {b L : Nat} {xs : Nat → Int32} {Q : State → Prop} (C : jCx p s mi #[.ref b] meth c cL_law 4 RL (some .boolean) D cy) (hX : va_X b L xs s s.heap) (hbl : b < s.heap.size) (hL : L ≤ 320) (hcs : cells ≤ room_1.cells ∧ slots ≤ room_1.slots) (hC1 : shC 1 = (11, 10)) (hM1 : shM 1 = (12, 34)) (hop : jOp_done N shC shM Inv) {x3 : Int} (h3 : jIn x3) (h30 : 0 ≤ x3) (h35 : x3 + 5 ≤ L) {H : Heap} {locs : List Loc} {ls : Array Slot} {mC mM : jm_M} (hI : Inv mC mM) (S : jH2 D cy B szC szM shC shM s H locs mC mM) (Lc : jL ls [some (.ref b), some (jR B 1), some (jR (B + szC) 1), some (jI x3)]) (K : ∀ (H : Heap) (locs : List Loc) (mC mM : jm_M), Inv mC mM → jH2 D cy B szC szM shC shM s H locs mC mM → W p l e room_1 s mi #[.ref b] below meth c H locs cells slots Q (F0 mi 779 ls [])) : W p l e room_1 s mi #[.ref b] below meth c H locs cells slots Q (F0 mi 664 ls []) := by
  obtain ⟨r, nC, nM, eC, eM, hI2⟩ := hop mC mM (jsx xs (jw (x3 + 1))) (jIn_sx _ _) hI
  have w1 : jw (x3 + 1) = x3 + 1 := jw_eq (by omega) (by omega)
  refine jr_aload_n (pc := 664) C Lc dL_law_664 rfl rfl ?_
  refine jl_aload0 (pc := 665) C Lc rfl dL_law_665 ?_
  refine jr_iload_n (pc := 666) C Lc dL_law_666 rfl rfl ?_
  refine jr_iconst (pc := 667) C dL_law_667 ?_
  refine jr_iadd (pc := 668) C dL_law_668 ?_
  refine jl_sld (pc := 669) C S hX hbl (jIn_w _) (by rw [w1]; omega) (by rw [w1]; omega) dL_law_669 ?_
  refine jl_callC (pc := 670) C S Lc (As := [jI (jsx xs (jw (x3 + 1)))]) (rest := []) (c_X11_done (jIn_sx _ _) eC) mv_X11_done ml_L_90 rfl hC1 ⟨Nat.le_of_ble_eq_true rfl, Nat.le_of_ble_eq_true rfl⟩ rfl rfl rfl (Nat.le_of_ble_eq_true rfl) hcs dL_law_670 (fun pC H locs S => ?_)
  refine jr_aload_n (pc := 673) C Lc dL_law_673 rfl rfl ?_
  refine jl_aload0 (pc := 674) C Lc rfl dL_law_674 ?_
  refine jr_iload_n (pc := 675) C Lc dL_law_675 rfl rfl ?_
  refine jr_iconst (pc := 676) C dL_law_676 ?_
  refine jr_iadd (pc := 677) C dL_law_677 ?_
  refine jl_sld (pc := 678) C S hX hbl (jIn_w _) (by rw [w1]; omega) (by rw [w1]; omega) dL_law_678 ?_
  refine jl_callM (pc := 679) C S Lc (As := [jI (jsx xs (jw (x3 + 1)))]) (rest := [jI r]) (c_X12_done (jIn_sx _ _) eM) mv_X12_done ml_L_93 rfl hM1 ⟨Nat.le_of_ble_eq_true rfl, Nat.le_of_ble_eq_true rfl⟩ rfl rfl rfl (Nat.le_of_ble_eq_true rfl) hcs dL_law_679 (fun pM H locs S => ?_)
  refine jr_icmp_eq (pc := 682) C pC pM (tgt := 779) dL_law_682 (by decide) (fun c1 => ?_) (fun c1 => absurd rfl c1)
  exact K H locs _ _ hI2 S
set_option maxHeartbeats 4000000 in
set_option maxRecDepth 100000 in
theorem lc_late {p : Program} {l : Launch} {e : Env} {s : State} {mi : MethodId} {below : List Frame} {meth : Method} {c : Code} {D : va_G} {cy : Nat → ClassId} {B szC szM cells slots N : Nat} {shC shM : jm_S} {Inv : jm_M → jm_M → Prop} {b L : Nat} {xs : Nat → Int32} {Q : State → Prop} (C : jCx p s mi #[.ref b] meth c cL_law 4 RL (some .boolean) D cy) (hX : va_X b L xs s s.heap) (hbl : b < s.heap.size) (hL : L ≤ 320) (hcs : cells ≤ room_1.cells ∧ slots ≤ room_1.slots) (hC1 : shC 1 = (11, 10)) (hM1 : shM 1 = (12, 34)) (hop : jOp_late N shC shM Inv) {x3 : Int} (h3 : jIn x3) (h30 : 0 ≤ x3) (h35 : x3 + 5 ≤ L) {H : Heap} {locs : List Loc} {ls : Array Slot} {mC mM : jm_M} (hI : Inv mC mM) (S : jH2 D cy B szC szM shC shM s H locs mC mM) (Lc : jL ls [some (.ref b), some (jR B 1), some (jR (B + szC) 1), some (jI x3)]) (K : ∀ (H : Heap) (locs : List Loc) (mC mM : jm_M), Inv mC mM → jH2 D cy B szC szM shC shM s H locs mC mM → W p l e room_1 s mi #[.ref b] below meth c H locs cells slots Q (F0 mi 779 ls [])) : W p l e room_1 s mi #[.ref b] below meth c H locs cells slots Q (F0 mi 687 ls []) := by
  obtain ⟨r, nC, nM, eC, eM, hI2⟩ := hop mC mM (jsx xs (jw (x3 + 1))) (jIn_sx _ _) hI
  have w1 : jw (x3 + 1) = x3 + 1 := jw_eq (by omega) (by omega)
  refine jr_aload_n (pc := 687) C Lc dL_law_687 rfl rfl ?_
  refine jl_aload0 (pc := 688) C Lc rfl dL_law_688 ?_
  refine jr_iload_n (pc := 689) C Lc dL_law_689 rfl rfl ?_
  refine jr_iconst (pc := 690) C dL_law_690 ?_
  refine jr_iadd (pc := 691) C dL_law_691 ?_
  refine jl_sld (pc := 692) C S hX hbl (jIn_w _) (by rw [w1]; omega) (by rw [w1]; omega) dL_law_692 ?_
  refine jl_callC (pc := 693) C S Lc (As := [jI (jsx xs (jw (x3 + 1)))]) (rest := []) (c_X11_late (jIn_sx _ _) eC) mv_X11_late ml_L_94 rfl hC1 ⟨Nat.le_of_ble_eq_true rfl, Nat.le_of_ble_eq_true rfl⟩ rfl rfl rfl (Nat.le_of_ble_eq_true rfl) hcs dL_law_693 (fun pC H locs S => ?_)
  refine jr_aload_n (pc := 696) C Lc dL_law_696 rfl rfl ?_
  refine jl_aload0 (pc := 697) C Lc rfl dL_law_697 ?_
  refine jr_iload_n (pc := 698) C Lc dL_law_698 rfl rfl ?_
  refine jr_iconst (pc := 699) C dL_law_699 ?_
  refine jr_iadd (pc := 700) C dL_law_700 ?_
  refine jl_sld (pc := 701) C S hX hbl (jIn_w _) (by rw [w1]; omega) (by rw [w1]; omega) dL_law_701 ?_
  refine jl_callM (pc := 702) C S Lc (As := [jI (jsx xs (jw (x3 + 1)))]) (rest := [jI r]) (c_X12_late (jIn_sx _ _) eM) mv_X12_late ml_L_97 rfl hM1 ⟨Nat.le_of_ble_eq_true rfl, Nat.le_of_ble_eq_true rfl⟩ rfl rfl rfl (Nat.le_of_ble_eq_true rfl) hcs dL_law_702 (fun pM H locs S => ?_)
  refine jr_icmp_eq (pc := 705) C pC pM (tgt := 779) dL_law_705 (by decide) (fun c1 => ?_) (fun c1 => absurd rfl c1)
  exact K H locs _ _ hI2 S
set_option maxHeartbeats 4000000 in
set_option maxRecDepth 100000 in
theorem lc_image {p : Program} {l : Launch} {e : Env} {s : State} {mi : MethodId} {below : List Frame} {meth : Method} {c : Code} {D : va_G} {cy : Nat → ClassId} {B szC szM cells slots N : Nat} {shC shM : jm_S} {Inv : jm_M → jm_M → Prop} {b L : Nat} {xs : Nat → Int32} {Q : State → Prop} (C : jCx p s mi #[.ref b] meth c cL_law 4 RL (some .boolean) D cy) (hX : va_X b L xs s s.heap) (hbl : b < s.heap.size) (hL : L ≤ 320) (hcs : cells ≤ room_1.cells ∧ slots ≤ room_1.slots) (hC1 : shC 1 = (11, 10)) (hM1 : shM 1 = (12, 34)) (hop : jOp_image N shC shM Inv) {x3 : Int} (h3 : jIn x3) (h30 : 0 ≤ x3) (h35 : x3 + 5 ≤ L) {H : Heap} {locs : List Loc} {ls : Array Slot} {mC mM : jm_M} (hI : Inv mC mM) (S : jH2 D cy B szC szM shC shM s H locs mC mM) (Lc : jL ls [some (.ref b), some (jR B 1), some (jR (B + szC) 1), some (jI x3)]) (K : ∀ (H : Heap) (locs : List Loc) (mC mM : jm_M), Inv mC mM → jH2 D cy B szC szM shC shM s H locs mC mM → W p l e room_1 s mi #[.ref b] below meth c H locs cells slots Q (F0 mi 779 ls [])) : W p l e room_1 s mi #[.ref b] below meth c H locs cells slots Q (F0 mi 710 ls []) := by
  obtain ⟨r, nC, nM, eC, eM, hI2⟩ := hop mC mM (jsx xs (jw (x3 + 1))) (jIn_sx _ _) hI
  have w1 : jw (x3 + 1) = x3 + 1 := jw_eq (by omega) (by omega)
  refine jr_aload_n (pc := 710) C Lc dL_law_710 rfl rfl ?_
  refine jl_aload0 (pc := 711) C Lc rfl dL_law_711 ?_
  refine jr_iload_n (pc := 712) C Lc dL_law_712 rfl rfl ?_
  refine jr_iconst (pc := 713) C dL_law_713 ?_
  refine jr_iadd (pc := 714) C dL_law_714 ?_
  refine jl_sld (pc := 715) C S hX hbl (jIn_w _) (by rw [w1]; omega) (by rw [w1]; omega) dL_law_715 ?_
  refine jl_callC (pc := 716) C S Lc (As := [jI (jsx xs (jw (x3 + 1)))]) (rest := []) (c_X11_image (jIn_sx _ _) eC) mv_X11_image ml_L_98 rfl hC1 ⟨Nat.le_of_ble_eq_true rfl, Nat.le_of_ble_eq_true rfl⟩ rfl rfl rfl (Nat.le_of_ble_eq_true rfl) hcs dL_law_716 (fun pC H locs S => ?_)
  refine jr_aload_n (pc := 719) C Lc dL_law_719 rfl rfl ?_
  refine jl_aload0 (pc := 720) C Lc rfl dL_law_720 ?_
  refine jr_iload_n (pc := 721) C Lc dL_law_721 rfl rfl ?_
  refine jr_iconst (pc := 722) C dL_law_722 ?_
  refine jr_iadd (pc := 723) C dL_law_723 ?_
  refine jl_sld (pc := 724) C S hX hbl (jIn_w _) (by rw [w1]; omega) (by rw [w1]; omega) dL_law_724 ?_
  refine jl_callM (pc := 725) C S Lc (As := [jI (jsx xs (jw (x3 + 1)))]) (rest := [jI r]) (c_X12_image (jIn_sx _ _) eM) mv_X12_image ml_L_101 rfl hM1 ⟨Nat.le_of_ble_eq_true rfl, Nat.le_of_ble_eq_true rfl⟩ rfl rfl rfl (Nat.le_of_ble_eq_true rfl) hcs dL_law_725 (fun pM H locs S => ?_)
  refine jr_icmp_eq (pc := 728) C pC pM (tgt := 779) dL_law_728 (by decide) (fun c1 => ?_) (fun c1 => absurd rfl c1)
  exact K H locs _ _ hI2 S
set_option maxHeartbeats 4000000 in
set_option maxRecDepth 100000 in
theorem lc_restore {p : Program} {l : Launch} {e : Env} {s : State} {mi : MethodId} {below : List Frame} {meth : Method} {c : Code} {D : va_G} {cy : Nat → ClassId} {B szC szM cells slots N : Nat} {shC shM : jm_S} {Inv : jm_M → jm_M → Prop} {b L : Nat} {xs : Nat → Int32} {Q : State → Prop} (C : jCx p s mi #[.ref b] meth c cL_law 4 RL (some .boolean) D cy) (hX : va_X b L xs s s.heap) (hbl : b < s.heap.size) (hL : L ≤ 320) (hcs : cells ≤ room_1.cells ∧ slots ≤ room_1.slots) (hC1 : shC 1 = (11, 10)) (hM1 : shM 1 = (12, 34)) (hop : jOp_restore N shC shM Inv) {x3 : Int} (h3 : jIn x3) (h30 : 0 ≤ x3) (h35 : x3 + 5 ≤ L) {H : Heap} {locs : List Loc} {ls : Array Slot} {mC mM : jm_M} (hI : Inv mC mM) (S : jH2 D cy B szC szM shC shM s H locs mC mM) (Lc : jL ls [some (.ref b), some (jR B 1), some (jR (B + szC) 1), some (jI x3)]) (K : ∀ (H : Heap) (locs : List Loc) (mC mM : jm_M), Inv mC mM → jH2 D cy B szC szM shC shM s H locs mC mM → W p l e room_1 s mi #[.ref b] below meth c H locs cells slots Q (F0 mi 779 ls [])) : W p l e room_1 s mi #[.ref b] below meth c H locs cells slots Q (F0 mi 733 ls []) := by
  obtain ⟨r, nC, nM, eC, eM, hI2⟩ := hop mC mM (jsx xs (jw (x3 + 1))) (jIn_sx _ _) hI
  have w1 : jw (x3 + 1) = x3 + 1 := jw_eq (by omega) (by omega)
  refine jr_aload_n (pc := 733) C Lc dL_law_733 rfl rfl ?_
  refine jl_aload0 (pc := 734) C Lc rfl dL_law_734 ?_
  refine jr_iload_n (pc := 735) C Lc dL_law_735 rfl rfl ?_
  refine jr_iconst (pc := 736) C dL_law_736 ?_
  refine jr_iadd (pc := 737) C dL_law_737 ?_
  refine jl_sld (pc := 738) C S hX hbl (jIn_w _) (by rw [w1]; omega) (by rw [w1]; omega) dL_law_738 ?_
  refine jl_callC (pc := 739) C S Lc (As := [jI (jsx xs (jw (x3 + 1)))]) (rest := []) (c_X11_restore (jIn_sx _ _) eC) mv_X11_restore ml_L_102 rfl hC1 ⟨Nat.le_of_ble_eq_true rfl, Nat.le_of_ble_eq_true rfl⟩ rfl rfl rfl (Nat.le_of_ble_eq_true rfl) hcs dL_law_739 (fun pC H locs S => ?_)
  refine jr_aload_n (pc := 742) C Lc dL_law_742 rfl rfl ?_
  refine jl_aload0 (pc := 743) C Lc rfl dL_law_743 ?_
  refine jr_iload_n (pc := 744) C Lc dL_law_744 rfl rfl ?_
  refine jr_iconst (pc := 745) C dL_law_745 ?_
  refine jr_iadd (pc := 746) C dL_law_746 ?_
  refine jl_sld (pc := 747) C S hX hbl (jIn_w _) (by rw [w1]; omega) (by rw [w1]; omega) dL_law_747 ?_
  refine jl_callM (pc := 748) C S Lc (As := [jI (jsx xs (jw (x3 + 1)))]) (rest := [jI r]) (c_X12_restore (jIn_sx _ _) eM) mv_X12_restore ml_L_105 rfl hM1 ⟨Nat.le_of_ble_eq_true rfl, Nat.le_of_ble_eq_true rfl⟩ rfl rfl rfl (Nat.le_of_ble_eq_true rfl) hcs dL_law_748 (fun pM H locs S => ?_)
  refine jr_icmp_eq (pc := 751) C pC pM (tgt := 779) dL_law_751 (by decide) (fun c1 => ?_) (fun c1 => absurd rfl c1)
  exact K H locs _ _ hI2 S
set_option maxHeartbeats 4000000 in
set_option maxRecDepth 100000 in
theorem lc_told {p : Program} {l : Launch} {e : Env} {s : State} {mi : MethodId} {below : List Frame} {meth : Method} {c : Code} {D : va_G} {cy : Nat → ClassId} {B szC szM cells slots N : Nat} {shC shM : jm_S} {Inv : jm_M → jm_M → Prop} {b L : Nat} {xs : Nat → Int32} {Q : State → Prop} (C : jCx p s mi #[.ref b] meth c cL_law 4 RL (some .boolean) D cy) (hX : va_X b L xs s s.heap) (hbl : b < s.heap.size) (hL : L ≤ 320) (hcs : cells ≤ room_1.cells ∧ slots ≤ room_1.slots) (hC1 : shC 1 = (11, 10)) (hM1 : shM 1 = (12, 34)) (hop : jOp_told N shC shM Inv) {x3 : Int} (h3 : jIn x3) (h30 : 0 ≤ x3) (h35 : x3 + 5 ≤ L) {H : Heap} {locs : List Loc} {ls : Array Slot} {mC mM : jm_M} (hI : Inv mC mM) (S : jH2 D cy B szC szM shC shM s H locs mC mM) (Lc : jL ls [some (.ref b), some (jR B 1), some (jR (B + szC) 1), some (jI x3)]) (K : ∀ (H : Heap) (locs : List Loc) (mC mM : jm_M), Inv mC mM → jH2 D cy B szC szM shC shM s H locs mC mM → W p l e room_1 s mi #[.ref b] below meth c H locs cells slots Q (F0 mi 779 ls [])) : W p l e room_1 s mi #[.ref b] below meth c H locs cells slots Q (F0 mi 756 ls []) := by
  obtain ⟨r, nC, nM, eC, eM, hI2⟩ := hop mC mM (jsx xs (jw (x3 + 1))) (jIn_sx _ _) hI
  obtain ⟨eC, rfl⟩ := eC
  obtain ⟨eM, rfl⟩ := eM
  have w1 : jw (x3 + 1) = x3 + 1 := jw_eq (by omega) (by omega)
  refine jr_aload_n (pc := 756) C Lc dL_law_756 rfl rfl ?_
  refine jl_aload0 (pc := 757) C Lc rfl dL_law_757 ?_
  refine jr_iload_n (pc := 758) C Lc dL_law_758 rfl rfl ?_
  refine jr_iconst (pc := 759) C dL_law_759 ?_
  refine jr_iadd (pc := 760) C dL_law_760 ?_
  refine jl_sld (pc := 761) C S hX hbl (jIn_w _) (by rw [w1]; omega) (by rw [w1]; omega) dL_law_761 ?_
  refine jl_callC (pc := 762) C S Lc (As := [jI (jsx xs (jw (x3 + 1)))]) (rest := []) (c_X11_told (jIn_sx _ _) eC) mv_X11_told ml_L_106 rfl hC1 ⟨Nat.le_of_ble_eq_true rfl, Nat.le_of_ble_eq_true rfl⟩ rfl rfl rfl (Nat.le_of_ble_eq_true rfl) hcs dL_law_762 (fun pC H locs S => ?_)
  refine jr_aload_n (pc := 765) C Lc dL_law_765 rfl rfl ?_
  refine jl_aload0 (pc := 766) C Lc rfl dL_law_766 ?_
  refine jr_iload_n (pc := 767) C Lc dL_law_767 rfl rfl ?_
  refine jr_iconst (pc := 768) C dL_law_768 ?_
  refine jr_iadd (pc := 769) C dL_law_769 ?_
  refine jl_sld (pc := 770) C S hX hbl (jIn_w _) (by rw [w1]; omega) (by rw [w1]; omega) dL_law_770 ?_
  refine jl_callM (pc := 771) C S Lc (As := [jI (jsx xs (jw (x3 + 1)))]) (rest := [jI r]) (c_X12_told (jIn_sx _ _) eM) mv_X12_told ml_L_109 rfl hM1 ⟨Nat.le_of_ble_eq_true rfl, Nat.le_of_ble_eq_true rfl⟩ rfl rfl rfl (Nat.le_of_ble_eq_true rfl) hcs dL_law_771 (fun pM H locs S => ?_)
  refine jr_icmp_eq (pc := 774) C pC pM (tgt := 779) dL_law_774 (by decide) (fun c1 => ?_) (fun c1 => absurd rfl c1)
  exact K H locs _ _ hI2 S
set_option maxHeartbeats 4000000 in
set_option maxRecDepth 100000 in
theorem law_loop {p : Program} {l : Launch} {e : Env} {s : State} {mi : MethodId} {below : List Frame} {meth : Method} {c : Code} {D : va_G} {cy : Nat → ClassId} {B szC szM cells slots N : Nat} {shC shM : jm_S} {Inv : jm_M → jm_M → Prop} {b L : Nat} {xs : Nat → Int32} (C : jCx p s mi #[.ref b] meth c cL_law 4 RL (some .boolean) D cy) (hX : va_X b L xs s s.heap) (hbl : b < s.heap.size) (hL : L ≤ 320) (hcs : cells ≤ room_1.cells ∧ slots ≤ room_1.slots) (hC1 : shC 1 = (11, 10)) (hM1 : shM 1 = (12, 34)) (hr : meth.sig.returnType = ret) (hlocks : meth.locks = false) (H_shelf : jOp_shelf N shC shM Inv) (H_say : jOp_say N shC shM Inv) (H_wipe : jOp_wipe N shC shM Inv) (H_fault : jOp_fault N shC shM Inv) (H_program : jOp_program N shC shM Inv) (H_node : jOp_node N shC shM Inv) (H_choose : jOp_choose N shC shM Inv) (H_forget : jOp_forget N shC shM Inv) (H_run : jOp_run N shC shM Inv) (H_most : jOp_most N shC shM Inv) (H_row : jOp_row N shC shM Inv) (H_age : jOp_age N shC shM Inv) (H_sort : jOp_sort N shC shM Inv) (H_bound : jOp_bound N shC shM Inv) (H_fast : jOp_fast N shC shM Inv) (H_crowd : jOp_crowd N shC shM Inv) (H_period : jOp_period N shC shM Inv) (H_breaks : jOp_breaks N shC shM Inv) (H_done : jOp_done N shC shM Inv) (H_late : jOp_late N shC shM Inv) (H_image : jOp_image N shC shM Inv) (H_restore : jOp_restore N shC shM Inv) (H_told : jOp_told N shC shM Inv) :
    ∀ (n : Nat) (x3 : Int), jIn x3 → 0 ≤ x3 → x3 ≤ L → (L : Int) + 5 ≤ x3 + 5 * n → ∀ (H : Heap) (locs : List Loc) (ls : Array Slot) (mC mM : jm_M), Inv mC mM → jH2 D cy B szC szM shC shM s H locs mC mM → jL ls [some (.ref b), some (jR B 1), some (jR (B + szC) 1), some (jI x3)] → W p l e room_1 s mi #[.ref b] below meth c H locs cells slots (lw_Z below #[Value.ref b] s) (F0 mi 18 ls []) := by
  intro n
  induction n with
  | zero => intro x3 h3 h30 h3L hn; exact absurd hn (by omega)
  | succ n ih =>
    intro x3 h3 h30 h3L hn H locs ls mC mM hI S Lc
    have hL5 : jw ((L : Int) - 5) = (L : Int) - 5 := jw_eq (by omega) (by omega)
    refine jr_iload_n (pc := 18) C Lc dL_law_18 rfl rfl ?_
    refine jl_aload0 (pc := 19) C Lc rfl dL_law_19 ?_
    refine jl_slen (pc := 20) C S hX hbl dL_law_20 ?_
    refine jr_iconst (pc := 21) C dL_law_21 ?_
    refine jr_isub (pc := 22) C dL_law_22 ?_
    refine jr_icmp_gt (pc := 23) C h3 (jIn_w _) (tgt := 785) dL_law_23 (by decide) (fun c1 => ?_) (fun c1 => ?_)
    · refine jr_iconst (pc := 785) C dL_law_785 ?_
      refine va_forget (fun q hq => S.2.2.1.2.2 q hq) ?_
      refine W.widen (k := 600000) (n := 7302250) hcs.1 hcs.2 ?_
      exact lw_ret C.1 C.2.1 hr hlocks dL_law_786
    · rw [hL5] at c1
      have h35 : x3 + 5 ≤ L := by omega
      have K : ∀ (H : Heap) (locs : List Loc) (mC mM : jm_M), Inv mC mM → jH2 D cy B szC szM shC shM s H locs mC mM → W p l e room_1 s mi #[.ref b] below meth c H locs cells slots (lw_Z below #[Value.ref b] s) (F0 mi 779 ls []) := by
        intro H locs mC mM hI S
        have w5 : jw (x3 + 5) = x3 + 5 := jw_eq (by omega) (by omega)
        refine jr_iinc (pc := 779) C Lc dL_law_779 rfl (Nat.le_of_ble_eq_true rfl) (fun ls Lc => ?_)
        have Lc : jL ls [some (.ref b), some (jR B 1), some (jR (B + szC) 1), some (jI (jw (x3 + 5)))] := Lc
        refine jr_goto (pc := 782) C (tgt := 18) dL_law_782 (by decide) ?_
        exact ih (jw (x3 + 5)) (jIn_w _) (by rw [w5]; omega) (by rw [w5]; omega) (by rw [w5]; omega) H locs ls mC mM hI S Lc
      refine jl_aload0 (pc := 26) C Lc rfl dL_law_26 ?_
      refine jr_iload_n (pc := 27) C Lc dL_law_27 rfl rfl ?_
      refine jl_sld (pc := 28) C S hX hbl h3 h30 (by omega) dL_law_28 ?_
      refine jr_bipush (pc := 29) C dL_law_29 (by decide) ?_
      refine jr_iand (pc := 31) C dL_law_31 ?_
      by_cases k0 : (0 : Int) = jand (jsx xs x3) 31
      · refine jr_tableIn (pc := 32) C (jIn_and _ _) k0 (off := 108) (tgt := 140) dL_law_32 (by decide) (by decide) rfl (by decide) ?_
        exact lc_shelf C hX hbl hL hcs hC1 hM1 H_shelf h3 h30 h35 hI S Lc K
      by_cases k1 : (1 : Int) = jand (jsx xs x3) 31
      · refine jr_tableIn (pc := 32) C (jIn_and _ _) k1 (off := 141) (tgt := 173) dL_law_32 (by decide) (by decide) rfl (by decide) ?_
        exact lc_say C hX hbl hL hcs hC1 hM1 H_say h3 h30 h35 hI S Lc K
      by_cases k2 : (2 : Int) = jand (jsx xs x3) 31
      · refine jr_tableIn (pc := 32) C (jIn_and _ _) k2 (off := 164) (tgt := 196) dL_law_32 (by decide) (by decide) rfl (by decide) ?_
        exact lc_wipe C hX hbl hL hcs hC1 hM1 H_wipe h3 h30 h35 hI S Lc K
      by_cases k3 : (3 : Int) = jand (jsx xs x3) 31
      · refine jr_tableIn (pc := 32) C (jIn_and _ _) k3 (off := 177) (tgt := 209) dL_law_32 (by decide) (by decide) rfl (by decide) ?_
        exact lc_fault C hX hbl hL hcs hC1 hM1 H_fault h3 h30 h35 hI S Lc K
      by_cases k4 : (4 : Int) = jand (jsx xs x3) 31
      · refine jr_tableIn (pc := 32) C (jIn_and _ _) k4 (off := 190) (tgt := 222) dL_law_32 (by decide) (by decide) rfl (by decide) ?_
        exact lc_program C hX hbl hL hcs hC1 hM1 H_program h3 h30 h35 hI S Lc K
      by_cases k5 : (5 : Int) = jand (jsx xs x3) 31
      · refine jr_tableIn (pc := 32) C (jIn_and _ _) k5 (off := 213) (tgt := 245) dL_law_32 (by decide) (by decide) rfl (by decide) ?_
        exact lc_node C hX hbl hL hcs hC1 hM1 H_node h3 h30 h35 hI S Lc K
      by_cases k6 : (6 : Int) = jand (jsx xs x3) 31
      · refine jr_tableIn (pc := 32) C (jIn_and _ _) k6 (off := 256) (tgt := 288) dL_law_32 (by decide) (by decide) rfl (by decide) ?_
        exact lc_choose C hX hbl hL hcs hC1 hM1 H_choose h3 h30 h35 hI S Lc K
      by_cases k7 : (7 : Int) = jand (jsx xs x3) 31
      · refine jr_tableIn (pc := 32) C (jIn_and _ _) k7 (off := 279) (tgt := 311) dL_law_32 (by decide) (by decide) rfl (by decide) ?_
        exact lc_forget C hX hbl hL hcs hC1 hM1 H_forget h3 h30 h35 hI S Lc K
      by_cases k8 : (8 : Int) = jand (jsx xs x3) 31
      · refine jr_tableIn (pc := 32) C (jIn_and _ _) k8 (off := 292) (tgt := 324) dL_law_32 (by decide) (by decide) rfl (by decide) ?_
        exact lc_run C hX hbl hL hcs hC1 hM1 H_run h3 h30 h35 hI S Lc K
      by_cases k9 : (9 : Int) = jand (jsx xs x3) 31
      · refine jr_tableIn (pc := 32) C (jIn_and _ _) k9 (off := 325) (tgt := 357) dL_law_32 (by decide) (by decide) rfl (by decide) ?_
        exact lc_most C hX hbl hL hcs hC1 hM1 H_most h3 h30 h35 hI S Lc K
      by_cases k10 : (10 : Int) = jand (jsx xs x3) 31
      · refine jr_tableIn (pc := 32) C (jIn_and _ _) k10 (off := 358) (tgt := 390) dL_law_32 (by decide) (by decide) rfl (by decide) ?_
        exact lc_row C hX hbl hL hcs hC1 hM1 H_row h3 h30 h35 hI S Lc K
      by_cases k11 : (11 : Int) = jand (jsx xs x3) 31
      · refine jr_tableIn (pc := 32) C (jIn_and _ _) k11 (off := 391) (tgt := 423) dL_law_32 (by decide) (by decide) rfl (by decide) ?_
        exact lc_age C hX hbl hL hcs hC1 hM1 H_age h3 h30 h35 hI S Lc K
      by_cases k12 : (12 : Int) = jand (jsx xs x3) 31
      · refine jr_tableIn (pc := 32) C (jIn_and _ _) k12 (off := 444) (tgt := 476) dL_law_32 (by decide) (by decide) rfl (by decide) ?_
        exact lc_sort C hX hbl hL hcs hC1 hM1 H_sort h3 h30 h35 hI S Lc K
      by_cases k13 : (13 : Int) = jand (jsx xs x3) 31
      · refine jr_tableIn (pc := 32) C (jIn_and _ _) k13 (off := 477) (tgt := 509) dL_law_32 (by decide) (by decide) rfl (by decide) ?_
        exact lc_bound C hX hbl hL hcs hC1 hM1 H_bound h3 h30 h35 hI S Lc K
      by_cases k14 : (14 : Int) = jand (jsx xs x3) 31
      · refine jr_tableIn (pc := 32) C (jIn_and _ _) k14 (off := 510) (tgt := 542) dL_law_32 (by decide) (by decide) rfl (by decide) ?_
        exact lc_fast C hX hbl hL hcs hC1 hM1 H_fast h3 h30 h35 hI S Lc K
      by_cases k15 : (15 : Int) = jand (jsx xs x3) 31
      · refine jr_tableIn (pc := 32) C (jIn_and _ _) k15 (off := 543) (tgt := 575) dL_law_32 (by decide) (by decide) rfl (by decide) ?_
        exact lc_crowd C hX hbl hL hcs hC1 hM1 H_crowd h3 h30 h35 hI S Lc K
      by_cases k16 : (16 : Int) = jand (jsx xs x3) 31
      · refine jr_tableIn (pc := 32) C (jIn_and _ _) k16 (off := 566) (tgt := 598) dL_law_32 (by decide) (by decide) rfl (by decide) ?_
        exact lc_period C hX hbl hL hcs hC1 hM1 H_period h3 h30 h35 hI S Lc K
      by_cases k17 : (17 : Int) = jand (jsx xs x3) 31
      · refine jr_tableIn (pc := 32) C (jIn_and _ _) k17 (off := 599) (tgt := 631) dL_law_32 (by decide) (by decide) rfl (by decide) ?_
        exact lc_breaks C hX hbl hL hcs hC1 hM1 H_breaks h3 h30 h35 hI S Lc K
      by_cases k18 : (18 : Int) = jand (jsx xs x3) 31
      · refine jr_tableIn (pc := 32) C (jIn_and _ _) k18 (off := 632) (tgt := 664) dL_law_32 (by decide) (by decide) rfl (by decide) ?_
        exact lc_done C hX hbl hL hcs hC1 hM1 H_done h3 h30 h35 hI S Lc K
      by_cases k19 : (19 : Int) = jand (jsx xs x3) 31
      · refine jr_tableIn (pc := 32) C (jIn_and _ _) k19 (off := 655) (tgt := 687) dL_law_32 (by decide) (by decide) rfl (by decide) ?_
        exact lc_late C hX hbl hL hcs hC1 hM1 H_late h3 h30 h35 hI S Lc K
      by_cases k20 : (20 : Int) = jand (jsx xs x3) 31
      · refine jr_tableIn (pc := 32) C (jIn_and _ _) k20 (off := 678) (tgt := 710) dL_law_32 (by decide) (by decide) rfl (by decide) ?_
        exact lc_image C hX hbl hL hcs hC1 hM1 H_image h3 h30 h35 hI S Lc K
      by_cases k21 : (21 : Int) = jand (jsx xs x3) 31
      · refine jr_tableIn (pc := 32) C (jIn_and _ _) k21 (off := 701) (tgt := 733) dL_law_32 (by decide) (by decide) rfl (by decide) ?_
        exact lc_restore C hX hbl hL hcs hC1 hM1 H_restore h3 h30 h35 hI S Lc K
      by_cases k22 : (22 : Int) = jand (jsx xs x3) 31
      · refine jr_tableIn (pc := 32) C (jIn_and _ _) k22 (off := 724) (tgt := 756) dL_law_32 (by decide) (by decide) rfl (by decide) ?_
        exact lc_told C hX hbl hL hcs hC1 hM1 H_told h3 h30 h35 hI S Lc K
      refine jr_tableOut (pc := 32) C (jIn_and _ _) (tgt := 779) dL_law_32 (by omega) (by decide) ?_
      exact K H locs mC mM hI S
