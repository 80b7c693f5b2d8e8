set_option maxHeartbeats 4000000 in
set_option maxRecDepth 100000 in
theorem t_X11_isIn_e {p : Program} {l : Launch} {e : Env} {s : State} {mi : MethodId} {args : Array Value} {below : List Frame} {meth : Method} {c : Code} {D : va_G} {cy : Nat → ClassId} {B sz : Nat} {sh : jm_S} {res : Int} {m0 : jm_M} (C : jCx p s mi args meth c cX11_isIn 2 RX11 (some .boolean) D cy) {x0 : Int} (h_x0 : jIn x0) {x1 : Int} (h_x1 : jIn x1) {H : Heap} {locs : List Loc} {ls : Array Slot} (S : jHs D cy B sz sh (jA B sz) s.heap H locs m0) (L : jL ls [some (jI x0), some (jI x1)]) (hyp : f_X11_isIn x0 x1 = some res) : W p l e (jrm 0 0 0) s mi args below meth c H locs 0 0 (MQ below (jQc D cy B sz sh m0 (some (jI res)) (jIn res)) args s 0 0 (jA B sz)) (F0 mi 0 ls []) := by
  unfold f_X11_isIn at hyp
  refine jr_iload_n (pc := 0) C L dX11_isIn_0 rfl rfl ?_
  refine jr_iload_n (pc := 1) C L dX11_isIn_1 rfl rfl ?_
  refine jr_ishr (pc := 2) C dX11_isIn_2 ?_
  refine jr_iconst (pc := 3) C dX11_isIn_3 ?_
  refine jr_iand (pc := 4) C dX11_isIn_4 ?_
  refine jr_iconst (pc := 5) C dX11_isIn_5 ?_
  refine jr_icmp_ne (pc := 6) C (jIn_and _ _) (show jIn 1 from ⟨by decide, by decide⟩) (tgt := 13) dX11_isIn_6 (by decide) (fun c1 => ?_) (fun c1 => ?_)
  · have hyp := (if_pos c1).symm.trans hyp
    refine jr_iconst (pc := 9) C dX11_isIn_9 ?_
    refine jr_goto (pc := 10) C (tgt := 14) dX11_isIn_10 (by decide) ?_
    cases hyp
    exact jr_zret C S (show jIn 1 from ⟨by decide, by decide⟩) rfl dX11_isIn_14
  · have hyp := (if_neg c1).symm.trans hyp
    refine jr_iconst (pc := 13) C dX11_isIn_13 ?_
    cases hyp
    exact jr_zret C S (show jIn 0 from ⟨by decide, by decide⟩) rfl dX11_isIn_14
theorem c_X11_isIn {l : Launch} {D : va_G} {cy : Nat → ClassId} {B sz : Nat} {sh : jm_S} {res : Int} {m0 : jm_M} {x0 : Int} (h_x0 : jIn x0) {x1 : Int} (h_x1 : jIn x1) (hyp : f_X11_isIn x0 x1 = some res) : jCt l D cy B sz sh 0 yX11_isIn cX11_isIn 2 (some .boolean) [jI x0, jI x1] m0 (some (jI res)) m0 (jIn res) :=
  jc_of (by decide) (fun v h => by simp only [List.mem_cons, List.not_mem_nil, or_false] at h; rcases h with rfl | rfl <;> first | rfl | exact jR_cat _ _) (Nat.le_of_ble_eq_true rfl) (fun C S L => t_X11_isIn_e C  h_x0 h_x1 S L hyp)
set_option maxHeartbeats 4000000 in
set_option maxRecDepth 100000 in
theorem t_X1_holds_e {p : Program} {l : Launch} {e : Env} {s : State} {mi : MethodId} {args : Array Value} {below : List Frame} {meth : Method} {c : Code} {D : va_G} {cy : Nat → ClassId} {B sz : Nat} {sh : jm_S} {res : Int} {m0 : jm_M} (C : jCx p s mi args meth c cX1_holds 2 RX1 (some .boolean) D cy) {a0 : Nat} {x1 : Int} (h_x1 : jIn x1) {H : Heap} {locs : List Loc} {ls : Array Slot} (S : jHs D cy B sz sh (jA B sz) s.heap H locs m0) (L : jL ls [some (jR B a0), some (jI x1)]) (hyp : f_X1_holds sh a0 x1 m0 = some res) : W p l e (jrm 1 0 0) s mi args below meth c H locs 0 0 (MQ below (jQc D cy B sz sh m0 (some (jI res)) (jIn res)) args s 0 0 (jA B sz)) (F0 mi 0 ls []) := by
  unfold f_X1_holds at hyp
  refine jr_aload_n (pc := 0) C L dX1_holds_0 rfl rfl ?_
  obtain ⟨v1, hv1, hyp⟩ := jbind hyp
  refine jr_getR (pc := 1) C S lf_X1_9 rfl hv1 dX1_holds_1 ?_
  refine jr_iconst (pc := 4) C dX1_holds_4 ?_
  obtain ⟨v2, hv2, hyp⟩ := jbind hyp
  have iv2 := jra_in S hv2
  refine jr_ial (pc := 5) C S (show jIn 3 from ⟨by decide, by decide⟩) hv2 dX1_holds_5 ?_
  refine jr_iload_n (pc := 6) C L dX1_holds_6 rfl rfl ?_
  obtain ⟨q3, hq3, hyp⟩ := jbind hyp
  refine jr_callSN_I (pc := 7) C S L (As := [jI v2, jI x1]) (rest := []) (c_X11_isIn (m0 := m0) iv2 h_x1 hq3) ms_X11_isIn mn_X1_41 (by decide) rfl rfl rfl (Nat.le_of_ble_eq_true rfl) ⟨Nat.le_refl 0, Nat.le_refl 0⟩ dX1_holds_7 (fun p4 H locs S => ?_)
  obtain ⟨z5, hz5, hyp⟩ := jbind hyp
  cases hyp
  exact jr_zret C S (jzb_in hz5) hz5 dX1_holds_10
theorem c_X1_holds {l : Launch} {D : va_G} {cy : Nat → ClassId} {B sz : Nat} {sh : jm_S} {res : Int} {m0 : jm_M} {a0 : Nat} {x1 : Int} (h_x1 : jIn x1) (hyp : f_X1_holds sh a0 x1 m0 = some res) : jCt l D cy B sz sh 1 yX1_holds cX1_holds 2 (some .boolean) [jR B a0, jI x1] m0 (some (jI res)) m0 (jIn res) :=
  jc_of (by decide) (fun v h => by simp only [List.mem_cons, List.not_mem_nil, or_false] at h; rcases h with rfl | rfl <;> first | rfl | exact jR_cat _ _) (Nat.le_of_ble_eq_true rfl) (fun C S L => t_X1_holds_e C  h_x1 S L hyp)
set_option maxHeartbeats 4000000 in
set_option maxRecDepth 100000 in
theorem t_X11_setOf_e {p : Program} {l : Launch} {e : Env} {s : State} {mi : MethodId} {args : Array Value} {below : List Frame} {meth : Method} {c : Code} {D : va_G} {cy : Nat → ClassId} {B sz : Nat} {sh : jm_S} {res : Int} {m0 : jm_M} (C : jCx p s mi args meth c cX11_setOf 2 RX11 (some .int) D cy) {x0 : Int} (h_x0 : jIn x0) {x1 : Int} (h_x1 : jIn x1) {H : Heap} {locs : List Loc} {ls : Array Slot} (S : jHs D cy B sz sh (jA B sz) s.heap H locs m0) (L : jL ls [some (jI x0), some (jI x1)]) (hyp : f_X11_setOf x0 x1 = some res) : W p l e (jrm 0 0 0) s mi args below meth c H locs 0 0 (MQ below (jQc D cy B sz sh m0 (some (jI res)) (jIn res)) args s 0 0 (jA B sz)) (F0 mi 0 ls []) := by
  unfold f_X11_setOf at hyp
  refine jr_iload_n (pc := 0) C L dX11_setOf_0 rfl rfl ?_
  refine jr_iload_n (pc := 1) C L dX11_setOf_1 rfl rfl ?_
  refine jr_iconst (pc := 2) C dX11_setOf_2 ?_
  refine jr_isub (pc := 3) C dX11_setOf_3 ?_
  refine jr_iand (pc := 4) C dX11_setOf_4 ?_
  cases hyp
  exact jr_iret C S (jIn_and _ _) dX11_setOf_5
theorem c_X11_setOf {l : Launch} {D : va_G} {cy : Nat → ClassId} {B sz : Nat} {sh : jm_S} {res : Int} {m0 : jm_M} {x0 : Int} (h_x0 : jIn x0) {x1 : Int} (h_x1 : jIn x1) (hyp : f_X11_setOf x0 x1 = some res) : jCt l D cy B sz sh 0 yX11_setOf cX11_setOf 2 (some .int) [jI x0, jI x1] m0 (some (jI res)) m0 (jIn res) :=
  jc_of (by decide) (fun v h => by simp only [List.mem_cons, List.not_mem_nil, or_false] at h; rcases h with rfl | rfl <;> first | rfl | exact jR_cat _ _) (Nat.le_of_ble_eq_true rfl) (fun C S L => t_X11_setOf_e C  h_x0 h_x1 S L hyp)
set_option maxHeartbeats 4000000 in
set_option maxRecDepth 100000 in
theorem t_X11_linesOfSet_e {p : Program} {l : Launch} {e : Env} {s : State} {mi : MethodId} {args : Array Value} {below : List Frame} {meth : Method} {c : Code} {D : va_G} {cy : Nat → ClassId} {B sz : Nat} {sh : jm_S} {res : Int} {m0 : jm_M} (C : jCx p s mi args meth c cX11_linesOfSet 2 RX11 (some .int) D cy) {x0 : Int} (h_x0 : jIn x0) {x1 : Int} (h_x1 : jIn x1) {H : Heap} {locs : List Loc} {ls : Array Slot} (S : jHs D cy B sz sh (jA B sz) s.heap H locs m0) (L : jL ls [some (jI x0), some (jI x1)]) (hyp : f_X11_linesOfSet x0 x1 = some res) : W p l e (jrm 0 0 0) s mi args below meth c H locs 0 0 (MQ below (jQc D cy B sz sh m0 (some (jI res)) (jIn res)) args s 0 0 (jA B sz)) (F0 mi 0 ls []) := by
  unfold f_X11_linesOfSet at hyp
  refine jr_iload_n (pc := 0) C L dX11_linesOfSet_0 rfl rfl ?_
  by_cases c1 : (1 : Int) = x1
  · have hyp := (if_pos c1).symm.trans hyp
    refine jr_lookup (pc := 1) C h_x1 (off := 27) (tgt := 28) dX11_linesOfSet_1 rfl (if_pos c1) (by decide) ?_
    refine jr_sipush (pc := 28) C dX11_linesOfSet_28 (by decide) ?_
    cases hyp
    exact jr_iret C S (show jIn 255 from ⟨by decide, by decide⟩) dX11_linesOfSet_31
  have hyp := (if_neg c1).symm.trans hyp
  by_cases c2 : (2 : Int) = x1
  · have hyp := (if_pos c2).symm.trans hyp
    refine jr_lookup (pc := 1) C h_x1 (off := 31) (tgt := 32) dX11_linesOfSet_1 rfl ((if_neg c1).trans (if_pos c2)) (by decide) ?_
    refine jr_bipush (pc := 32) C dX11_linesOfSet_32 (by decide) ?_
    refine jr_iload_n (pc := 34) C L dX11_linesOfSet_34 rfl rfl ?_
    refine jr_ishl (pc := 35) C dX11_linesOfSet_35 ?_
    cases hyp
    exact jr_iret C S (jIn_shl _ _) dX11_linesOfSet_36
  have hyp := (if_neg c2).symm.trans hyp
  refine jr_lookup (pc := 1) C h_x1 (off := 36) (tgt := 37) dX11_linesOfSet_1 rfl ((if_neg c1).trans ((if_neg c2).trans rfl)) (by decide) ?_
  refine jr_bipush (pc := 37) C dX11_linesOfSet_37 (by decide) ?_
  refine jr_iload_n (pc := 39) C L dX11_linesOfSet_39 rfl rfl ?_
  refine jr_ishl (pc := 40) C dX11_linesOfSet_40 ?_
  cases hyp
  exact jr_iret C S (jIn_shl _ _) dX11_linesOfSet_41
theorem c_X11_linesOfSet {l : Launch} {D : va_G} {cy : Nat → ClassId} {B sz : Nat} {sh : jm_S} {res : Int} {m0 : jm_M} {x0 : Int} (h_x0 : jIn x0) {x1 : Int} (h_x1 : jIn x1) (hyp : f_X11_linesOfSet x0 x1 = some res) : jCt l D cy B sz sh 0 yX11_linesOfSet cX11_linesOfSet 2 (some .int) [jI x0, jI x1] m0 (some (jI res)) m0 (jIn res) :=
  jc_of (by decide) (fun v h => by simp only [List.mem_cons, List.not_mem_nil, or_false] at h; rcases h with rfl | rfl <;> first | rfl | exact jR_cat _ _) (Nat.le_of_ble_eq_true rfl) (fun C S L => t_X11_linesOfSet_e C  h_x0 h_x1 S L hyp)
set_option maxHeartbeats 4000000 in
set_option maxRecDepth 100000 in
theorem t_J6_bitCount_0f7a4_e {p : Program} {l : Launch} {e : Env} {s : State} {mi : MethodId} {args : Array Value} {below : List Frame} {meth : Method} {c : Code} {D : va_G} {cy : Nat → ClassId} {B sz : Nat} {sh : jm_S} {res : Int} {m0 : jm_M} (C : jCx p s mi args meth c cJ6_bitCount_0f7a4 1 RJ6 (some .int) D cy) {x0 : Int} (h_x0 : jIn x0) {H : Heap} {locs : List Loc} {ls : Array Slot} (S : jHs D cy B sz sh (jA B sz) s.heap H locs m0) (L : jL ls [some (jI x0)]) (hyp : f_J6_bitCount_0f7a4 x0 = some res) : W p l e (jrm 0 0 0) s mi args below meth c H locs 0 0 (MQ below (jQc D cy B sz sh m0 (some (jI res)) (jIn res)) args s 0 0 (jA B sz)) (F0 mi 0 ls []) := by
  unfold f_J6_bitCount_0f7a4 at hyp
  refine jr_iload_n (pc := 0) C L dJ6_bitCount_0f7a4_0 rfl rfl ?_
  refine jr_iload_n (pc := 1) C L dJ6_bitCount_0f7a4_1 rfl rfl ?_
  refine jr_iconst (pc := 2) C dJ6_bitCount_0f7a4_2 ?_
  refine jr_iushr (pc := 3) C dJ6_bitCount_0f7a4_3 ?_
  refine jr_ldcw (pc := 4) C (n := 1431655765) kc_J6_265 dJ6_bitCount_0f7a4_4 ?_
  refine jr_iand (pc := 7) C dJ6_bitCount_0f7a4_7 ?_
  refine jr_isub (pc := 8) C dJ6_bitCount_0f7a4_8 ?_
  refine jr_istore_n (pc := 9) C L dJ6_bitCount_0f7a4_9 rfl (Nat.le_of_ble_eq_true rfl) (fun ls L => ?_)
  have L : jL ls [some (jI (jw (x0 - (jand (jushr x0 1) 1431655765))))] := L
  refine jr_iload_n (pc := 10) C L dJ6_bitCount_0f7a4_10 rfl rfl ?_
  refine jr_ldcw (pc := 11) C (n := 858993459) kc_J6_266 dJ6_bitCount_0f7a4_11 ?_
  refine jr_iand (pc := 14) C dJ6_bitCount_0f7a4_14 ?_
  refine jr_iload_n (pc := 15) C L dJ6_bitCount_0f7a4_15 rfl rfl ?_
  refine jr_iconst (pc := 16) C dJ6_bitCount_0f7a4_16 ?_
  refine jr_iushr (pc := 17) C dJ6_bitCount_0f7a4_17 ?_
  refine jr_ldcw (pc := 18) C (n := 858993459) kc_J6_266 dJ6_bitCount_0f7a4_18 ?_
  refine jr_iand (pc := 21) C dJ6_bitCount_0f7a4_21 ?_
  refine jr_iadd (pc := 22) C dJ6_bitCount_0f7a4_22 ?_
  refine jr_istore_n (pc := 23) C L dJ6_bitCount_0f7a4_23 rfl (Nat.le_of_ble_eq_true rfl) (fun ls L => ?_)
  have L : jL ls [some (jI (jw ((jand (jw (x0 - (jand (jushr x0 1) 1431655765))) 858993459) + (jand (jushr (jw (x0 - (jand (jushr x0 1) 1431655765))) 2) 858993459))))] := L
  refine jr_iload_n (pc := 24) C L dJ6_bitCount_0f7a4_24 rfl rfl ?_
  refine jr_iload_n (pc := 25) C L dJ6_bitCount_0f7a4_25 rfl rfl ?_
  refine jr_iconst (pc := 26) C dJ6_bitCount_0f7a4_26 ?_
  refine jr_iushr (pc := 27) C dJ6_bitCount_0f7a4_27 ?_
  refine jr_iadd (pc := 28) C dJ6_bitCount_0f7a4_28 ?_
  refine jr_ldcw (pc := 29) C (n := 252645135) kc_J6_267 dJ6_bitCount_0f7a4_29 ?_
  refine jr_iand (pc := 32) C dJ6_bitCount_0f7a4_32 ?_
  refine jr_istore_n (pc := 33) C L dJ6_bitCount_0f7a4_33 rfl (Nat.le_of_ble_eq_true rfl) (fun ls L => ?_)
  have L : jL ls [some (jI (jand (jw ((jw ((jand (jw (x0 - (jand (jushr x0 1) 1431655765))) 858993459) + (jand (jushr (jw (x0 - (jand (jushr x0 1) 1431655765))) 2) 858993459))) + (jushr (jw ((jand (jw (x0 - (jand (jushr x0 1) 1431655765))) 858993459) + (jand (jushr (jw (x0 - (jand (jushr x0 1) 1431655765))) 2) 858993459))) 4))) 252645135))] := L
  refine jr_iload_n (pc := 34) C L dJ6_bitCount_0f7a4_34 rfl rfl ?_
  refine jr_iload_n (pc := 35) C L dJ6_bitCount_0f7a4_35 rfl rfl ?_
  refine jr_bipush (pc := 36) C dJ6_bitCount_0f7a4_36 (by decide) ?_
  refine jr_iushr (pc := 38) C dJ6_bitCount_0f7a4_38 ?_
  refine jr_iadd (pc := 39) C dJ6_bitCount_0f7a4_39 ?_
  refine jr_istore_n (pc := 40) C L dJ6_bitCount_0f7a4_40 rfl (Nat.le_of_ble_eq_true rfl) (fun ls L => ?_)
  have L : jL ls [some (jI (jw ((jand (jw ((jw ((jand (jw (x0 - (jand (jushr x0 1) 1431655765))) 858993459) + (jand (jushr (jw (x0 - (jand (jushr x0 1) 1431655765))) 2) 858993459))) + (jushr (jw ((jand (jw (x0 - (jand (jushr x0 1) 1431655765))) 858993459) + (jand (jushr (jw (x0 - (jand (jushr x0 1) 1431655765))) 2) 858993459))) 4))) 252645135) + (jushr (jand (jw ((jw ((jand (jw (x0 - (jand (jushr x0 1) 1431655765))) 858993459) + (jand (jushr (jw (x0 - (jand (jushr x0 1) 1431655765))) 2) 858993459))) + (jushr (jw ((jand (jw (x0 - (jand (jushr x0 1) 1431655765))) 858993459) + (jand (jushr (jw (x0 - (jand (jushr x0 1) 1431655765))) 2) 858993459))) 4))) 252645135) 8))))] := L
  refine jr_iload_n (pc := 41) C L dJ6_bitCount_0f7a4_41 rfl rfl ?_
  refine jr_iload_n (pc := 42) C L dJ6_bitCount_0f7a4_42 rfl rfl ?_
  refine jr_bipush (pc := 43) C dJ6_bitCount_0f7a4_43 (by decide) ?_
  refine jr_iushr (pc := 45) C dJ6_bitCount_0f7a4_45 ?_
  refine jr_iadd (pc := 46) C dJ6_bitCount_0f7a4_46 ?_
  refine jr_istore_n (pc := 47) C L dJ6_bitCount_0f7a4_47 rfl (Nat.le_of_ble_eq_true rfl) (fun ls L => ?_)
  have L : jL ls [some (jI (jw ((jw ((jand (jw ((jw ((jand (jw (x0 - (jand (jushr x0 1) 1431655765))) 858993459) + (jand (jushr (jw (x0 - (jand (jushr x0 1) 1431655765))) 2) 858993459))) + (jushr (jw ((jand (jw (x0 - (jand (jushr x0 1) 1431655765))) 858993459) + (jand (jushr (jw (x0 - (jand (jushr x0 1) 1431655765))) 2) 858993459))) 4))) 252645135) + (jushr (jand (jw ((jw ((jand (jw (x0 - (jand (jushr x0 1) 1431655765))) 858993459) + (jand (jushr (jw (x0 - (jand (jushr x0 1) 1431655765))) 2) 858993459))) + (jushr (jw ((jand (jw (x0 - (jand (jushr x0 1) 1431655765))) 858993459) + (jand (jushr (jw (x0 - (jand (jushr x0 1) 1431655765))) 2) 858993459))) 4))) 252645135) 8))) + (jushr (jw ((jand (jw ((jw ((jand (jw (x0 - (jand (jushr x0 1) 1431655765))) 858993459) + (jand (jushr (jw (x0 - (jand (jushr x0 1) 1431655765))) 2) 858993459))) + (jushr (jw ((jand (jw (x0 - (jand (jushr x0 1) 1431655765))) 858993459) + (jand (jushr (jw (x0 - (jand (jushr x0 1) 1431655765))) 2) 858993459))) 4))) 252645135) + (jushr (jand (jw ((jw ((jand (jw (x0 - (jand (jushr x0 1) 1431655765))) 858993459) + (jand (jushr (jw (x0 - (jand (jushr x0 1) 1431655765))) 2) 858993459))) + (jushr (jw ((jand (jw (x0 - (jand (jushr x0 1) 1431655765))) 858993459) + (jand (jushr (jw (x0 - (jand (jushr x0 1) 1431655765))) 2) 858993459))) 4))) 252645135) 8))) 16))))] := L
  refine jr_iload_n (pc := 48) C L dJ6_bitCount_0f7a4_48 rfl rfl ?_
  refine jr_bipush (pc := 49) C dJ6_bitCount_0f7a4_49 (by decide) ?_
  refine jr_iand (pc := 51) C dJ6_bitCount_0f7a4_51 ?_
  cases hyp
  exact jr_iret C S (jIn_and _ _) dJ6_bitCount_0f7a4_52
theorem c_J6_bitCount_0f7a4 {l : Launch} {D : va_G} {cy : Nat → ClassId} {B sz : Nat} {sh : jm_S} {res : Int} {m0 : jm_M} {x0 : Int} (h_x0 : jIn x0) (hyp : f_J6_bitCount_0f7a4 x0 = some res) : jCt l D cy B sz sh 0 yJ6_bitCount_0f7a4 cJ6_bitCount_0f7a4 1 (some .int) [jI x0] m0 (some (jI res)) m0 (jIn res) :=
  jc_ofF (by decide +kernel) (fun v h => by rw [List.mem_singleton.mp h]; first | rfl | exact jR_cat _ _) (Nat.le_of_ble_eq_true rfl) (fun C S L => t_J6_bitCount_0f7a4_e C  h_x0 S L hyp)
set_option maxHeartbeats 4000000 in
set_option maxRecDepth 100000 in
theorem t_X1_roomFor_e {p : Program} {l : Launch} {e : Env} {s : State} {mi : MethodId} {args : Array Value} {below : List Frame} {meth : Method} {c : Code} {D : va_G} {cy : Nat → ClassId} {B sz : Nat} {sh : jm_S} {res : Int} {m0 : jm_M} (C : jCx p s mi args meth c cX1_roomFor 4 RX1 (some .int) D cy) {a0 : Nat} {x1 : Int} (h_x1 : jIn x1) {H : Heap} {locs : List Loc} {ls : Array Slot} (S : jHs D cy B sz sh (jA B sz) s.heap H locs m0) (L : jL ls [some (jR B a0), some (jI x1), none, none]) (hyp : f_X1_roomFor sh a0 x1 m0 = some res) : W p l e (jrm 1 0 0) s mi args below meth c H locs 0 0 (MQ below (jQc D cy B sz sh m0 (some (jI res)) (jIn res)) args s 0 0 (jA B sz)) (F0 mi 0 ls []) := by
  unfold f_X1_roomFor at hyp
  refine jr_aload_n (pc := 0) C L dX1_roomFor_0 rfl rfl ?_
  obtain ⟨v1, hv1, hyp⟩ := jbind hyp
  refine jr_getR (pc := 1) C S lf_X1_9 rfl hv1 dX1_roomFor_1 ?_
  refine jr_iconst (pc := 4) C dX1_roomFor_4 ?_
  obtain ⟨v2, hv2, hyp⟩ := jbind hyp
  have iv2 := jra_in S hv2
  refine jr_ial (pc := 5) C S (show jIn 0 from ⟨by decide, by decide⟩) hv2 dX1_roomFor_5 ?_
  refine jr_istore_n (pc := 6) C L dX1_roomFor_6 rfl (Nat.le_of_ble_eq_true rfl) (fun ls L => ?_)
  have L : jL ls [some (jR B a0), some (jI x1), some (jI v2), none] := L
  refine jr_aload_n (pc := 7) C L dX1_roomFor_7 rfl rfl ?_
  obtain ⟨v3, hv3, hyp⟩ := jbind hyp
  refine jr_getR (pc := 8) C S lf_X1_9 rfl hv3 dX1_roomFor_8 ?_
  refine jr_iconst (pc := 11) C dX1_roomFor_11 ?_
  obtain ⟨v4, hv4, hyp⟩ := jbind hyp
  have iv4 := jra_in S hv4
  refine jr_ial (pc := 12) C S (show jIn 3 from ⟨by decide, by decide⟩) hv4 dX1_roomFor_12 ?_
  refine jr_iload_n (pc := 13) C L dX1_roomFor_13 rfl rfl ?_
  refine jr_iload_n (pc := 14) C L dX1_roomFor_14 rfl rfl ?_
  obtain ⟨q5, hq5, hyp⟩ := jbind hyp
  refine jr_callSN_I (pc := 15) C S L (As := [jI x1, jI v2]) (rest := [jI v4]) (c_X11_setOf (m0 := m0) h_x1 iv2 hq5) ms_X11_setOf mn_X1_44 (by decide) rfl rfl rfl (Nat.le_of_ble_eq_true rfl) ⟨Nat.le_refl 0, Nat.le_refl 0⟩ dX1_roomFor_15 (fun p6 H locs S => ?_)
  refine jr_iload_n (pc := 18) C L dX1_roomFor_18 rfl rfl ?_
  obtain ⟨q7, hq7, hyp⟩ := jbind hyp
  refine jr_callSN_I (pc := 19) C S L (As := [jI q5, jI v2]) (rest := [jI v4]) (c_X11_linesOfSet (m0 := m0) p6 iv2 hq7) ms_X11_linesOfSet mn_X1_48 (by decide) rfl rfl rfl (Nat.le_of_ble_eq_true rfl) ⟨Nat.le_refl 0, Nat.le_refl 0⟩ dX1_roomFor_19 (fun p8 H locs S => ?_)
  refine jr_iand (pc := 22) C dX1_roomFor_22 ?_
  refine jr_istore_n (pc := 23) C L dX1_roomFor_23 rfl (Nat.le_of_ble_eq_true rfl) (fun ls L => ?_)
  have L : jL ls [some (jR B a0), some (jI x1), some (jI v2), some (jI (jand v4 q7))] := L
  refine jr_aload_n (pc := 24) C L dX1_roomFor_24 rfl rfl ?_
  obtain ⟨v9, hv9, hyp⟩ := jbind hyp
  refine jr_getR (pc := 25) C S lf_X1_9 rfl hv9 dX1_roomFor_25 ?_
  refine jr_iconst (pc := 28) C dX1_roomFor_28 ?_
  obtain ⟨v10, hv10, hyp⟩ := jbind hyp
  have iv10 := jra_in S hv10
  refine jr_ial (pc := 29) C S (show jIn 1 from ⟨by decide, by decide⟩) hv10 dX1_roomFor_29 ?_
  refine jr_iload_n (pc := 30) C L dX1_roomFor_30 rfl rfl ?_
  obtain ⟨q11, hq11, hyp⟩ := jbind hyp
  refine jr_callS_I (pc := 31) C S L (As := [jI (jand v4 q7)]) (rest := [jI v10]) (c_J6_bitCount_0f7a4 (m0 := m0) (jIn_and _ _) hq11) ms_J6_bitCount_0f7a4 ml_X1_51 (by decide) rfl rfl rfl (Nat.le_of_ble_eq_true rfl) ⟨Nat.le_refl 0, Nat.le_refl 0⟩ dX1_roomFor_31 (fun p12 H locs S => ?_)
  refine jr_isub (pc := 34) C dX1_roomFor_34 ?_
  cases hyp
  exact jr_iret C S (jIn_w _) dX1_roomFor_35
theorem c_X1_roomFor {l : Launch} {D : va_G} {cy : Nat → ClassId} {B sz : Nat} {sh : jm_S} {res : Int} {m0 : jm_M} {a0 : Nat} {x1 : Int} (h_x1 : jIn x1) (hyp : f_X1_roomFor sh a0 x1 m0 = some res) : jCt l D cy B sz sh 1 yX1_roomFor cX1_roomFor 4 (some .int) [jR B a0, jI x1] m0 (some (jI res)) m0 (jIn res) :=
  jc_of (by decide) (fun v h => by simp only [List.mem_cons, List.not_mem_nil, or_false] at h; rcases h with rfl | rfl <;> first | rfl | exact jR_cat _ _) (Nat.le_of_ble_eq_true rfl) (fun C S L => t_X1_roomFor_e C  h_x1 S L hyp)
set_option maxHeartbeats 4000000 in
set_option maxRecDepth 100000 in
theorem t_X10_firstPart_e {p : Program} {l : Launch} {e : Env} {s : State} {mi : MethodId} {args : Array Value} {below : List Frame} {meth : Method} {c : Code} {D : va_G} {cy : Nat → ClassId} {B sz : Nat} {sh : jm_S} {res : Int} {m0 : jm_M} (C : jCx p s mi args meth c cX10_firstPart 2 RX10 (some .int) D cy) {a0 : Nat} {x1 : Int} (h_x1 : jIn x1) {H : Heap} {locs : List Loc} {ls : Array Slot} (S : jHs D cy B sz sh (jA B sz) s.heap H locs m0) (L : jL ls [some (jR B a0), some (jI x1)]) (hyp : f_X10_firstPart a0 x1 = some res) : W p l e (jrm 0 0 0) s mi args below meth c H locs 0 0 (MQ below (jQc D cy B sz sh m0 (some (jI res)) (jIn res)) args s 0 0 (jA B sz)) (F0 mi 0 ls []) := by
  unfold f_X10_firstPart at hyp
  refine jr_iload_n (pc := 0) C L dX10_firstPart_0 rfl rfl ?_
  refine jr_iconst (pc := 1) C dX10_firstPart_1 ?_
  refine jr_iadd (pc := 2) C dX10_firstPart_2 ?_
  cases hyp
  exact jr_iret C S (jIn_w _) dX10_firstPart_3
theorem c_X10_firstPart {l : Launch} {D : va_G} {cy : Nat → ClassId} {B sz : Nat} {sh : jm_S} {res : Int} {m0 : jm_M} {a0 : Nat} {x1 : Int} (h_x1 : jIn x1) (hyp : f_X10_firstPart a0 x1 = some res) : jCt l D cy B sz sh 0 yX10_firstPart cX10_firstPart 2 (some .int) [jR B a0, jI x1] m0 (some (jI res)) m0 (jIn res) :=
  jc_of (by decide) (fun v h => by simp only [List.mem_cons, List.not_mem_nil, or_false] at h; rcases h with rfl | rfl <;> first | rfl | exact jR_cat _ _) (Nat.le_of_ble_eq_true rfl) (fun C S L => t_X10_firstPart_e C  h_x1 S L hyp)
set_option maxHeartbeats 4000000 in
set_option maxRecDepth 100000 in
theorem t_X10_sizeAt_e {p : Program} {l : Launch} {e : Env} {s : State} {mi : MethodId} {args : Array Value} {below : List Frame} {meth : Method} {c : Code} {D : va_G} {cy : Nat → ClassId} {B sz : Nat} {sh : jm_S} {res : Int} {m0 : jm_M} (C : jCx p s mi args meth c cX10_sizeAt 2 RX10 (some .int) D cy) {a0 : Nat} {x1 : Int} (h_x1 : jIn x1) {H : Heap} {locs : List Loc} {ls : Array Slot} (S : jHs D cy B sz sh (jA B sz) s.heap H locs m0) (L : jL ls [some (jR B a0), some (jI x1)]) (hyp : f_X10_sizeAt sh a0 x1 m0 = some res) : W p l e (jrm 0 0 0) s mi args below meth c H locs 0 0 (MQ below (jQc D cy B sz sh m0 (some (jI res)) (jIn res)) args s 0 0 (jA B sz)) (F0 mi 0 ls []) := by
  unfold f_X10_sizeAt at hyp
  refine jr_iload_n (pc := 0) C L dX10_sizeAt_0 rfl rfl ?_
  refine jr_if_lt (pc := 1) C h_x1 (tgt := 19) dX10_sizeAt_1 (by decide) (fun c1 => ?_) (fun c1 => ?_)
  · have hyp := (if_pos c1).symm.trans hyp
    refine jr_iconst (pc := 19) C dX10_sizeAt_19 ?_
    cases hyp
    exact jr_iret C S (show jIn 1 from ⟨by decide, by decide⟩) dX10_sizeAt_20
  · have hyp := (if_neg c1).symm.trans hyp
    refine jr_iload_n (pc := 4) C L dX10_sizeAt_4 rfl rfl ?_
    refine jr_bipush (pc := 5) C dX10_sizeAt_5 (by decide) ?_
    refine jr_icmp_ge (pc := 7) C h_x1 (show jIn 30 from ⟨by decide, by decide⟩) (tgt := 19) dX10_sizeAt_7 (by decide) (fun c2 => ?_) (fun c2 => ?_)
    · have hyp := (if_pos c2).symm.trans hyp
      refine jr_aload_n (pc := 10) C L dX10_sizeAt_10 rfl rfl ?_
      obtain ⟨v3, hv3, hyp⟩ := jbind hyp
      refine jr_getR (pc := 11) C S lf_X10_19 rfl hv3 dX10_sizeAt_11 ?_
      refine jr_iload_n (pc := 14) C L dX10_sizeAt_14 rfl rfl ?_
      obtain ⟨v4, hv4, hyp⟩ := jbind hyp
      have iv4 := jra_in S hv4
      refine jr_ial (pc := 15) C S h_x1 hv4 dX10_sizeAt_15 ?_
      refine jr_goto (pc := 16) C (tgt := 20) dX10_sizeAt_16 (by decide) ?_
      cases hyp
      exact jr_iret C S iv4 dX10_sizeAt_20
    · have hyp := (if_neg c2).symm.trans hyp
      refine jr_iconst (pc := 19) C dX10_sizeAt_19 ?_
      cases hyp
      exact jr_iret C S (show jIn 1 from ⟨by decide, by decide⟩) dX10_sizeAt_20
theorem c_X10_sizeAt {l : Launch} {D : va_G} {cy : Nat → ClassId} {B sz : Nat} {sh : jm_S} {res : Int} {m0 : jm_M} {a0 : Nat} {x1 : Int} (h_x1 : jIn x1) (hyp : f_X10_sizeAt sh a0 x1 m0 = some res) : jCt l D cy B sz sh 0 yX10_sizeAt cX10_sizeAt 2 (some .int) [jR B a0, jI x1] m0 (some (jI res)) m0 (jIn res) :=
  jc_of (by decide) (fun v h => by simp only [List.mem_cons, List.not_mem_nil, or_false] at h; rcases h with rfl | rfl <;> first | rfl | exact jR_cat _ _) (Nat.le_of_ble_eq_true rfl) (fun C S L => t_X10_sizeAt_e C  h_x1 S L hyp)
set_option maxHeartbeats 4000000 in
set_option maxRecDepth 100000 in
theorem t_X10_secondPart_e {p : Program} {l : Launch} {e : Env} {s : State} {mi : MethodId} {args : Array Value} {below : List Frame} {meth : Method} {c : Code} {D : va_G} {cy : Nat → ClassId} {B sz : Nat} {sh : jm_S} {res : Int} {m0 : jm_M} (C : jCx p s mi args meth c cX10_secondPart 2 RX10 (some .int) D cy) {a0 : Nat} {x1 : Int} (h_x1 : jIn x1) {H : Heap} {locs : List Loc} {ls : Array Slot} (S : jHs D cy B sz sh (jA B sz) s.heap H locs m0) (L : jL ls [some (jR B a0), some (jI x1)]) (hyp : f_X10_secondPart sh a0 x1 m0 = some res) : W p l e (jrm 1 0 0) s mi args below meth c H locs 0 0 (MQ below (jQc D cy B sz sh m0 (some (jI res)) (jIn res)) args s 0 0 (jA B sz)) (F0 mi 0 ls []) := by
  unfold f_X10_secondPart at hyp
  refine jr_iload_n (pc := 0) C L dX10_secondPart_0 rfl rfl ?_
  refine jr_iconst (pc := 1) C dX10_secondPart_1 ?_
  refine jr_iadd (pc := 2) C dX10_secondPart_2 ?_
  refine jr_aload_n (pc := 3) C L dX10_secondPart_3 rfl rfl ?_
  refine jr_iload_n (pc := 4) C L dX10_secondPart_4 rfl rfl ?_
  refine jr_iconst (pc := 5) C dX10_secondPart_5 ?_
  refine jr_iadd (pc := 6) C dX10_secondPart_6 ?_
  obtain ⟨u1, hu1, hyp⟩ := jbind hyp
  obtain ⟨q2, hq2, hyp⟩ := jbind hyp
  refine jr_callV_I (pc := 7) C S L (As := [jI (jw (x1 + 1))]) (rest := [jI (jw (x1 + 1))]) (c_X10_sizeAt (m0 := m0) (jIn_w _) hq2) mv_X10_sizeAt ml_X10_42 rfl (jck_spec hu1) (by decide) rfl rfl rfl (Nat.le_of_ble_eq_true rfl) ⟨Nat.le_refl 0, Nat.le_refl 0⟩ dX10_secondPart_7 (fun p3 H locs S => ?_)
  refine jr_iadd (pc := 10) C dX10_secondPart_10 ?_
  cases hyp
  exact jr_iret C S (jIn_w _) dX10_secondPart_11
theorem c_X10_secondPart {l : Launch} {D : va_G} {cy : Nat → ClassId} {B sz : Nat} {sh : jm_S} {res : Int} {m0 : jm_M} {a0 : Nat} {x1 : Int} (h_x1 : jIn x1) (hyp : f_X10_secondPart sh a0 x1 m0 = some res) : jCt l D cy B sz sh 1 yX10_secondPart cX10_secondPart 2 (some .int) [jR B a0, jI x1] m0 (some (jI res)) m0 (jIn res) :=
  jc_of (by decide) (fun v h => by simp only [List.mem_cons, List.not_mem_nil, or_false] at h; rcases h with rfl | rfl <;> first | rfl | exact jR_cat _ _) (Nat.le_of_ble_eq_true rfl) (fun C S L => t_X10_secondPart_e C  h_x1 S L hyp)
set_option maxHeartbeats 4000000 in
set_option maxRecDepth 100000 in
theorem t_X10_signAt_e {p : Program} {l : Launch} {e : Env} {s : State} {mi : MethodId} {args : Array Value} {below : List Frame} {meth : Method} {c : Code} {D : va_G} {cy : Nat → ClassId} {B sz : Nat} {sh : jm_S} {res : Int} {m0 : jm_M} (C : jCx p s mi args meth c cX10_signAt 2 RX10 (some .int) D cy) {a0 : Nat} {x1 : Int} (h_x1 : jIn x1) {H : Heap} {locs : List Loc} {ls : Array Slot} (S : jHs D cy B sz sh (jA B sz) s.heap H locs m0) (L : jL ls [some (jR B a0), some (jI x1)]) (hyp : f_X10_signAt sh a0 x1 m0 = some res) : W p l e (jrm 0 0 0) s mi args below meth c H locs 0 0 (MQ below (jQc D cy B sz sh m0 (some (jI res)) (jIn res)) args s 0 0 (jA B sz)) (F0 mi 0 ls []) := by
  unfold f_X10_signAt at hyp
  refine jr_iload_n (pc := 0) C L dX10_signAt_0 rfl rfl ?_
  refine jr_if_lt (pc := 1) C h_x1 (tgt := 19) dX10_signAt_1 (by decide) (fun c1 => ?_) (fun c1 => ?_)
  · have hyp := (if_pos c1).symm.trans hyp
    refine jr_bipush (pc := 19) C dX10_signAt_19 (by decide) ?_
    cases hyp
    exact jr_iret C S (show jIn 45 from ⟨by decide, by decide⟩) dX10_signAt_21
  · have hyp := (if_neg c1).symm.trans hyp
    refine jr_iload_n (pc := 4) C L dX10_signAt_4 rfl rfl ?_
    refine jr_bipush (pc := 5) C dX10_signAt_5 (by decide) ?_
    refine jr_icmp_ge (pc := 7) C h_x1 (show jIn 30 from ⟨by decide, by decide⟩) (tgt := 19) dX10_signAt_7 (by decide) (fun c2 => ?_) (fun c2 => ?_)
    · have hyp := (if_pos c2).symm.trans hyp
      refine jr_aload_n (pc := 10) C L dX10_signAt_10 rfl rfl ?_
      obtain ⟨v3, hv3, hyp⟩ := jbind hyp
      refine jr_getR (pc := 11) C S lf_X10_15 rfl hv3 dX10_signAt_11 ?_
      refine jr_iload_n (pc := 14) C L dX10_signAt_14 rfl rfl ?_
      obtain ⟨v4, hv4, hyp⟩ := jbind hyp
      have iv4 := jra_in S hv4
      refine jr_ial (pc := 15) C S h_x1 hv4 dX10_signAt_15 ?_
      refine jr_goto (pc := 16) C (tgt := 21) dX10_signAt_16 (by decide) ?_
      cases hyp
      exact jr_iret C S iv4 dX10_signAt_21
    · have hyp := (if_neg c2).symm.trans hyp
      refine jr_bipush (pc := 19) C dX10_signAt_19 (by decide) ?_
      cases hyp
      exact jr_iret C S (show jIn 45 from ⟨by decide, by decide⟩) dX10_signAt_21
theorem c_X10_signAt {l : Launch} {D : va_G} {cy : Nat → ClassId} {B sz : Nat} {sh : jm_S} {res : Int} {m0 : jm_M} {a0 : Nat} {x1 : Int} (h_x1 : jIn x1) (hyp : f_X10_signAt sh a0 x1 m0 = some res) : jCt l D cy B sz sh 0 yX10_signAt cX10_signAt 2 (some .int) [jR B a0, jI x1] m0 (some (jI res)) m0 (jIn res) :=
  jc_of (by decide) (fun v h => by simp only [List.mem_cons, List.not_mem_nil, or_false] at h; rcases h with rfl | rfl <;> first | rfl | exact jR_cat _ _) (Nat.le_of_ble_eq_true rfl) (fun C S L => t_X10_signAt_e C  h_x1 S L hyp)
set_option maxHeartbeats 4000000 in
set_option maxRecDepth 100000 in
theorem t_X0_copy_b2 {p : Program} {l : Launch} {e : Env} {s : State} {mi : MethodId} {args : Array Value} {below : List Frame} {meth : Method} {c : Code} {D : va_G} {cy : Nat → ClassId} {B sz : Nat} {sh : jm_S} {res : jm_M} {N : Nat} {k2 : Nat → Nat → Int → jm_M → Option jm_M} (C : jCx p s mi args meth c cX0_copy 3 RX0 none D cy) (K2 : ∀ (a0 : Nat) (a1 : Nat) (x2 : Int) , jIn x2 → ∀ (m : jm_M) (H : Heap) (locs : List Loc) (ls : Array Slot), jHs D cy B sz sh (jA B sz) s.heap H locs m → jL ls [some (jR B a0), some (jR B a1), some (jI x2)] → k2 a0 a1 x2 m = some res → W p l e (jrm 0 0 0) s mi args below meth c H locs 0 0 (MQ below (jQc D cy B sz sh res none True) args s 0 0 (jA B sz)) (F0 mi 2 ls [])) {a0 : Nat} {a1 : Nat} {x2 : Int} (h_x2 : jIn x2) {m : jm_M} {H : Heap} {locs : List Loc} {ls : Array Slot} (S : jHs D cy B sz sh (jA B sz) s.heap H locs m) (L : jL ls [some (jR B a0), some (jR B a1), some (jI x2)]) (hyp : f_X0_copy_b2 N sh k2 a0 a1 x2 m = some res) : W p l e (jrm 0 0 0) s mi args below meth c H locs 0 0 (MQ below (jQc D cy B sz sh res none True) args s 0 0 (jA B sz)) (F0 mi 2 ls []) := by
  unfold f_X0_copy_b2 at hyp
  refine jr_iload_n (pc := 2) C L dX0_copy_2 rfl rfl ?_
  refine jr_bipush (pc := 3) C dX0_copy_3 (by decide) ?_
  refine jr_icmp_ge (pc := 5) C h_x2 (show jIn 16 from ⟨by decide, by decide⟩) (tgt := 20) dX0_copy_5 (by decide) (fun c1 => ?_) (fun c1 => ?_)
  · have hyp := (if_pos c1).symm.trans hyp
    refine jr_aload_n (pc := 8) C L dX0_copy_8 rfl rfl ?_
    refine jr_iload_n (pc := 9) C L dX0_copy_9 rfl rfl ?_
    refine jr_aload_n (pc := 10) C L dX0_copy_10 rfl rfl ?_
    refine jr_iload_n (pc := 11) C L dX0_copy_11 rfl rfl ?_
    obtain ⟨v2, hv2, hyp⟩ := jbind hyp
    have iv2 := jra_in S hv2
    refine jr_ial (pc := 12) C S h_x2 hv2 dX0_copy_12 ?_
    obtain ⟨m3, hm3, hyp⟩ := jbind hyp
    refine jr_ias (pc := 13) C S h_x2 iv2 hm3 dX0_copy_13 (fun H locs S => ?_)
    refine jr_iinc (pc := 14) C L dX0_copy_14 rfl (Nat.le_of_ble_eq_true rfl) (fun ls L => ?_)
    have L : jL ls [some (jR B a0), some (jR B a1), some (jI (jw (x2 + 1)))] := L
    refine jr_goto (pc := 17) C (tgt := 2) dX0_copy_17 (by decide) ?_
    exact K2 a0 a1 (jw (x2 + 1)) (jIn_w _) m3 _ _ _ S (L.sub (jsub_s (jsub_s (jsub_s jsub_0)))) hyp
  · have hyp := (if_neg c1).symm.trans hyp
    cases hyp
    exact jr_vret C S trivial dX0_copy_20
theorem t_X0_copy_l2 {p : Program} {l : Launch} {e : Env} {s : State} {mi : MethodId} {args : Array Value} {below : List Frame} {meth : Method} {c : Code} {D : va_G} {cy : Nat → ClassId} {B sz : Nat} {sh : jm_S} {res : jm_M} {N : Nat} (C : jCx p s mi args meth c cX0_copy 3 RX0 none D cy) : ∀ (n : Nat) (a0 : Nat) (a1 : Nat) (x2 : Int), jIn x2 → ∀ (m : jm_M) (H : Heap) (locs : List Loc) (ls : Array Slot), jHs D cy B sz sh (jA B sz) s.heap H locs m → jL ls [some (jR B a0), some (jR B a1), some (jI x2)] → f_X0_copy_l2 N sh n a0 a1 x2 m = some res → W p l e (jrm 0 0 0) s mi args below meth c H locs 0 0 (MQ below (jQc D cy B sz sh res none True) args s 0 0 (jA B sz)) (F0 mi 2 ls []) := by
  intro n
  induction n with
  | zero => intro a0 a1 x2 h_x2 m H locs ls S L hyp; cases hyp
  | succ n ih => intro a0 a1 x2 h_x2 m H locs ls S L hyp; exact t_X0_copy_b2 (N := N) C  ih h_x2 S L hyp
set_option maxHeartbeats 4000000 in
set_option maxRecDepth 100000 in
theorem t_X0_copy_e {p : Program} {l : Launch} {e : Env} {s : State} {mi : MethodId} {args : Array Value} {below : List Frame} {meth : Method} {c : Code} {D : va_G} {cy : Nat → ClassId} {B sz : Nat} {sh : jm_S} {res : jm_M} {N : Nat} (C : jCx p s mi args meth c cX0_copy 3 RX0 none D cy) {a0 : Nat} {a1 : Nat} {m : jm_M} {H : Heap} {locs : List Loc} {ls : Array Slot} (S : jHs D cy B sz sh (jA B sz) s.heap H locs m) (L : jL ls [some (jR B a0), some (jR B a1), none]) (hyp : f_X0_copy N sh a0 a1 m = some res) : W p l e (jrm 0 0 0) s mi args below meth c H locs 0 0 (MQ below (jQc D cy B sz sh res none True) args s 0 0 (jA B sz)) (F0 mi 0 ls []) := by
  unfold f_X0_copy at hyp
  refine jr_iconst (pc := 0) C dX0_copy_0 ?_
  refine jr_istore_n (pc := 1) C L dX0_copy_1 rfl (Nat.le_of_ble_eq_true rfl) (fun ls L => ?_)
  have L : jL ls [some (jR B a0), some (jR B a1), some (jI 0)] := L
  exact t_X0_copy_l2 C   N a0 a1 0 (show jIn 0 from ⟨by decide, by decide⟩) m _ _ _ S (L.sub (jsub_s (jsub_s (jsub_s jsub_0)))) hyp
theorem c_X0_copy {l : Launch} {D : va_G} {cy : Nat → ClassId} {B sz : Nat} {sh : jm_S} {res : jm_M} {N : Nat} {m : jm_M} {a0 : Nat} {a1 : Nat} (hyp : f_X0_copy N sh a0 a1 m = some res) : jCt l D cy B sz sh 0 yX0_copy cX0_copy 3 none [jR B a0, jR B a1] m none res True :=
  jc_of (by decide) (fun v h => by simp only [List.mem_cons, List.not_mem_nil, or_false] at h; rcases h with rfl | rfl <;> first | rfl | exact jR_cat _ _) (Nat.le_of_ble_eq_true rfl) (fun C S L => t_X0_copy_e C   S L hyp)
set_option maxHeartbeats 4000000 in
set_option maxRecDepth 100000 in
theorem t_J9_max_7cf53_e {p : Program} {l : Launch} {e : Env} {s : State} {mi : MethodId} {args : Array Value} {below : List Frame} {meth : Method} {c : Code} {D : va_G} {cy : Nat → ClassId} {B sz : Nat} {sh : jm_S} {res : Int} {m0 : jm_M} (C : jCx p s mi args meth c cJ9_max_7cf53 2 RJ9 (some .int) D cy) {x0 : Int} (h_x0 : jIn x0) {x1 : Int} (h_x1 : jIn x1) {H : Heap} {locs : List Loc} {ls : Array Slot} (S : jHs D cy B sz sh (jA B sz) s.heap H locs m0) (L : jL ls [some (jI x0), some (jI x1)]) (hyp : f_J9_max_7cf53 x0 x1 = some res) : W p l e (jrm 0 0 0) s mi args below meth c H locs 0 0 (MQ below (jQc D cy B sz sh m0 (some (jI res)) (jIn res)) args s 0 0 (jA B sz)) (F0 mi 0 ls []) := by
  unfold f_J9_max_7cf53 at hyp
  refine jr_iload_n (pc := 0) C L dJ9_max_7cf53_0 rfl rfl ?_
  refine jr_iload_n (pc := 1) C L dJ9_max_7cf53_1 rfl rfl ?_
  refine jr_icmp_lt (pc := 2) C h_x0 h_x1 (tgt := 9) dJ9_max_7cf53_2 (by decide) (fun c1 => ?_) (fun c1 => ?_)
  · have hyp := (if_pos c1).symm.trans hyp
    refine jr_iload_n (pc := 9) C L dJ9_max_7cf53_9 rfl rfl ?_
    cases hyp
    exact jr_iret C S h_x1 dJ9_max_7cf53_10
  · have hyp := (if_neg c1).symm.trans hyp
    refine jr_iload_n (pc := 5) C L dJ9_max_7cf53_5 rfl rfl ?_
    refine jr_goto (pc := 6) C (tgt := 10) dJ9_max_7cf53_6 (by decide) ?_
    cases hyp
    exact jr_iret C S h_x0 dJ9_max_7cf53_10
theorem c_J9_max_7cf53 {l : Launch} {D : va_G} {cy : Nat → ClassId} {B sz : Nat} {sh : jm_S} {res : Int} {m0 : jm_M} {x0 : Int} (h_x0 : jIn x0) {x1 : Int} (h_x1 : jIn x1) (hyp : f_J9_max_7cf53 x0 x1 = some res) : jCt l D cy B sz sh 0 yJ9_max_7cf53 cJ9_max_7cf53 2 (some .int) [jI x0, jI x1] m0 (some (jI res)) m0 (jIn res) :=
  jc_ofF (by decide +kernel) (fun v h => by simp only [List.mem_cons, List.not_mem_nil, or_false] at h; rcases h with rfl | rfl <;> first | rfl | exact jR_cat _ _) (Nat.le_of_ble_eq_true rfl) (fun C S L => t_J9_max_7cf53_e C  h_x0 h_x1 S L hyp)
set_option maxHeartbeats 4000000 in
set_option maxRecDepth 100000 in
theorem t_J9_min_7cf53_e {p : Program} {l : Launch} {e : Env} {s : State} {mi : MethodId} {args : Array Value} {below : List Frame} {meth : Method} {c : Code} {D : va_G} {cy : Nat → ClassId} {B sz : Nat} {sh : jm_S} {res : Int} {m0 : jm_M} (C : jCx p s mi args meth c cJ9_min_7cf53 2 RJ9 (some .int) D cy) {x0 : Int} (h_x0 : jIn x0) {x1 : Int} (h_x1 : jIn x1) {H : Heap} {locs : List Loc} {ls : Array Slot} (S : jHs D cy B sz sh (jA B sz) s.heap H locs m0) (L : jL ls [some (jI x0), some (jI x1)]) (hyp : f_J9_min_7cf53 x0 x1 = some res) : W p l e (jrm 0 0 0) s mi args below meth c H locs 0 0 (MQ below (jQc D cy B sz sh m0 (some (jI res)) (jIn res)) args s 0 0 (jA B sz)) (F0 mi 0 ls []) := by
  unfold f_J9_min_7cf53 at hyp
  refine jr_iload_n (pc := 0) C L dJ9_min_7cf53_0 rfl rfl ?_
  refine jr_iload_n (pc := 1) C L dJ9_min_7cf53_1 rfl rfl ?_
  refine jr_icmp_gt (pc := 2) C h_x0 h_x1 (tgt := 9) dJ9_min_7cf53_2 (by decide) (fun c1 => ?_) (fun c1 => ?_)
  · have hyp := (if_pos c1).symm.trans hyp
    refine jr_iload_n (pc := 9) C L dJ9_min_7cf53_9 rfl rfl ?_
    cases hyp
    exact jr_iret C S h_x1 dJ9_min_7cf53_10
  · have hyp := (if_neg c1).symm.trans hyp
    refine jr_iload_n (pc := 5) C L dJ9_min_7cf53_5 rfl rfl ?_
    refine jr_goto (pc := 6) C (tgt := 10) dJ9_min_7cf53_6 (by decide) ?_
    cases hyp
    exact jr_iret C S h_x0 dJ9_min_7cf53_10
theorem c_J9_min_7cf53 {l : Launch} {D : va_G} {cy : Nat → ClassId} {B sz : Nat} {sh : jm_S} {res : Int} {m0 : jm_M} {x0 : Int} (h_x0 : jIn x0) {x1 : Int} (h_x1 : jIn x1) (hyp : f_J9_min_7cf53 x0 x1 = some res) : jCt l D cy B sz sh 0 yJ9_min_7cf53 cJ9_min_7cf53 2 (some .int) [jI x0, jI x1] m0 (some (jI res)) m0 (jIn res) :=
  jc_ofF (by decide +kernel) (fun v h => by simp only [List.mem_cons, List.not_mem_nil, or_false] at h; rcases h with rfl | rfl <;> first | rfl | exact jR_cat _ _) (Nat.le_of_ble_eq_true rfl) (fun C S L => t_J9_min_7cf53_e C  h_x0 h_x1 S L hyp)
set_option maxHeartbeats 4000000 in
set_option maxRecDepth 100000 in
theorem t_X0_join_b2 {p : Program} {l : Launch} {e : Env} {s : State} {mi : MethodId} {args : Array Value} {below : List Frame} {meth : Method} {c : Code} {D : va_G} {cy : Nat → ClassId} {B sz : Nat} {sh : jm_S} {res : jm_M} {N : Nat} {k2 : Nat → Nat → Int → jm_M → Option jm_M} (C : jCx p s mi args meth c cX0_join 3 RX0 none D cy) (K2 : ∀ (a0 : Nat) (a1 : Nat) (x2 : Int) , jIn x2 → ∀ (m : jm_M) (H : Heap) (locs : List Loc) (ls : Array Slot), jHs D cy B sz sh (jA B sz) s.heap H locs m → jL ls [some (jR B a0), some (jR B a1), some (jI x2)] → k2 a0 a1 x2 m = some res → W p l e (jrm 1 0 0) s mi args below meth c H locs 0 0 (MQ below (jQc D cy B sz sh res none True) args s 0 0 (jA B sz)) (F0 mi 2 ls [])) {a0 : Nat} {a1 : Nat} {x2 : Int} (h_x2 : jIn x2) {m : jm_M} {H : Heap} {locs : List Loc} {ls : Array Slot} (S : jHs D cy B sz sh (jA B sz) s.heap H locs m) (L : jL ls [some (jR B a0), some (jR B a1), some (jI x2)]) (hyp : f_X0_join_b2 N sh k2 a0 a1 x2 m = some res) : W p l e (jrm 1 0 0) s mi args below meth c H locs 0 0 (MQ below (jQc D cy B sz sh res none True) args s 0 0 (jA B sz)) (F0 mi 2 ls []) := by
  unfold f_X0_join_b2 at hyp
  refine jr_iload_n (pc := 2) C L dX0_join_2 rfl rfl ?_
  refine jr_bipush (pc := 3) C dX0_join_3 (by decide) ?_
  refine jr_icmp_ge (pc := 5) C h_x2 (show jIn 8 from ⟨by decide, by decide⟩) (tgt := 59) dX0_join_5 (by decide) (fun c1 => ?_) (fun c1 => ?_)
  · have hyp := (if_pos c1).symm.trans hyp
    refine jr_aload_n (pc := 8) C L dX0_join_8 rfl rfl ?_
    obtain ⟨v2, hv2, hyp⟩ := jbind hyp
    refine jr_getR (pc := 9) C S lf_X0_11 rfl hv2 dX0_join_9 ?_
    refine jr_iload_n (pc := 12) C L dX0_join_12 rfl rfl ?_
    refine jr_aload_n (pc := 13) C L dX0_join_13 rfl rfl ?_
    obtain ⟨v3, hv3, hyp⟩ := jbind hyp
    refine jr_getR (pc := 14) C S lf_X0_11 rfl hv3 dX0_join_14 ?_
    refine jr_iload_n (pc := 17) C L dX0_join_17 rfl rfl ?_
    obtain ⟨v4, hv4, hyp⟩ := jbind hyp
    have iv4 := jra_in S hv4
    refine jr_ial (pc := 18) C S h_x2 hv4 dX0_join_18 ?_
    refine jr_aload_n (pc := 19) C L dX0_join_19 rfl rfl ?_
    refine jr_iload_n (pc := 20) C L dX0_join_20 rfl rfl ?_
    obtain ⟨v5, hv5, hyp⟩ := jbind hyp
    have iv5 := jra_in S hv5
    refine jr_ial (pc := 21) C S h_x2 hv5 dX0_join_21 ?_
    obtain ⟨q6, hq6, hyp⟩ := jbind hyp
    refine jr_callS_I (pc := 22) C S L (As := [jI v4, jI v5]) (rest := [jI x2, jR B v2.toNat]) (c_J9_max_7cf53 (m0 := m) iv4 iv5 hq6) ms_J9_max_7cf53 ml_X0_96 (by decide) rfl rfl rfl (by simp [jR_cat, jI_cat]) ⟨Nat.le_refl 0, Nat.le_refl 0⟩ dX0_join_22 (fun p7 H locs S => ?_)
    obtain ⟨m8, hm8, hyp⟩ := jbind hyp
    refine jr_ias (pc := 25) C S h_x2 p7 hm8 dX0_join_25 (fun H locs S => ?_)
    refine jr_aload_n (pc := 26) C L dX0_join_26 rfl rfl ?_
    obtain ⟨v9, hv9, hyp⟩ := jbind hyp
    refine jr_getR (pc := 27) C S lf_X0_11 rfl hv9 dX0_join_27 ?_
    refine jr_bipush (pc := 30) C dX0_join_30 (by decide) ?_
    refine jr_iload_n (pc := 32) C L dX0_join_32 rfl rfl ?_
    refine jr_iadd (pc := 33) C dX0_join_33 ?_
    refine jr_aload_n (pc := 34) C L dX0_join_34 rfl rfl ?_
    obtain ⟨v10, hv10, hyp⟩ := jbind hyp
    refine jr_getR (pc := 35) C S lf_X0_11 rfl hv10 dX0_join_35 ?_
    refine jr_bipush (pc := 38) C dX0_join_38 (by decide) ?_
    refine jr_iload_n (pc := 40) C L dX0_join_40 rfl rfl ?_
    refine jr_iadd (pc := 41) C dX0_join_41 ?_
    obtain ⟨v11, hv11, hyp⟩ := jbind hyp
    have iv11 := jra_in S hv11
    refine jr_ial (pc := 42) C S (jIn_w _) hv11 dX0_join_42 ?_
    refine jr_aload_n (pc := 43) C L dX0_join_43 rfl rfl ?_
    refine jr_bipush (pc := 44) C dX0_join_44 (by decide) ?_
    refine jr_iload_n (pc := 46) C L dX0_join_46 rfl rfl ?_
    refine jr_iadd (pc := 47) C dX0_join_47 ?_
    obtain ⟨v12, hv12, hyp⟩ := jbind hyp
    have iv12 := jra_in S hv12
    refine jr_ial (pc := 48) C S (jIn_w _) hv12 dX0_join_48 ?_
    obtain ⟨q13, hq13, hyp⟩ := jbind hyp
    refine jr_callS_I (pc := 49) C S L (As := [jI v11, jI v12]) (rest := [jI (jw (8 + x2)), jR B v9.toNat]) (c_J9_min_7cf53 (m0 := m8) iv11 iv12 hq13) ms_J9_min_7cf53 ml_X0_101 (by decide) rfl rfl rfl (by simp [jR_cat, jI_cat]) ⟨Nat.le_refl 0, Nat.le_refl 0⟩ dX0_join_49 (fun p14 H locs S => ?_)
    obtain ⟨m15, hm15, hyp⟩ := jbind hyp
    refine jr_ias (pc := 52) C S (jIn_w _) p14 hm15 dX0_join_52 (fun H locs S => ?_)
    refine jr_iinc (pc := 53) C L dX0_join_53 rfl (Nat.le_of_ble_eq_true rfl) (fun ls L => ?_)
    have L : jL ls [some (jR B a0), some (jR B a1), some (jI (jw (x2 + 1)))] := L
    refine jr_goto (pc := 56) C (tgt := 2) dX0_join_56 (by decide) ?_
    exact K2 a0 a1 (jw (x2 + 1)) (jIn_w _) m15 _ _ _ S (L.sub (jsub_s (jsub_s (jsub_s jsub_0)))) hyp
  · have hyp := (if_neg c1).symm.trans hyp
    cases hyp
    exact jr_vret C S trivial dX0_join_59
theorem t_X0_join_l2 {p : Program} {l : Launch} {e : Env} {s : State} {mi : MethodId} {args : Array Value} {below : List Frame} {meth : Method} {c : Code} {D : va_G} {cy : Nat → ClassId} {B sz : Nat} {sh : jm_S} {res : jm_M} {N : Nat} (C : jCx p s mi args meth c cX0_join 3 RX0 none D cy) : ∀ (n : Nat) (a0 : Nat) (a1 : Nat) (x2 : Int), jIn x2 → ∀ (m : jm_M) (H : Heap) (locs : List Loc) (ls : Array Slot), jHs D cy B sz sh (jA B sz) s.heap H locs m → jL ls [some (jR B a0), some (jR B a1), some (jI x2)] → f_X0_join_l2 N sh n a0 a1 x2 m = some res → W p l e (jrm 1 0 0) s mi args below meth c H locs 0 0 (MQ below (jQc D cy B sz sh res none True) args s 0 0 (jA B sz)) (F0 mi 2 ls []) := by
  intro n
  induction n with
  | zero => intro a0 a1 x2 h_x2 m H locs ls S L hyp; cases hyp
  | succ n ih => intro a0 a1 x2 h_x2 m H locs ls S L hyp; exact t_X0_join_b2 (N := N) C  ih h_x2 S L hyp
set_option maxHeartbeats 4000000 in
set_option maxRecDepth 100000 in
theorem t_X0_join_e {p : Program} {l : Launch} {e : Env} {s : State} {mi : MethodId} {args : Array Value} {below : List Frame} {meth : Method} {c : Code} {D : va_G} {cy : Nat → ClassId} {B sz : Nat} {sh : jm_S} {res : jm_M} {N : Nat} (C : jCx p s mi args meth c cX0_join 3 RX0 none D cy) {a0 : Nat} {a1 : Nat} {m : jm_M} {H : Heap} {locs : List Loc} {ls : Array Slot} (S : jHs D cy B sz sh (jA B sz) s.heap H locs m) (L : jL ls [some (jR B a0), some (jR B a1), none]) (hyp : f_X0_join N sh a0 a1 m = some res) : W p l e (jrm 1 0 0) s mi args below meth c H locs 0 0 (MQ below (jQc D cy B sz sh res none True) args s 0 0 (jA B sz)) (F0 mi 0 ls []) := by
  unfold f_X0_join at hyp
  refine jr_iconst (pc := 0) C dX0_join_0 ?_
  refine jr_istore_n (pc := 1) C L dX0_join_1 rfl (Nat.le_of_ble_eq_true rfl) (fun ls L => ?_)
  have L : jL ls [some (jR B a0), some (jR B a1), some (jI 0)] := L
  exact t_X0_join_l2 C   N a0 a1 0 (show jIn 0 from ⟨by decide, by decide⟩) m _ _ _ S (L.sub (jsub_s (jsub_s (jsub_s jsub_0)))) hyp
theorem c_X0_join {l : Launch} {D : va_G} {cy : Nat → ClassId} {B sz : Nat} {sh : jm_S} {res : jm_M} {N : Nat} {m : jm_M} {a0 : Nat} {a1 : Nat} (hyp : f_X0_join N sh a0 a1 m = some res) : jCt l D cy B sz sh 1 yX0_join cX0_join 3 none [jR B a0, jR B a1] m none res True :=
  jc_of (by decide) (fun v h => by simp only [List.mem_cons, List.not_mem_nil, or_false] at h; rcases h with rfl | rfl <;> first | rfl | exact jR_cat _ _) (Nat.le_of_ble_eq_true rfl) (fun C S L => t_X0_join_e C   S L hyp)
set_option maxHeartbeats 4000000 in
set_option maxRecDepth 100000 in
theorem t_X0_isSame_b2 {p : Program} {l : Launch} {e : Env} {s : State} {mi : MethodId} {args : Array Value} {below : List Frame} {meth : Method} {c : Code} {D : va_G} {cy : Nat → ClassId} {B sz : Nat} {sh : jm_S} {res : Int} {N : Nat} {m0 : jm_M} {k2 : Nat → Nat → Int → Option Int} (C : jCx p s mi args meth c cX0_isSame 3 RX0 (some .boolean) D cy) (K2 : ∀ (a0 : Nat) (a1 : Nat) (x2 : Int) , jIn x2 → ∀ (H : Heap) (locs : List Loc) (ls : Array Slot), jHs D cy B sz sh (jA B sz) s.heap H locs m0 → jL ls [some (jR B a0), some (jR B a1), some (jI x2)] → k2 a0 a1 x2 = some res → W p l e (jrm 0 0 0) s mi args below meth c H locs 0 0 (MQ below (jQc D cy B sz sh m0 (some (jI res)) (jIn res)) args s 0 0 (jA B sz)) (F0 mi 2 ls [])) {a0 : Nat} {a1 : Nat} {x2 : Int} (h_x2 : jIn x2) {H : Heap} {locs : List Loc} {ls : Array Slot} (S : jHs D cy B sz sh (jA B sz) s.heap H locs m0) (L : jL ls [some (jR B a0), some (jR B a1), some (jI x2)]) (hyp : f_X0_isSame_b2 N sh k2 a0 a1 x2 m0 = some res) : W p l e (jrm 0 0 0) s mi args below meth c H locs 0 0 (MQ below (jQc D cy B sz sh m0 (some (jI res)) (jIn res)) args s 0 0 (jA B sz)) (F0 mi 2 ls []) := by
  unfold f_X0_isSame_b2 at hyp
  refine jr_iload_n (pc := 2) C L dX0_isSame_2 rfl rfl ?_
  refine jr_bipush (pc := 3) C dX0_isSame_3 (by decide) ?_
  refine jr_icmp_ge (pc := 5) C h_x2 (show jIn 16 from ⟨by decide, by decide⟩) (tgt := 25) dX0_isSame_5 (by decide) (fun c1 => ?_) (fun c1 => ?_)
  · have hyp := (if_pos c1).symm.trans hyp
    refine jr_aload_n (pc := 8) C L dX0_isSame_8 rfl rfl ?_
    refine jr_iload_n (pc := 9) C L dX0_isSame_9 rfl rfl ?_
    obtain ⟨v2, hv2, hyp⟩ := jbind hyp
    have iv2 := jra_in S hv2
    refine jr_ial (pc := 10) C S h_x2 hv2 dX0_isSame_10 ?_
    refine jr_aload_n (pc := 11) C L dX0_isSame_11 rfl rfl ?_
    refine jr_iload_n (pc := 12) C L dX0_isSame_12 rfl rfl ?_
    obtain ⟨v3, hv3, hyp⟩ := jbind hyp
    have iv3 := jra_in S hv3
    refine jr_ial (pc := 13) C S h_x2 hv3 dX0_isSame_13 ?_
    refine jr_icmp_eq (pc := 14) C iv2 iv3 (tgt := 19) dX0_isSame_14 (by decide) (fun c4 => ?_) (fun c4 => ?_)
    · have hyp := (if_pos c4).symm.trans hyp
      refine jr_iinc (pc := 19) C L dX0_isSame_19 rfl (Nat.le_of_ble_eq_true rfl) (fun ls L => ?_)
      have L : jL ls [some (jR B a0), some (jR B a1), some (jI (jw (x2 + 1)))] := L
      refine jr_goto (pc := 22) C (tgt := 2) dX0_isSame_22 (by decide) ?_
      exact K2 a0 a1 (jw (x2 + 1)) (jIn_w _)  _ _ _ S (L.sub (jsub_s (jsub_s (jsub_s jsub_0)))) hyp
    · have hyp := (if_neg c4).symm.trans hyp
      refine jr_iconst (pc := 17) C dX0_isSame_17 ?_
      cases hyp
      exact jr_zret C S (show jIn 0 from ⟨by decide, by decide⟩) rfl dX0_isSame_18
  · have hyp := (if_neg c1).symm.trans hyp
    refine jr_iconst (pc := 25) C dX0_isSame_25 ?_
    cases hyp
    exact jr_zret C S (show jIn 1 from ⟨by decide, by decide⟩) rfl dX0_isSame_26
theorem t_X0_isSame_l2 {p : Program} {l : Launch} {e : Env} {s : State} {mi : MethodId} {args : Array Value} {below : List Frame} {meth : Method} {c : Code} {D : va_G} {cy : Nat → ClassId} {B sz : Nat} {sh : jm_S} {res : Int} {N : Nat} {m0 : jm_M} (C : jCx p s mi args meth c cX0_isSame 3 RX0 (some .boolean) D cy) : ∀ (n : Nat) (a0 : Nat) (a1 : Nat) (x2 : Int), jIn x2 → ∀ (H : Heap) (locs : List Loc) (ls : Array Slot), jHs D cy B sz sh (jA B sz) s.heap H locs m0 → jL ls [some (jR B a0), some (jR B a1), some (jI x2)] → f_X0_isSame_l2 N sh n a0 a1 x2 m0 = some res → W p l e (jrm 0 0 0) s mi args below meth c H locs 0 0 (MQ below (jQc D cy B sz sh m0 (some (jI res)) (jIn res)) args s 0 0 (jA B sz)) (F0 mi 2 ls []) := by
  intro n
  induction n with
  | zero => intro a0 a1 x2 h_x2 H locs ls S L hyp; cases hyp
  | succ n ih => intro a0 a1 x2 h_x2 H locs ls S L hyp; exact t_X0_isSame_b2 (N := N) C  ih h_x2 S L hyp
set_option maxHeartbeats 4000000 in
set_option maxRecDepth 100000 in
theorem t_X0_isSame_e {p : Program} {l : Launch} {e : Env} {s : State} {mi : MethodId} {args : Array Value} {below : List Frame} {meth : Method} {c : Code} {D : va_G} {cy : Nat → ClassId} {B sz : Nat} {sh : jm_S} {res : Int} {N : Nat} {m0 : jm_M} (C : jCx p s mi args meth c cX0_isSame 3 RX0 (some .boolean) D cy) {a0 : Nat} {a1 : Nat} {H : Heap} {locs : List Loc} {ls : Array Slot} (S : jHs D cy B sz sh (jA B sz) s.heap H locs m0) (L : jL ls [some (jR B a0), some (jR B a1), none]) (hyp : f_X0_isSame N sh a0 a1 m0 = some res) : W p l e (jrm 0 0 0) s mi args below meth c H locs 0 0 (MQ below (jQc D cy B sz sh m0 (some (jI res)) (jIn res)) args s 0 0 (jA B sz)) (F0 mi 0 ls []) := by
  unfold f_X0_isSame at hyp
  refine jr_iconst (pc := 0) C dX0_isSame_0 ?_
  refine jr_istore_n (pc := 1) C L dX0_isSame_1 rfl (Nat.le_of_ble_eq_true rfl) (fun ls L => ?_)
  have L : jL ls [some (jR B a0), some (jR B a1), some (jI 0)] := L
  exact t_X0_isSame_l2 C   N a0 a1 0 (show jIn 0 from ⟨by decide, by decide⟩)  _ _ _ S (L.sub (jsub_s (jsub_s (jsub_s jsub_0)))) hyp
theorem c_X0_isSame {l : Launch} {D : va_G} {cy : Nat → ClassId} {B sz : Nat} {sh : jm_S} {res : Int} {N : Nat} {m0 : jm_M} {a0 : Nat} {a1 : Nat} (hyp : f_X0_isSame N sh a0 a1 m0 = some res) : jCt l D cy B sz sh 0 yX0_isSame cX0_isSame 3 (some .boolean) [jR B a0, jR B a1] m0 (some (jI res)) m0 (jIn res) :=
  jc_of (by decide) (fun v h => by simp only [List.mem_cons, List.not_mem_nil, or_false] at h; rcases h with rfl | rfl <;> first | rfl | exact jR_cat _ _) (Nat.le_of_ble_eq_true rfl) (fun C S L => t_X0_isSame_e C   S L hyp)
set_option maxHeartbeats 4000000 in
set_option maxRecDepth 100000 in
theorem t_X0_passLoop_b68 {p : Program} {l : Launch} {e : Env} {s : State} {mi : MethodId} {args : Array Value} {below : List Frame} {meth : Method} {c : Code} {D : va_G} {cy : Nat → ClassId} {B sz : Nat} {sh : jm_S} {res : jm_M} {N : Nat} {rec : Nat → Int → Int → jm_M → Option jm_M} {kr : Nat} {k5 : Nat → Int → Int → Int → Int → jm_M → Option jm_M} (C : jCx p s mi args meth c cX0_passLoop 5 RX0 none D cy) (hkr : 3 ≤ kr) (hrec : ∀ (a0 : Nat) (x1 : Int) (x2 : Int), jIn x1 → jIn x2 → ∀ (m : jm_M) (res : jm_M), rec a0 x1 x2 m = some res → jCt l D cy B sz sh kr yX0_pass cX0_pass 5 none [jR B a0, jI x1, jI x2] m none res True) (K5 : ∀ (a0 : Nat) (x1 : Int) (x2 : Int) (x3 : Int) (x4 : Int) , jIn x1 → jIn x2 → jIn x3 → jIn x4 → ∀ (m : jm_M) (H : Heap) (locs : List Loc) (ls : Array Slot), jHs D cy B sz sh (jA B sz) s.heap H locs m → jL ls [some (jR B a0), some (jI x1), some (jI x2), some (jI x3), some (jI x4)] → k5 a0 x1 x2 x3 x4 m = some res → W p l e (jrm (kr + 1) 0 0) s mi args below meth c H locs 0 0 (MQ below (jQc D cy B sz sh res none True) args s 0 0 (jA B sz)) (F0 mi 5 ls [])) {a0 : Nat} {x1 : Int} (h_x1 : jIn x1) {x2 : Int} (h_x2 : jIn x2) {x4 : Int} (h_x4 : jIn x4) {s0 : Int} (h_s0 : jIn s0) {m : jm_M} {H : Heap} {locs : List Loc} {ls : Array Slot} (S : jHs D cy B sz sh (jA B sz) s.heap H locs m) (L : jL ls [some (jR B a0), some (jI x1), some (jI x2), none, some (jI x4)]) (hyp : f_X0_passLoop_b68 N sh rec k5 a0 x1 x2 x4 s0 m = some res) : W p l e (jrm (kr + 1) 0 0) s mi args below meth c H locs 0 0 (MQ below (jQc D cy B sz sh res none True) args s 0 0 (jA B sz)) (F0 mi 68 ls [jI s0]) := by
  unfold f_X0_passLoop_b68 at hyp
  refine jr_istore_n (pc := 68) C L dX0_passLoop_68 rfl (Nat.le_of_ble_eq_true rfl) (fun ls L => ?_)
  have L : jL ls [some (jR B a0), some (jI x1), some (jI x2), some (jI s0), some (jI x4)] := L
  refine jr_iinc (pc := 69) C L dX0_passLoop_69 rfl (Nat.le_of_ble_eq_true rfl) (fun ls L => ?_)
  have L : jL ls [some (jR B a0), some (jI x1), some (jI x2), some (jI s0), some (jI (jw (x4 + 1)))] := L
  refine jr_goto (pc := 72) C (tgt := 5) dX0_passLoop_72 (by decide) ?_
  exact K5 a0 x1 x2 s0 (jw (x4 + 1)) h_x1 h_x2 h_s0 (jIn_w _) m _ _ _ S (L.sub (jsub_s (jsub_s (jsub_s (jsub_s (jsub_s jsub_0)))))) hyp
set_option maxHeartbeats 4000000 in
set_option maxRecDepth 100000 in
theorem t_X0_passLoop_b5 {p : Program} {l : Launch} {e : Env} {s : State} {mi : MethodId} {args : Array Value} {below : List Frame} {meth : Method} {c : Code} {D : va_G} {cy : Nat → ClassId} {B sz : Nat} {sh : jm_S} {res : jm_M} {N : Nat} {rec : Nat → Int → Int → jm_M → Option jm_M} {kr : Nat} {k5 : Nat → Int → Int → Int → Int → jm_M → Option jm_M} (C : jCx p s mi args meth c cX0_passLoop 5 RX0 none D cy) (hkr : 3 ≤ kr) (hrec : ∀ (a0 : Nat) (x1 : Int) (x2 : Int), jIn x1 → jIn x2 → ∀ (m : jm_M) (res : jm_M), rec a0 x1 x2 m = some res → jCt l D cy B sz sh kr yX0_pass cX0_pass 5 none [jR B a0, jI x1, jI x2] m none res True) (K5 : ∀ (a0 : Nat) (x1 : Int) (x2 : Int) (x3 : Int) (x4 : Int) , jIn x1 → jIn x2 → jIn x3 → jIn x4 → ∀ (m : jm_M) (H : Heap) (locs : List Loc) (ls : Array Slot), jHs D cy B sz sh (jA B sz) s.heap H locs m → jL ls [some (jR B a0), some (jI x1), some (jI x2), some (jI x3), some (jI x4)] → k5 a0 x1 x2 x3 x4 m = some res → W p l e (jrm (kr + 1) 0 0) s mi args below meth c H locs 0 0 (MQ below (jQc D cy B sz sh res none True) args s 0 0 (jA B sz)) (F0 mi 5 ls [])) {a0 : Nat} {x1 : Int} (h_x1 : jIn x1) {x2 : Int} (h_x2 : jIn x2) {x3 : Int} (h_x3 : jIn x3) {x4 : Int} (h_x4 : jIn x4) {m : jm_M} {H : Heap} {locs : List Loc} {ls : Array Slot} (S : jHs D cy B sz sh (jA B sz) s.heap H locs m) (L : jL ls [some (jR B a0), some (jI x1), some (jI x2), some (jI x3), some (jI x4)]) (hyp : f_X0_passLoop_b5 N sh rec k5 a0 x1 x2 x3 x4 m = some res) : W p l e (jrm (kr + 1) 0 0) s mi args below meth c H locs 0 0 (MQ below (jQc D cy B sz sh res none True) args s 0 0 (jA B sz)) (F0 mi 5 ls []) := by
  unfold f_X0_passLoop_b5 at hyp
  refine jr_iload (pc := 5) C L dX0_passLoop_5 rfl ?_
  refine jr_bipush (pc := 7) C dX0_passLoop_7 (by decide) ?_
  refine jr_icmp_ge (pc := 9) C h_x4 (show jIn 64 from ⟨by decide, by decide⟩) (tgt := 75) dX0_passLoop_9 (by decide) (fun c1 => ?_) (fun c1 => ?_)
  · have hyp := (if_pos c1).symm.trans hyp
    refine jr_iload_n (pc := 12) C L dX0_passLoop_12 rfl rfl ?_
    refine jr_if_eq (pc := 13) C h_x3 (tgt := 75) dX0_passLoop_13 (by decide) (fun c2 => ?_) (fun c2 => ?_)
    · have hyp := (if_pos c2).symm.trans hyp
      cases hyp
      exact jr_vret C S trivial dX0_passLoop_75
    · have hyp := (if_neg c2).symm.trans hyp
      refine jr_aload_n (pc := 16) C L dX0_passLoop_16 rfl rfl ?_
      obtain ⟨v3, hv3, hyp⟩ := jbind hyp
      refine jr_getR (pc := 17) C S lf_X0_11 rfl hv3 dX0_passLoop_17 ?_
      refine jr_aload_n (pc := 20) C L dX0_passLoop_20 rfl rfl ?_
      obtain ⟨v4, hv4, hyp⟩ := jbind hyp
      refine jr_getR (pc := 21) C S lf_X0_20 rfl hv4 dX0_passLoop_21 ?_
      refine jr_iload_n (pc := 24) C L dX0_passLoop_24 rfl rfl ?_
      obtain ⟨v5, hv5, hyp⟩ := jbind hyp
      refine jr_aal (pc := 25) C S (by decide) h_x2 hv5 dX0_passLoop_25 ?_
      obtain ⟨q6, hq6, hyp⟩ := jbind hyp
      refine jr_callS_N (pc := 26) C S L (As := [jR B v3.toNat, jR B v5.toNat]) (rest := []) (c_X0_copy  hq6) ms_X0_copy ml_X0_67 (by omega) rfl rfl rfl (Nat.le_of_ble_eq_true rfl) ⟨Nat.le_refl 0, Nat.le_refl 0⟩ dX0_passLoop_26 (fun p7 H locs S => ?_)
      refine jr_aload_n (pc := 29) C L dX0_passLoop_29 rfl rfl ?_
      refine jr_iload_n (pc := 30) C L dX0_passLoop_30 rfl rfl ?_
      refine jr_iload_n (pc := 31) C L dX0_passLoop_31 rfl rfl ?_
      refine jr_iconst (pc := 32) C dX0_passLoop_32 ?_
      refine jr_iadd (pc := 33) C dX0_passLoop_33 ?_
      obtain ⟨u8, hu8, hyp⟩ := jbind hyp
      obtain ⟨q9, hq9, hyp⟩ := jbind hyp
      refine jr_callV_N (pc := 34) C S L (As := [jI x1, jI (jw (x2 + 1))]) (rest := []) (hrec a0 x1 (jw (x2 + 1)) h_x1 (jIn_w _) q6 q9 hq9) mv_X0_pass ml_X0_48 rfl (jck_spec hu8) (by omega) rfl rfl rfl (Nat.le_of_ble_eq_true rfl) ⟨Nat.le_refl 0, Nat.le_refl 0⟩ dX0_passLoop_34 (fun p10 H locs S => ?_)
      refine jr_aload_n (pc := 37) C L dX0_passLoop_37 rfl rfl ?_
      refine jr_aload_n (pc := 38) C L dX0_passLoop_38 rfl rfl ?_
      obtain ⟨v11, hv11, hyp⟩ := jbind hyp
      refine jr_getR (pc := 39) C S lf_X0_20 rfl hv11 dX0_passLoop_39 ?_
      refine jr_iload_n (pc := 42) C L dX0_passLoop_42 rfl rfl ?_
      obtain ⟨v12, hv12, hyp⟩ := jbind hyp
      refine jr_aal (pc := 43) C S (by decide) h_x2 hv12 dX0_passLoop_43 ?_
      obtain ⟨u13, hu13, hyp⟩ := jbind hyp
      obtain ⟨q14, hq14, hyp⟩ := jbind hyp
      refine jr_callV_N (pc := 44) C S L (As := [jR B v12.toNat]) (rest := []) (c_X0_join  hq14) mv_X0_join ml_X0_71 rfl (jck_spec hu13) (by omega) rfl rfl rfl (Nat.le_of_ble_eq_true rfl) ⟨Nat.le_refl 0, Nat.le_refl 0⟩ dX0_passLoop_44 (fun p15 H locs S => ?_)
      refine jr_aload_n (pc := 47) C L dX0_passLoop_47 rfl rfl ?_
      obtain ⟨v16, hv16, hyp⟩ := jbind hyp
      refine jr_getR (pc := 48) C S lf_X0_11 rfl hv16 dX0_passLoop_48 ?_
      refine jr_aload_n (pc := 51) C L dX0_passLoop_51 rfl rfl ?_
      obtain ⟨v17, hv17, hyp⟩ := jbind hyp
      refine jr_getR (pc := 52) C S lf_X0_20 rfl hv17 dX0_passLoop_52 ?_
      refine jr_iload_n (pc := 55) C L dX0_passLoop_55 rfl rfl ?_
      obtain ⟨v18, hv18, hyp⟩ := jbind hyp
      refine jr_aal (pc := 56) C S (by decide) h_x2 hv18 dX0_passLoop_56 ?_
      obtain ⟨q19, hq19, hyp⟩ := jbind hyp
      refine jr_callS_I (pc := 57) C S L (As := [jR B v16.toNat, jR B v18.toNat]) (rest := []) (c_X0_isSame (m0 := q14)  hq19) ms_X0_isSame ml_X0_85 (by omega) rfl rfl rfl (Nat.le_of_ble_eq_true rfl) ⟨Nat.le_refl 0, Nat.le_refl 0⟩ dX0_passLoop_57 (fun p20 H locs S => ?_)
      refine jr_if_ne (pc := 60) C p20 (tgt := 67) dX0_passLoop_60 (by decide) (fun c21 => ?_) (fun c21 => ?_)
      · have hyp := (if_pos c21).symm.trans hyp
        refine jr_iconst (pc := 63) C dX0_passLoop_63 ?_
        refine jr_goto (pc := 64) C (tgt := 68) dX0_passLoop_64 (by decide) ?_
        exact t_X0_passLoop_b68 C hkr hrec K5 h_x1 h_x2 h_x4 (show jIn 1 from ⟨by decide, by decide⟩) S (L.sub (jsub_s (jsub_s (jsub_s (jsub_n (jsub_s jsub_0)))))) hyp
      · have hyp := (if_neg c21).symm.trans hyp
        refine jr_iconst (pc := 67) C dX0_passLoop_67 ?_
        exact t_X0_passLoop_b68 C hkr hrec K5 h_x1 h_x2 h_x4 (show jIn 0 from ⟨by decide, by decide⟩) S (L.sub (jsub_s (jsub_s (jsub_s (jsub_n (jsub_s jsub_0)))))) hyp
  · have hyp := (if_neg c1).symm.trans hyp
    cases hyp
    exact jr_vret C S trivial dX0_passLoop_75
theorem t_X0_passLoop_l5 {p : Program} {l : Launch} {e : Env} {s : State} {mi : MethodId} {args : Array Value} {below : List Frame} {meth : Method} {c : Code} {D : va_G} {cy : Nat → ClassId} {B sz : Nat} {sh : jm_S} {res : jm_M} {N : Nat} {rec : Nat → Int → Int → jm_M → Option jm_M} {kr : Nat} (C : jCx p s mi args meth c cX0_passLoop 5 RX0 none D cy) (hkr : 3 ≤ kr) (hrec : ∀ (a0 : Nat) (x1 : Int) (x2 : Int), jIn x1 → jIn x2 → ∀ (m : jm_M) (res : jm_M), rec a0 x1 x2 m = some res → jCt l D cy B sz sh kr yX0_pass cX0_pass 5 none [jR B a0, jI x1, jI x2] m none res True) : ∀ (n : Nat) (a0 : Nat) (x1 : Int) (x2 : Int) (x3 : Int) (x4 : Int), jIn x1 → jIn x2 → jIn x3 → jIn x4 → ∀ (m : jm_M) (H : Heap) (locs : List Loc) (ls : Array Slot), jHs D cy B sz sh (jA B sz) s.heap H locs m → jL ls [some (jR B a0), some (jI x1), some (jI x2), some (jI x3), some (jI x4)] → f_X0_passLoop_l5 N sh rec n a0 x1 x2 x3 x4 m = some res → W p l e (jrm (kr + 1) 0 0) s mi args below meth c H locs 0 0 (MQ below (jQc D cy B sz sh res none True) args s 0 0 (jA B sz)) (F0 mi 5 ls []) := by
  intro n
  induction n with
  | zero => intro a0 x1 x2 x3 x4 h_x1 h_x2 h_x3 h_x4 m H locs ls S L hyp; cases hyp
  | succ n ih => intro a0 x1 x2 x3 x4 h_x1 h_x2 h_x3 h_x4 m H locs ls S L hyp; exact t_X0_passLoop_b5 (N := N) C hkr hrec ih h_x1 h_x2 h_x3 h_x4 S L hyp
set_option maxHeartbeats 4000000 in
set_option maxRecDepth 100000 in
theorem t_X0_passLoop_e {p : Program} {l : Launch} {e : Env} {s : State} {mi : MethodId} {args : Array Value} {below : List Frame} {meth : Method} {c : Code} {D : va_G} {cy : Nat → ClassId} {B sz : Nat} {sh : jm_S} {res : jm_M} {N : Nat} {rec : Nat → Int → Int → jm_M → Option jm_M} {kr : Nat} (C : jCx p s mi args meth c cX0_passLoop 5 RX0 none D cy) (hkr : 3 ≤ kr) (hrec : ∀ (a0 : Nat) (x1 : Int) (x2 : Int), jIn x1 → jIn x2 → ∀ (m : jm_M) (res : jm_M), rec a0 x1 x2 m = some res → jCt l D cy B sz sh kr yX0_pass cX0_pass 5 none [jR B a0, jI x1, jI x2] m none res True) {a0 : Nat} {x1 : Int} (h_x1 : jIn x1) {x2 : Int} (h_x2 : jIn x2) {m : jm_M} {H : Heap} {locs : List Loc} {ls : Array Slot} (S : jHs D cy B sz sh (jA B sz) s.heap H locs m) (L : jL ls [some (jR B a0), some (jI x1), some (jI x2), none, none]) (hyp : f_X0_passLoop N sh rec a0 x1 x2 m = some res) : W p l e (jrm (kr + 1) 0 0) s mi args below meth c H locs 0 0 (MQ below (jQc D cy B sz sh res none True) args s 0 0 (jA B sz)) (F0 mi 0 ls []) := by
  unfold f_X0_passLoop at hyp
  refine jr_iconst (pc := 0) C dX0_passLoop_0 ?_
  refine jr_istore_n (pc := 1) C L dX0_passLoop_1 rfl (Nat.le_of_ble_eq_true rfl) (fun ls L => ?_)
  have L : jL ls [some (jR B a0), some (jI x1), some (jI x2), some (jI 1), none] := L
  refine jr_iconst (pc := 2) C dX0_passLoop_2 ?_
  refine jr_istore (pc := 3) C L dX0_passLoop_3 (Nat.le_of_ble_eq_true rfl) (fun ls L => ?_)
  have L : jL ls [some (jR B a0), some (jI x1), some (jI x2), some (jI 1), some (jI 0)] := L
  exact t_X0_passLoop_l5 C hkr hrec  N a0 x1 x2 1 0 h_x1 h_x2 (show jIn 1 from ⟨by decide, by decide⟩) (show jIn 0 from ⟨by decide, by decide⟩) m _ _ _ S (L.sub (jsub_s (jsub_s (jsub_s (jsub_s (jsub_s jsub_0)))))) hyp
theorem c_X0_passLoop {l : Launch} {D : va_G} {cy : Nat → ClassId} {B sz : Nat} {sh : jm_S} {res : jm_M} {N : Nat} {rec : Nat → Int → Int → jm_M → Option jm_M} {kr : Nat} {m : jm_M} (hkr : 3 ≤ kr) (hrec : ∀ (a0 : Nat) (x1 : Int) (x2 : Int), jIn x1 → jIn x2 → ∀ (m : jm_M) (res : jm_M), rec a0 x1 x2 m = some res → jCt l D cy B sz sh kr yX0_pass cX0_pass 5 none [jR B a0, jI x1, jI x2] m none res True) {a0 : Nat} {x1 : Int} (h_x1 : jIn x1) {x2 : Int} (h_x2 : jIn x2) (hyp : f_X0_passLoop N sh rec a0 x1 x2 m = some res) : jCt l D cy B sz sh (kr + 1) yX0_passLoop cX0_passLoop 5 none [jR B a0, jI x1, jI x2] m none res True :=
  jc_of (by decide) (fun v h => by simp only [List.mem_cons, List.not_mem_nil, or_false] at h; rcases h with rfl | rfl | rfl <;> first | rfl | exact jR_cat _ _) (Nat.le_of_ble_eq_true rfl) (fun C S L => t_X0_passLoop_e C hkr hrec h_x1 h_x2 S L hyp)
set_option maxHeartbeats 4000000 in
set_option maxRecDepth 100000 in
theorem t_X10_lineAt_e {p : Program} {l : Launch} {e : Env} {s : State} {mi : MethodId} {args : Array Value} {below : List Frame} {meth : Method} {c : Code} {D : va_G} {cy : Nat → ClassId} {B sz : Nat} {sh : jm_S} {res : Int} {m0 : jm_M} (C : jCx p s mi args meth c cX10_lineAt 2 RX10 (some .int) D cy) {a0 : Nat} {x1 : Int} (h_x1 : jIn x1) {H : Heap} {locs : List Loc} {ls : Array Slot} (S : jHs D cy B sz sh (jA B sz) s.heap H locs m0) (L : jL ls [some (jR B a0), some (jI x1)]) (hyp : f_X10_lineAt sh a0 x1 m0 = some res) : W p l e (jrm 1 0 0) s mi args below meth c H locs 0 0 (MQ below (jQc D cy B sz sh m0 (some (jI res)) (jIn res)) args s 0 0 (jA B sz)) (F0 mi 0 ls []) := by
  unfold f_X10_lineAt at hyp
  refine jr_aload_n (pc := 0) C L dX10_lineAt_0 rfl rfl ?_
  refine jr_iload_n (pc := 1) C L dX10_lineAt_1 rfl rfl ?_
  obtain ⟨u1, hu1, hyp⟩ := jbind hyp
  obtain ⟨q2, hq2, hyp⟩ := jbind hyp
  refine jr_callV_I (pc := 2) C S L (As := [jI x1]) (rest := []) (c_X10_signAt (m0 := m0) h_x1 hq2) mv_X10_signAt ml_X10_48 rfl (jck_spec hu1) (by decide) rfl rfl rfl (Nat.le_of_ble_eq_true rfl) ⟨Nat.le_refl 0, Nat.le_refl 0⟩ dX10_lineAt_2 (fun p3 H locs S => ?_)
  refine jr_bipush (pc := 5) C dX10_lineAt_5 (by decide) ?_
  refine jr_iand (pc := 7) C dX10_lineAt_7 ?_
  cases hyp
  exact jr_iret C S (jIn_and _ _) dX10_lineAt_8
theorem c_X10_lineAt {l : Launch} {D : va_G} {cy : Nat → ClassId} {B sz : Nat} {sh : jm_S} {res : Int} {m0 : jm_M} {a0 : Nat} {x1 : Int} (h_x1 : jIn x1) (hyp : f_X10_lineAt sh a0 x1 m0 = some res) : jCt l D cy B sz sh 1 yX10_lineAt cX10_lineAt 2 (some .int) [jR B a0, jI x1] m0 (some (jI res)) m0 (jIn res) :=
  jc_of (by decide) (fun v h => by simp only [List.mem_cons, List.not_mem_nil, or_false] at h; rcases h with rfl | rfl <;> first | rfl | exact jR_cat _ _) (Nat.le_of_ble_eq_true rfl) (fun C S L => t_X10_lineAt_e C  h_x1 S L hyp)
set_option maxHeartbeats 4000000 in
set_option maxRecDepth 100000 in
theorem t_X1_freeMates_e {p : Program} {l : Launch} {e : Env} {s : State} {mi : MethodId} {args : Array Value} {below : List Frame} {meth : Method} {c : Code} {D : va_G} {cy : Nat → ClassId} {B sz : Nat} {sh : jm_S} {res : Int} {m0 : jm_M} (C : jCx p s mi args meth c cX1_freeMates 3 RX1 (some .int) D cy) {a0 : Nat} {x1 : Int} (h_x1 : jIn x1) {H : Heap} {locs : List Loc} {ls : Array Slot} (S : jHs D cy B sz sh (jA B sz) s.heap H locs m0) (L : jL ls [some (jR B a0), some (jI x1), none]) (hyp : f_X1_freeMates sh a0 x1 m0 = some res) : W p l e (jrm 1 0 0) s mi args below meth c H locs 0 0 (MQ below (jQc D cy B sz sh m0 (some (jI res)) (jIn res)) args s 0 0 (jA B sz)) (F0 mi 0 ls []) := by
  unfold f_X1_freeMates at hyp
  refine jr_aload_n (pc := 0) C L dX1_freeMates_0 rfl rfl ?_
  obtain ⟨v1, hv1, hyp⟩ := jbind hyp
  refine jr_getR (pc := 1) C S lf_X1_9 rfl hv1 dX1_freeMates_1 ?_
  refine jr_iconst (pc := 4) C dX1_freeMates_4 ?_
  obtain ⟨v2, hv2, hyp⟩ := jbind hyp
  have iv2 := jra_in S hv2
  refine jr_ial (pc := 5) C S (show jIn 0 from ⟨by decide, by decide⟩) hv2 dX1_freeMates_5 ?_
  refine jr_istore_n (pc := 6) C L dX1_freeMates_6 rfl (Nat.le_of_ble_eq_true rfl) (fun ls L => ?_)
  have L : jL ls [some (jR B a0), some (jI x1), some (jI v2)] := L
  refine jr_iload_n (pc := 7) C L dX1_freeMates_7 rfl rfl ?_
  refine jr_iload_n (pc := 8) C L dX1_freeMates_8 rfl rfl ?_
  obtain ⟨q3, hq3, hyp⟩ := jbind hyp
  refine jr_callSN_I (pc := 9) C S L (As := [jI x1, jI v2]) (rest := []) (c_X11_setOf (m0 := m0) h_x1 iv2 hq3) ms_X11_setOf mn_X1_44 (by decide) rfl rfl rfl (Nat.le_of_ble_eq_true rfl) ⟨Nat.le_refl 0, Nat.le_refl 0⟩ dX1_freeMates_9 (fun p4 H locs S => ?_)
  refine jr_iload_n (pc := 12) C L dX1_freeMates_12 rfl rfl ?_
  obtain ⟨q5, hq5, hyp⟩ := jbind hyp
  refine jr_callSN_I (pc := 13) C S L (As := [jI q3, jI v2]) (rest := []) (c_X11_linesOfSet (m0 := m0) p4 iv2 hq5) ms_X11_linesOfSet mn_X1_48 (by decide) rfl rfl rfl (Nat.le_of_ble_eq_true rfl) ⟨Nat.le_refl 0, Nat.le_refl 0⟩ dX1_freeMates_13 (fun p6 H locs S => ?_)
  refine jr_aload_n (pc := 16) C L dX1_freeMates_16 rfl rfl ?_
  obtain ⟨v7, hv7, hyp⟩ := jbind hyp
  refine jr_getR (pc := 17) C S lf_X1_9 rfl hv7 dX1_freeMates_17 ?_
  refine jr_iconst (pc := 20) C dX1_freeMates_20 ?_
  obtain ⟨v8, hv8, hyp⟩ := jbind hyp
  have iv8 := jra_in S hv8
  refine jr_ial (pc := 21) C S (show jIn 3 from ⟨by decide, by decide⟩) hv8 dX1_freeMates_21 ?_
  refine jr_iconst (pc := 22) C dX1_freeMates_22 ?_
  refine jr_ixor (pc := 23) C dX1_freeMates_23 ?_
  refine jr_iand (pc := 24) C dX1_freeMates_24 ?_
  cases hyp
  exact jr_iret C S (jIn_and _ _) dX1_freeMates_25
theorem c_X1_freeMates {l : Launch} {D : va_G} {cy : Nat → ClassId} {B sz : Nat} {sh : jm_S} {res : Int} {m0 : jm_M} {a0 : Nat} {x1 : Int} (h_x1 : jIn x1) (hyp : f_X1_freeMates sh a0 x1 m0 = some res) : jCt l D cy B sz sh 1 yX1_freeMates cX1_freeMates 3 (some .int) [jR B a0, jI x1] m0 (some (jI res)) m0 (jIn res) :=
  jc_of (by decide) (fun v h => by simp only [List.mem_cons, List.not_mem_nil, or_false] at h; rcases h with rfl | rfl <;> first | rfl | exact jR_cat _ _) (Nat.le_of_ble_eq_true rfl) (fun C S L => t_X1_freeMates_e C  h_x1 S L hyp)
set_option maxHeartbeats 4000000 in
set_option maxRecDepth 100000 in
theorem t_X0_fetch_b146 {p : Program} {l : Launch} {e : Env} {s : State} {mi : MethodId} {args : Array Value} {below : List Frame} {meth : Method} {c : Code} {D : va_G} {cy : Nat → ClassId} {B sz : Nat} {sh : jm_S} {res : jm_M} {N : Nat} {k56 : Nat → Int → Int → Int → Int → Int → Int → jm_M → Option jm_M} (C : jCx p s mi args meth c cX0_fetch 7 RX0 none D cy) (K56 : ∀ (a0 : Nat) (x1 : Int) (x2 : Int) (x3 : Int) (x4 : Int) (x5 : Int) (x6 : Int) , jIn x1 → jIn x2 → jIn x3 → jIn x4 → jIn x5 → jIn x6 → ∀ (m : jm_M) (H : Heap) (locs : List Loc) (ls : Array Slot), jHs D cy B sz sh (jA B sz) s.heap H locs m → jL ls [some (jR B a0), some (jI x1), some (jI x2), some (jI x3), some (jI x4), some (jI x5), some (jI x6)] → k56 a0 x1 x2 x3 x4 x5 x6 m = some res → W p l e (jrm 2 0 0) s mi args below meth c H locs 0 0 (MQ below (jQc D cy B sz sh res none True) args s 0 0 (jA B sz)) (F0 mi 56 ls [])) {a0 : Nat} {x1 : Int} (h_x1 : jIn x1) {x2 : Int} (h_x2 : jIn x2) {x3 : Int} (h_x3 : jIn x3) {x4 : Int} (h_x4 : jIn x4) {x5 : Int} (h_x5 : jIn x5) {x6 : Int} (h_x6 : jIn x6) {m : jm_M} {H : Heap} {locs : List Loc} {ls : Array Slot} (S : jHs D cy B sz sh (jA B sz) s.heap H locs m) (L : jL ls [some (jR B a0), some (jI x1), some (jI x2), some (jI x3), some (jI x4), some (jI x5), some (jI x6)]) (hyp : f_X0_fetch_b146 N sh k56 a0 x1 x2 x3 x4 x5 x6 m = some res) : W p l e (jrm 2 0 0) s mi args below meth c H locs 0 0 (MQ below (jQc D cy B sz sh res none True) args s 0 0 (jA B sz)) (F0 mi 146 ls []) := by
  unfold f_X0_fetch_b146 at hyp
  refine jr_iinc (pc := 146) C L dX0_fetch_146 rfl (Nat.le_of_ble_eq_true rfl) (fun ls L => ?_)
  have L : jL ls [some (jR B a0), some (jI x1), some (jI x2), some (jI x3), some (jI x4), some (jI x5), some (jI (jw (x6 + 1)))] := L
  refine jr_goto (pc := 149) C (tgt := 56) dX0_fetch_149 (by decide) ?_
  exact K56 a0 x1 x2 x3 x4 x5 (jw (x6 + 1)) h_x1 h_x2 h_x3 h_x4 h_x5 (jIn_w _) m _ _ _ S (L.sub (jsub_s (jsub_s (jsub_s (jsub_s (jsub_s (jsub_s (jsub_s jsub_0)))))))) hyp
set_option maxHeartbeats 4000000 in
set_option maxRecDepth 100000 in
theorem t_X0_fetch_b144 {p : Program} {l : Launch} {e : Env} {s : State} {mi : MethodId} {args : Array Value} {below : List Frame} {meth : Method} {c : Code} {D : va_G} {cy : Nat → ClassId} {B sz : Nat} {sh : jm_S} {res : jm_M} {N : Nat} {k56 : Nat → Int → Int → Int → Int → Int → Int → jm_M → Option jm_M} (C : jCx p s mi args meth c cX0_fetch 7 RX0 none D cy) (K56 : ∀ (a0 : Nat) (x1 : Int) (x2 : Int) (x3 : Int) (x4 : Int) (x5 : Int) (x6 : Int) , jIn x1 → jIn x2 → jIn x3 → jIn x4 → jIn x5 → jIn x6 → ∀ (m : jm_M) (H : Heap) (locs : List Loc) (ls : Array Slot), jHs D cy B sz sh (jA B sz) s.heap H locs m → jL ls [some (jR B a0), some (jI x1), some (jI x2), some (jI x3), some (jI x4), some (jI x5), some (jI x6)] → k56 a0 x1 x2 x3 x4 x5 x6 m = some res → W p l e (jrm 2 0 0) s mi args below meth c H locs 0 0 (MQ below (jQc D cy B sz sh res none True) args s 0 0 (jA B sz)) (F0 mi 56 ls [])) {a0 : Nat} {x1 : Int} (h_x1 : jIn x1) {x2 : Int} (h_x2 : jIn x2) {x3 : Int} (h_x3 : jIn x3) {x4 : Int} (h_x4 : jIn x4) {x5 : Int} (h_x5 : jIn x5) {x6 : Int} (h_x6 : jIn x6) {r0 : Nat} {s1 : Int} (h_s1 : jIn s1) {s2 : Int} (h_s2 : jIn s2) {s3 : Int} (h_s3 : jIn s3) {m : jm_M} {H : Heap} {locs : List Loc} {ls : Array Slot} (S : jHs D cy B sz sh (jA B sz) s.heap H locs m) (L : jL ls [some (jR B a0), some (jI x1), some (jI x2), some (jI x3), some (jI x4), some (jI x5), some (jI x6)]) (hyp : f_X0_fetch_b144 N sh k56 a0 x1 x2 x3 x4 x5 x6 r0 s1 s2 s3 m = some res) : W p l e (jrm 2 0 0) s mi args below meth c H locs 0 0 (MQ below (jQc D cy B sz sh res none True) args s 0 0 (jA B sz)) (F0 mi 144 ls [jI s3, jI s2, jI s1, jR B r0]) := by
  unfold f_X0_fetch_b144 at hyp
  refine jr_iadd (pc := 144) C dX0_fetch_144 ?_
  obtain ⟨m1, hm1, hyp⟩ := jbind hyp
  refine jr_ias (pc := 145) C S h_s1 (jIn_w _) hm1 dX0_fetch_145 (fun H locs S => ?_)
  exact t_X0_fetch_b146 C  K56 h_x1 h_x2 h_x3 h_x4 h_x5 h_x6 S (L.sub (jsub_s (jsub_s (jsub_s (jsub_s (jsub_s (jsub_s (jsub_s jsub_0)))))))) hyp
set_option maxHeartbeats 4000000 in
set_option maxRecDepth 100000 in
theorem t_X0_fetch_b143 {p : Program} {l : Launch} {e : Env} {s : State} {mi : MethodId} {args : Array Value} {below : List Frame} {meth : Method} {c : Code} {D : va_G} {cy : Nat → ClassId} {B sz : Nat} {sh : jm_S} {res : jm_M} {N : Nat} {k56 : Nat → Int → Int → Int → Int → Int → Int → jm_M → Option jm_M} (C : jCx p s mi args meth c cX0_fetch 7 RX0 none D cy) (K56 : ∀ (a0 : Nat) (x1 : Int) (x2 : Int) (x3 : Int) (x4 : Int) (x5 : Int) (x6 : Int) , jIn x1 → jIn x2 → jIn x3 → jIn x4 → jIn x5 → jIn x6 → ∀ (m : jm_M) (H : Heap) (locs : List Loc) (ls : Array Slot), jHs D cy B sz sh (jA B sz) s.heap H locs m → jL ls [some (jR B a0), some (jI x1), some (jI x2), some (jI x3), some (jI x4), some (jI x5), some (jI x6)] → k56 a0 x1 x2 x3 x4 x5 x6 m = some res → W p l e (jrm 2 0 0) s mi args below meth c H locs 0 0 (MQ below (jQc D cy B sz sh res none True) args s 0 0 (jA B sz)) (F0 mi 56 ls [])) {a0 : Nat} {x1 : Int} (h_x1 : jIn x1) {x2 : Int} (h_x2 : jIn x2) {x3 : Int} (h_x3 : jIn x3) {x4 : Int} (h_x4 : jIn x4) {x5 : Int} (h_x5 : jIn x5) {x6 : Int} (h_x6 : jIn x6) {r0 : Nat} {s1 : Int} (h_s1 : jIn s1) {s2 : Int} (h_s2 : jIn s2) {m : jm_M} {H : Heap} {locs : List Loc} {ls : Array Slot} (S : jHs D cy B sz sh (jA B sz) s.heap H locs m) (L : jL ls [some (jR B a0), some (jI x1), some (jI x2), some (jI x3), some (jI x4), some (jI x5), some (jI x6)]) (hyp : f_X0_fetch_b143 N sh k56 a0 x1 x2 x3 x4 x5 x6 r0 s1 s2 m = some res) : W p l e (jrm 2 0 0) s mi args below meth c H locs 0 0 (MQ below (jQc D cy B sz sh res none True) args s 0 0 (jA B sz)) (F0 mi 143 ls [jI s2, jI s1, jR B r0]) := by
  unfold f_X0_fetch_b143 at hyp
  refine jr_iconst (pc := 143) C dX0_fetch_143 ?_
  exact t_X0_fetch_b144 C  K56 h_x1 h_x2 h_x3 h_x4 h_x5 h_x6 h_s1 h_s2 (show jIn 0 from ⟨by decide, by decide⟩) S (L.sub (jsub_s (jsub_s (jsub_s (jsub_s (jsub_s (jsub_s (jsub_s jsub_0)))))))) hyp
set_option maxHeartbeats 4000000 in
set_option maxRecDepth 100000 in
theorem t_X0_fetch_b97 {p : Program} {l : Launch} {e : Env} {s : State} {mi : MethodId} {args : Array Value} {below : List Frame} {meth : Method} {c : Code} {D : va_G} {cy : Nat → ClassId} {B sz : Nat} {sh : jm_S} {res : jm_M} {N : Nat} {k56 : Nat → Int → Int → Int → Int → Int → Int → jm_M → Option jm_M} (C : jCx p s mi args meth c cX0_fetch 7 RX0 none D cy) (K56 : ∀ (a0 : Nat) (x1 : Int) (x2 : Int) (x3 : Int) (x4 : Int) (x5 : Int) (x6 : Int) , jIn x1 → jIn x2 → jIn x3 → jIn x4 → jIn x5 → jIn x6 → ∀ (m : jm_M) (H : Heap) (locs : List Loc) (ls : Array Slot), jHs D cy B sz sh (jA B sz) s.heap H locs m → jL ls [some (jR B a0), some (jI x1), some (jI x2), some (jI x3), some (jI x4), some (jI x5), some (jI x6)] → k56 a0 x1 x2 x3 x4 x5 x6 m = some res → W p l e (jrm 2 0 0) s mi args below meth c H locs 0 0 (MQ below (jQc D cy B sz sh res none True) args s 0 0 (jA B sz)) (F0 mi 56 ls [])) {a0 : Nat} {x1 : Int} (h_x1 : jIn x1) {x2 : Int} (h_x2 : jIn x2) {x3 : Int} (h_x3 : jIn x3) {x4 : Int} (h_x4 : jIn x4) {x5 : Int} (h_x5 : jIn x5) {x6 : Int} (h_x6 : jIn x6) {r0 : Nat} {s1 : Int} (h_s1 : jIn s1) {s2 : Int} (h_s2 : jIn s2) {s3 : Int} (h_s3 : jIn s3) {m : jm_M} {H : Heap} {locs : List Loc} {ls : Array Slot} (S : jHs D cy B sz sh (jA B sz) s.heap H locs m) (L : jL ls [some (jR B a0), some (jI x1), some (jI x2), some (jI x3), some (jI x4), some (jI x5), some (jI x6)]) (hyp : f_X0_fetch_b97 N sh k56 a0 x1 x2 x3 x4 x5 x6 r0 s1 s2 s3 m = some res) : W p l e (jrm 2 0 0) s mi args below meth c H locs 0 0 (MQ below (jQc D cy B sz sh res none True) args s 0 0 (jA B sz)) (F0 mi 97 ls [jI s3, jI s2, jI s1, jR B r0]) := by
  unfold f_X0_fetch_b97 at hyp
  refine jr_iadd (pc := 97) C dX0_fetch_97 ?_
  obtain ⟨m2, hm2, hyp⟩ := jbind hyp
  refine jr_ias (pc := 98) C S h_s1 (jIn_w _) hm2 dX0_fetch_98 (fun H locs S => ?_)
  refine jr_aload_n (pc := 99) C L dX0_fetch_99 rfl rfl ?_
  obtain ⟨v3, hv3, hyp⟩ := jbind hyp
  refine jr_getR (pc := 100) C S lf_X0_11 rfl hv3 dX0_fetch_100 ?_
  refine jr_bipush (pc := 103) C dX0_fetch_103 (by decide) ?_
  refine jr_iload (pc := 105) C L dX0_fetch_105 rfl ?_
  refine jr_iadd (pc := 107) C dX0_fetch_107 ?_
  refine jr_dup2 (pc := 108) C dX0_fetch_108 ?_
  obtain ⟨v4, hv4, hyp⟩ := jbind hyp
  have iv4 := jra_in S hv4
  refine jr_ial (pc := 109) C S (jIn_w _) hv4 dX0_fetch_109 ?_
  refine jr_aload_n (pc := 110) C L dX0_fetch_110 rfl rfl ?_
  obtain ⟨v5, hv5, hyp⟩ := jbind hyp
  refine jr_getR (pc := 111) C S lf_X0_11 rfl hv5 dX0_fetch_111 ?_
  refine jr_bipush (pc := 114) C dX0_fetch_114 (by decide) ?_
  refine jr_iload (pc := 116) C L dX0_fetch_116 rfl ?_
  refine jr_iadd (pc := 118) C dX0_fetch_118 ?_
  obtain ⟨v6, hv6, hyp⟩ := jbind hyp
  have iv6 := jra_in S hv6
  refine jr_ial (pc := 119) C S (jIn_w _) hv6 dX0_fetch_119 ?_
  refine jr_iload (pc := 120) C L dX0_fetch_120 rfl ?_
  refine jr_icmp_gt (pc := 122) C iv6 h_x4 (tgt := 143) dX0_fetch_122 (by decide) (fun c7 => ?_) (fun c7 => ?_)
  · have hyp := (if_pos c7).symm.trans hyp
    exact t_X0_fetch_b143 C  K56 h_x1 h_x2 h_x3 h_x4 h_x5 h_x6 (jIn_w _) iv4 S (L.sub (jsub_s (jsub_s (jsub_s (jsub_s (jsub_s (jsub_s (jsub_s jsub_0)))))))) hyp
  · have hyp := (if_neg c7).symm.trans hyp
    refine jr_aload_n (pc := 125) C L dX0_fetch_125 rfl rfl ?_
    obtain ⟨v8, hv8, hyp⟩ := jbind hyp
    refine jr_getR (pc := 126) C S lf_X0_11 rfl hv8 dX0_fetch_126 ?_
    refine jr_bipush (pc := 129) C dX0_fetch_129 (by decide) ?_
    refine jr_iload (pc := 131) C L dX0_fetch_131 rfl ?_
    refine jr_iadd (pc := 133) C dX0_fetch_133 ?_
    obtain ⟨v9, hv9, hyp⟩ := jbind hyp
    have iv9 := jra_in S hv9
    refine jr_ial (pc := 134) C S (jIn_w _) hv9 dX0_fetch_134 ?_
    refine jr_iload_n (pc := 135) C L dX0_fetch_135 rfl rfl ?_
    refine jr_icmp_ge (pc := 136) C iv9 h_x2 (tgt := 143) dX0_fetch_136 (by decide) (fun c10 => ?_) (fun c10 => ?_)
    · have hyp := (if_pos c10).symm.trans hyp
      refine jr_iconst (pc := 139) C dX0_fetch_139 ?_
      refine jr_goto (pc := 140) C (tgt := 144) dX0_fetch_140 (by decide) ?_
      exact t_X0_fetch_b144 C  K56 h_x1 h_x2 h_x3 h_x4 h_x5 h_x6 (jIn_w _) iv4 (show jIn 1 from ⟨by decide, by decide⟩) S (L.sub (jsub_s (jsub_s (jsub_s (jsub_s (jsub_s (jsub_s (jsub_s jsub_0)))))))) hyp
    · have hyp := (if_neg c10).symm.trans hyp
      exact t_X0_fetch_b143 C  K56 h_x1 h_x2 h_x3 h_x4 h_x5 h_x6 (jIn_w _) iv4 S (L.sub (jsub_s (jsub_s (jsub_s (jsub_s (jsub_s (jsub_s (jsub_s jsub_0)))))))) hyp
set_option maxHeartbeats 4000000 in
set_option maxRecDepth 100000 in
theorem t_X0_fetch_b56 {p : Program} {l : Launch} {e : Env} {s : State} {mi : MethodId} {args : Array Value} {below : List Frame} {meth : Method} {c : Code} {D : va_G} {cy : Nat → ClassId} {B sz : Nat} {sh : jm_S} {res : jm_M} {N : Nat} {k56 : Nat → Int → Int → Int → Int → Int → Int → jm_M → Option jm_M} (C : jCx p s mi args meth c cX0_fetch 7 RX0 none D cy) (K56 : ∀ (a0 : Nat) (x1 : Int) (x2 : Int) (x3 : Int) (x4 : Int) (x5 : Int) (x6 : Int) , jIn x1 → jIn x2 → jIn x3 → jIn x4 → jIn x5 → jIn x6 → ∀ (m : jm_M) (H : Heap) (locs : List Loc) (ls : Array Slot), jHs D cy B sz sh (jA B sz) s.heap H locs m → jL ls [some (jR B a0), some (jI x1), some (jI x2), some (jI x3), some (jI x4), some (jI x5), some (jI x6)] → k56 a0 x1 x2 x3 x4 x5 x6 m = some res → W p l e (jrm 2 0 0) s mi args below meth c H locs 0 0 (MQ below (jQc D cy B sz sh res none True) args s 0 0 (jA B sz)) (F0 mi 56 ls [])) {a0 : Nat} {x1 : Int} (h_x1 : jIn x1) {x2 : Int} (h_x2 : jIn x2) {x3 : Int} (h_x3 : jIn x3) {x4 : Int} (h_x4 : jIn x4) {x5 : Int} (h_x5 : jIn x5) {x6 : Int} (h_x6 : jIn x6) {m : jm_M} {H : Heap} {locs : List Loc} {ls : Array Slot} (S : jHs D cy B sz sh (jA B sz) s.heap H locs m) (L : jL ls [some (jR B a0), some (jI x1), some (jI x2), some (jI x3), some (jI x4), some (jI x5), some (jI x6)]) (hyp : f_X0_fetch_b56 N sh k56 a0 x1 x2 x3 x4 x5 x6 m = some res) : W p l e (jrm 2 0 0) s mi args below meth c H locs 0 0 (MQ below (jQc D cy B sz sh res none True) args s 0 0 (jA B sz)) (F0 mi 56 ls []) := by
  unfold f_X0_fetch_b56 at hyp
  refine jr_iload (pc := 56) C L dX0_fetch_56 rfl ?_
  refine jr_bipush (pc := 58) C dX0_fetch_58 (by decide) ?_
  refine jr_icmp_ge (pc := 60) C h_x6 (show jIn 8 from ⟨by decide, by decide⟩) (tgt := 152) dX0_fetch_60 (by decide) (fun c11 => ?_) (fun c11 => ?_)
  · have hyp := (if_pos c11).symm.trans hyp
    refine jr_iload (pc := 63) C L dX0_fetch_63 rfl ?_
    refine jr_iload (pc := 65) C L dX0_fetch_65 rfl ?_
    obtain ⟨q12, hq12, hyp⟩ := jbind hyp
    refine jr_callSN_I (pc := 67) C S L (As := [jI x5, jI x6]) (rest := []) (c_X11_isIn (m0 := m) h_x5 h_x6 hq12) ms_X11_isIn mn_X0_92 (by decide) rfl rfl rfl (Nat.le_of_ble_eq_true rfl) ⟨Nat.le_refl 0, Nat.le_refl 0⟩ dX0_fetch_67 (fun p13 H locs S => ?_)
    refine jr_if_eq (pc := 70) C p13 (tgt := 146) dX0_fetch_70 (by decide) (fun c14 => ?_) (fun c14 => ?_)
    · have hyp := (if_pos c14).symm.trans hyp
      exact t_X0_fetch_b146 C  K56 h_x1 h_x2 h_x3 h_x4 h_x5 h_x6 S (L.sub (jsub_s (jsub_s (jsub_s (jsub_s (jsub_s (jsub_s (jsub_s jsub_0)))))))) hyp
    · have hyp := (if_neg c14).symm.trans hyp
      refine jr_aload_n (pc := 73) C L dX0_fetch_73 rfl rfl ?_
      obtain ⟨v15, hv15, hyp⟩ := jbind hyp
      refine jr_getR (pc := 74) C S lf_X0_11 rfl hv15 dX0_fetch_74 ?_
      refine jr_iload (pc := 77) C L dX0_fetch_77 rfl ?_
      refine jr_dup2 (pc := 79) C dX0_fetch_79 ?_
      obtain ⟨v16, hv16, hyp⟩ := jbind hyp
      have iv16 := jra_in S hv16
      refine jr_ial (pc := 80) C S h_x6 hv16 dX0_fetch_80 ?_
      refine jr_aload_n (pc := 81) C L dX0_fetch_81 rfl rfl ?_
      obtain ⟨v17, hv17, hyp⟩ := jbind hyp
      refine jr_getR (pc := 82) C S lf_X0_11 rfl hv17 dX0_fetch_82 ?_
      refine jr_iload (pc := 85) C L dX0_fetch_85 rfl ?_
      obtain ⟨v18, hv18, hyp⟩ := jbind hyp
      have iv18 := jra_in S hv18
      refine jr_ial (pc := 87) C S h_x6 hv18 dX0_fetch_87 ?_
      refine jr_iload_n (pc := 88) C L dX0_fetch_88 rfl rfl ?_
      refine jr_icmp_ge (pc := 89) C iv18 h_x3 (tgt := 96) dX0_fetch_89 (by decide) (fun c19 => ?_) (fun c19 => ?_)
      · have hyp := (if_pos c19).symm.trans hyp
        refine jr_iconst (pc := 92) C dX0_fetch_92 ?_
        refine jr_goto (pc := 93) C (tgt := 97) dX0_fetch_93 (by decide) ?_
        exact t_X0_fetch_b97 C  K56 h_x1 h_x2 h_x3 h_x4 h_x5 h_x6 h_x6 iv16 (show jIn 1 from ⟨by decide, by decide⟩) S (L.sub (jsub_s (jsub_s (jsub_s (jsub_s (jsub_s (jsub_s (jsub_s jsub_0)))))))) hyp
      · have hyp := (if_neg c19).symm.trans hyp
        refine jr_iconst (pc := 96) C dX0_fetch_96 ?_
        exact t_X0_fetch_b97 C  K56 h_x1 h_x2 h_x3 h_x4 h_x5 h_x6 h_x6 iv16 (show jIn 0 from ⟨by decide, by decide⟩) S (L.sub (jsub_s (jsub_s (jsub_s (jsub_s (jsub_s (jsub_s (jsub_s jsub_0)))))))) hyp
  · have hyp := (if_neg c11).symm.trans hyp
    refine jr_aload_n (pc := 152) C L dX0_fetch_152 rfl rfl ?_
    obtain ⟨v20, hv20, hyp⟩ := jbind hyp
    refine jr_getR (pc := 153) C S lf_X0_11 rfl hv20 dX0_fetch_153 ?_
    refine jr_iload_n (pc := 156) C L dX0_fetch_156 rfl rfl ?_
    refine jr_iconst (pc := 157) C dX0_fetch_157 ?_
    obtain ⟨m21, hm21, hyp⟩ := jbind hyp
    refine jr_ias (pc := 158) C S h_x1 (show jIn 0 from ⟨by decide, by decide⟩) hm21 dX0_fetch_158 (fun H locs S => ?_)
    refine jr_aload_n (pc := 159) C L dX0_fetch_159 rfl rfl ?_
    obtain ⟨v22, hv22, hyp⟩ := jbind hyp
    refine jr_getR (pc := 160) C S lf_X0_11 rfl hv22 dX0_fetch_160 ?_
    refine jr_bipush (pc := 163) C dX0_fetch_163 (by decide) ?_
    refine jr_iload_n (pc := 165) C L dX0_fetch_165 rfl rfl ?_
    refine jr_iadd (pc := 166) C dX0_fetch_166 ?_
    refine jr_iconst (pc := 167) C dX0_fetch_167 ?_
    obtain ⟨m23, hm23, hyp⟩ := jbind hyp
    refine jr_ias (pc := 168) C S (jIn_w _) (show jIn 0 from ⟨by decide, by decide⟩) hm23 dX0_fetch_168 (fun H locs S => ?_)
    cases hyp
    exact jr_vret C S trivial dX0_fetch_169
theorem t_X0_fetch_l56 {p : Program} {l : Launch} {e : Env} {s : State} {mi : MethodId} {args : Array Value} {below : List Frame} {meth : Method} {c : Code} {D : va_G} {cy : Nat → ClassId} {B sz : Nat} {sh : jm_S} {res : jm_M} {N : Nat} (C : jCx p s mi args meth c cX0_fetch 7 RX0 none D cy) : ∀ (n : Nat) (a0 : Nat) (x1 : Int) (x2 : Int) (x3 : Int) (x4 : Int) (x5 : Int) (x6 : Int), jIn x1 → jIn x2 → jIn x3 → jIn x4 → jIn x5 → jIn x6 → ∀ (m : jm_M) (H : Heap) (locs : List Loc) (ls : Array Slot), jHs D cy B sz sh (jA B sz) s.heap H locs m → jL ls [some (jR B a0), some (jI x1), some (jI x2), some (jI x3), some (jI x4), some (jI x5), some (jI x6)] → f_X0_fetch_l56 N sh n a0 x1 x2 x3 x4 x5 x6 m = some res → W p l e (jrm 2 0 0) s mi args below meth c H locs 0 0 (MQ below (jQc D cy B sz sh res none True) args s 0 0 (jA B sz)) (F0 mi 56 ls []) := by
  intro n
  induction n with
  | zero => intro a0 x1 x2 x3 x4 x5 x6 h_x1 h_x2 h_x3 h_x4 h_x5 h_x6 m H locs ls S L hyp; cases hyp
  | succ n ih => intro a0 x1 x2 x3 x4 x5 x6 h_x1 h_x2 h_x3 h_x4 h_x5 h_x6 m H locs ls S L hyp; exact t_X0_fetch_b56 (N := N) C  ih h_x1 h_x2 h_x3 h_x4 h_x5 h_x6 S L hyp
set_option maxHeartbeats 4000000 in
set_option maxRecDepth 100000 in
theorem t_X0_fetch_e {p : Program} {l : Launch} {e : Env} {s : State} {mi : MethodId} {args : Array Value} {below : List Frame} {meth : Method} {c : Code} {D : va_G} {cy : Nat → ClassId} {B sz : Nat} {sh : jm_S} {res : jm_M} {N : Nat} (C : jCx p s mi args meth c cX0_fetch 7 RX0 none D cy) {a0 : Nat} {x1 : Int} (h_x1 : jIn x1) {m : jm_M} {H : Heap} {locs : List Loc} {ls : Array Slot} (S : jHs D cy B sz sh (jA B sz) s.heap H locs m) (L : jL ls [some (jR B a0), some (jI x1), none, none, none, none, none]) (hyp : f_X0_fetch N sh a0 x1 m = some res) : W p l e (jrm 2 0 0) s mi args below meth c H locs 0 0 (MQ below (jQc D cy B sz sh res none True) args s 0 0 (jA B sz)) (F0 mi 0 ls []) := by
  unfold f_X0_fetch at hyp
  refine jr_aload_n (pc := 0) C L dX0_fetch_0 rfl rfl ?_
  obtain ⟨v24, hv24, hyp⟩ := jbind hyp
  refine jr_getR (pc := 1) C S lf_X0_26 rfl hv24 dX0_fetch_1 ?_
  refine jr_iload_n (pc := 4) C L dX0_fetch_4 rfl rfl ?_
  obtain ⟨u25, hu25, hyp⟩ := jbind hyp
  obtain ⟨q26, hq26, hyp⟩ := jbind hyp
  refine jr_callV_I (pc := 5) C S L (As := [jI x1]) (rest := []) (c_X1_roomFor (m0 := m) h_x1 hq26) mv_X1_roomFor ml_X0_44 rfl (jck_spec hu25) (by decide) rfl rfl rfl (Nat.le_of_ble_eq_true rfl) ⟨Nat.le_refl 0, Nat.le_refl 0⟩ dX0_fetch_5 (fun p27 H locs S => ?_)
  refine jr_istore_n (pc := 8) C L dX0_fetch_8 rfl (Nat.le_of_ble_eq_true rfl) (fun ls L => ?_)
  have L : jL ls [some (jR B a0), some (jI x1), some (jI q26), none, none, none, none] := L
  refine jr_aload_n (pc := 9) C L dX0_fetch_9 rfl rfl ?_
  obtain ⟨v28, hv28, hyp⟩ := jbind hyp
  refine jr_getR (pc := 10) C S lf_X0_26 rfl hv28 dX0_fetch_10 ?_
  refine jr_iload_n (pc := 13) C L dX0_fetch_13 rfl rfl ?_
  obtain ⟨u29, hu29, hyp⟩ := jbind hyp
  obtain ⟨q30, hq30, hyp⟩ := jbind hyp
  refine jr_callV_I (pc := 14) C S L (As := [jI x1]) (rest := []) (c_X1_holds (m0 := m) h_x1 hq30) mv_X1_holds ml_X0_40 rfl (jck_spec hu29) (by decide) rfl rfl rfl (Nat.le_of_ble_eq_true rfl) ⟨Nat.le_refl 0, Nat.le_refl 0⟩ dX0_fetch_14 (fun p31 H locs S => ?_)
  refine jr_if_ne (pc := 17) C p31 (tgt := 24) dX0_fetch_17 (by decide) (fun c32 => ?_) (fun c32 => ?_)
  · have hyp := (if_pos c32).symm.trans hyp
    refine jr_iload_n (pc := 20) C L dX0_fetch_20 rfl rfl ?_
    refine jr_if_ne (pc := 21) C p27 (tgt := 25) dX0_fetch_21 (by decide) (fun c33 => ?_) (fun c33 => ?_)
    · have hyp := (if_pos c33).symm.trans hyp
      cases hyp
      exact jr_vret C S trivial dX0_fetch_24
    · have hyp := (if_neg c33).symm.trans hyp
      refine jr_aload_n (pc := 25) C L dX0_fetch_25 rfl rfl ?_
      obtain ⟨v34, hv34, hyp⟩ := jbind hyp
      refine jr_getR (pc := 26) C S lf_X0_11 rfl hv34 dX0_fetch_26 ?_
      refine jr_iload_n (pc := 29) C L dX0_fetch_29 rfl rfl ?_
      obtain ⟨v35, hv35, hyp⟩ := jbind hyp
      have iv35 := jra_in S hv35
      refine jr_ial (pc := 30) C S h_x1 hv35 dX0_fetch_30 ?_
      refine jr_istore_n (pc := 31) C L dX0_fetch_31 rfl (Nat.le_of_ble_eq_true rfl) (fun ls L => ?_)
      have L : jL ls [some (jR B a0), some (jI x1), some (jI q26), some (jI v35), none, none, none] := L
      refine jr_aload_n (pc := 32) C L dX0_fetch_32 rfl rfl ?_
      obtain ⟨v36, hv36, hyp⟩ := jbind hyp
      refine jr_getR (pc := 33) C S lf_X0_11 rfl hv36 dX0_fetch_33 ?_
      refine jr_bipush (pc := 36) C dX0_fetch_36 (by decide) ?_
      refine jr_iload_n (pc := 38) C L dX0_fetch_38 rfl rfl ?_
      refine jr_iadd (pc := 39) C dX0_fetch_39 ?_
      obtain ⟨v37, hv37, hyp⟩ := jbind hyp
      have iv37 := jra_in S hv37
      refine jr_ial (pc := 40) C S (jIn_w _) hv37 dX0_fetch_40 ?_
      refine jr_istore (pc := 41) C L dX0_fetch_41 (Nat.le_of_ble_eq_true rfl) (fun ls L => ?_)
      have L : jL ls [some (jR B a0), some (jI x1), some (jI q26), some (jI v35), some (jI v37), none, none] := L
      refine jr_aload_n (pc := 43) C L dX0_fetch_43 rfl rfl ?_
      obtain ⟨v38, hv38, hyp⟩ := jbind hyp
      refine jr_getR (pc := 44) C S lf_X0_26 rfl hv38 dX0_fetch_44 ?_
      refine jr_iload_n (pc := 47) C L dX0_fetch_47 rfl rfl ?_
      obtain ⟨u39, hu39, hyp⟩ := jbind hyp
      obtain ⟨q40, hq40, hyp⟩ := jbind hyp
      refine jr_callV_I (pc := 48) C S L (As := [jI x1]) (rest := []) (c_X1_freeMates (m0 := m) h_x1 hq40) mv_X1_freeMates ml_X0_89 rfl (jck_spec hu39) (by decide) rfl rfl rfl (Nat.le_of_ble_eq_true rfl) ⟨Nat.le_refl 0, Nat.le_refl 0⟩ dX0_fetch_48 (fun p41 H locs S => ?_)
      refine jr_istore (pc := 51) C L dX0_fetch_51 (Nat.le_of_ble_eq_true rfl) (fun ls L => ?_)
      have L : jL ls [some (jR B a0), some (jI x1), some (jI q26), some (jI v35), some (jI v37), some (jI q40), none] := L
      refine jr_iconst (pc := 53) C dX0_fetch_53 ?_
      refine jr_istore (pc := 54) C L dX0_fetch_54 (Nat.le_of_ble_eq_true rfl) (fun ls L => ?_)
      have L : jL ls [some (jR B a0), some (jI x1), some (jI q26), some (jI v35), some (jI v37), some (jI q40), some (jI 0)] := L
      exact t_X0_fetch_l56 C   N a0 x1 q26 v35 v37 q40 0 h_x1 p27 iv35 iv37 p41 (show jIn 0 from ⟨by decide, by decide⟩) m _ _ _ S (L.sub (jsub_s (jsub_s (jsub_s (jsub_s (jsub_s (jsub_s (jsub_s jsub_0)))))))) hyp
  · have hyp := (if_neg c32).symm.trans hyp
    cases hyp
    exact jr_vret C S trivial dX0_fetch_24
theorem c_X0_fetch {l : Launch} {D : va_G} {cy : Nat → ClassId} {B sz : Nat} {sh : jm_S} {res : jm_M} {N : Nat} {m : jm_M} {a0 : Nat} {x1 : Int} (h_x1 : jIn x1) (hyp : f_X0_fetch N sh a0 x1 m = some res) : jCt l D cy B sz sh 2 yX0_fetch cX0_fetch 7 none [jR B a0, jI x1] m none res True :=
  jc_of (by decide) (fun v h => by simp only [List.mem_cons, List.not_mem_nil, or_false] at h; rcases h with rfl | rfl <;> first | rfl | exact jR_cat _ _) (Nat.le_of_ble_eq_true rfl) (fun C S L => t_X0_fetch_e C  h_x1 S L hyp)
set_option maxHeartbeats 4000000 in
set_option maxRecDepth 100000 in
theorem t_X0_pass_b189 {p : Program} {l : Launch} {e : Env} {s : State} {mi : MethodId} {args : Array Value} {below : List Frame} {meth : Method} {c : Code} {D : va_G} {cy : Nat → ClassId} {B sz : Nat} {sh : jm_S} {res : jm_M} {N : Nat} {rec : Nat → Int → Int → jm_M → Option jm_M} {kr : Nat} (C : jCx p s mi args meth c cX0_pass 5 RX0 none D cy) (hkr : 3 ≤ kr) (hrec : ∀ (a0 : Nat) (x1 : Int) (x2 : Int), jIn x1 → jIn x2 → ∀ (m : jm_M) (res : jm_M), rec a0 x1 x2 m = some res → jCt l D cy B sz sh kr yX0_pass cX0_pass 5 none [jR B a0, jI x1, jI x2] m none res True) {a0 : Nat} {x2 : Int} (h_x2 : jIn x2) {x3 : Int} (h_x3 : jIn x3) {m : jm_M} {H : Heap} {locs : List Loc} {ls : Array Slot} (S : jHs D cy B sz sh (jA B sz) s.heap H locs m) (L : jL ls [some (jR B a0), none, some (jI x2), some (jI x3), none]) (hyp : f_X0_pass_b189 N sh rec a0 x2 x3 m = some res) : W p l e (jrm (kr + 3) 0 0) s mi args below meth c H locs 0 0 (MQ below (jQc D cy B sz sh res none True) args s 0 0 (jA B sz)) (F0 mi 189 ls []) := by
  unfold f_X0_pass_b189 at hyp
  refine jr_aload_n (pc := 189) C L dX0_pass_189 rfl rfl ?_
  refine jr_iload_n (pc := 190) C L dX0_pass_190 rfl rfl ?_
  refine jr_iload_n (pc := 191) C L dX0_pass_191 rfl rfl ?_
  obtain ⟨u1, hu1, hyp⟩ := jbind hyp
  obtain ⟨q2, hq2, hyp⟩ := jbind hyp
  refine jr_callV_N (pc := 192) C S L (As := [jI x3, jI x2]) (rest := []) (c_X0_passLoop (kr := kr) (by omega) hrec h_x3 h_x2 hq2) mv_X0_passLoop ml_X0_75 rfl (jck_spec hu1) (by omega) rfl rfl rfl (Nat.le_of_ble_eq_true rfl) ⟨Nat.le_refl 0, Nat.le_refl 0⟩ dX0_pass_192 (fun p3 H locs S => ?_)
  refine jr_goto (pc := 195) C (tgt := 226) dX0_pass_195 (by decide) ?_
  cases hyp
  exact jr_vret C S trivial dX0_pass_226
set_option maxHeartbeats 4000000 in
set_option maxRecDepth 100000 in
theorem t_X0_pass_e {p : Program} {l : Launch} {e : Env} {s : State} {mi : MethodId} {args : Array Value} {below : List Frame} {meth : Method} {c : Code} {D : va_G} {cy : Nat → ClassId} {B sz : Nat} {sh : jm_S} {res : jm_M} {N : Nat} {rec : Nat → Int → Int → jm_M → Option jm_M} {kr : Nat} (C : jCx p s mi args meth c cX0_pass 5 RX0 none D cy) (hkr : 3 ≤ kr) (hrec : ∀ (a0 : Nat) (x1 : Int) (x2 : Int), jIn x1 → jIn x2 → ∀ (m : jm_M) (res : jm_M), rec a0 x1 x2 m = some res → jCt l D cy B sz sh kr yX0_pass cX0_pass 5 none [jR B a0, jI x1, jI x2] m none res True) {a0 : Nat} {x1 : Int} (h_x1 : jIn x1) {x2 : Int} (h_x2 : jIn x2) {m : jm_M} {H : Heap} {locs : List Loc} {ls : Array Slot} (S : jHs D cy B sz sh (jA B sz) s.heap H locs m) (L : jL ls [some (jR B a0), some (jI x1), some (jI x2), none, none]) (hyp : f_X0_pass_e N sh rec a0 x1 x2 m = some res) : W p l e (jrm (kr + 3) 0 0) s mi args below meth c H locs 0 0 (MQ below (jQc D cy B sz sh res none True) args s 0 0 (jA B sz)) (F0 mi 0 ls []) := by
  unfold f_X0_pass_e at hyp
  refine jr_iload_n (pc := 0) C L dX0_pass_0 rfl rfl ?_
  refine jr_iconst (pc := 1) C dX0_pass_1 ?_
  refine jr_icmp_gt (pc := 2) C h_x2 (show jIn 4 from ⟨by decide, by decide⟩) (tgt := 15) dX0_pass_2 (by decide) (fun c4 => ?_) (fun c4 => ?_)
  · have hyp := (if_pos c4).symm.trans hyp
    cases hyp
    exact jr_vret C S trivial dX0_pass_15
  · have hyp := (if_neg c4).symm.trans hyp
    refine jr_iload_n (pc := 5) C L dX0_pass_5 rfl rfl ?_
    refine jr_if_lt (pc := 6) C h_x1 (tgt := 15) dX0_pass_6 (by decide) (fun c5 => ?_) (fun c5 => ?_)
    · have hyp := (if_pos c5).symm.trans hyp
      cases hyp
      exact jr_vret C S trivial dX0_pass_15
    · have hyp := (if_neg c5).symm.trans hyp
      refine jr_iload_n (pc := 9) C L dX0_pass_9 rfl rfl ?_
      refine jr_bipush (pc := 10) C dX0_pass_10 (by decide) ?_
      refine jr_icmp_lt (pc := 12) C h_x1 (show jIn 30 from ⟨by decide, by decide⟩) (tgt := 16) dX0_pass_12 (by decide) (fun c6 => ?_) (fun c6 => ?_)
      · have hyp := (if_pos c6).symm.trans hyp
        refine jr_aload_n (pc := 16) C L dX0_pass_16 rfl rfl ?_
        obtain ⟨v7, hv7, hyp⟩ := jbind hyp
        refine jr_getR (pc := 17) C S lf_X0_36 rfl hv7 dX0_pass_17 ?_
        refine jr_iload_n (pc := 20) C L dX0_pass_20 rfl rfl ?_
        obtain ⟨u8, hu8, hyp⟩ := jbind hyp
        obtain ⟨q9, hq9, hyp⟩ := jbind hyp
        refine jr_callV_I (pc := 21) C S L (As := [jI x1]) (rest := []) (c_X10_firstPart (m0 := m) h_x1 hq9) mv_X10_firstPart ml_X0_56 rfl (jck_spec hu8) (by omega) rfl rfl rfl (Nat.le_of_ble_eq_true rfl) ⟨Nat.le_refl 0, Nat.le_refl 0⟩ dX0_pass_21 (fun p10 H locs S => ?_)
        refine jr_istore_n (pc := 24) C L dX0_pass_24 rfl (Nat.le_of_ble_eq_true rfl) (fun ls L => ?_)
        have L : jL ls [some (jR B a0), some (jI x1), some (jI x2), some (jI q9), none] := L
        refine jr_aload_n (pc := 25) C L dX0_pass_25 rfl rfl ?_
        obtain ⟨v11, hv11, hyp⟩ := jbind hyp
        refine jr_getR (pc := 26) C S lf_X0_36 rfl hv11 dX0_pass_26 ?_
        refine jr_iload_n (pc := 29) C L dX0_pass_29 rfl rfl ?_
        obtain ⟨u12, hu12, hyp⟩ := jbind hyp
        obtain ⟨q13, hq13, hyp⟩ := jbind hyp
        refine jr_callV_I (pc := 30) C S L (As := [jI x1]) (rest := []) (c_X10_secondPart (m0 := m) h_x1 hq13) mv_X10_secondPart ml_X0_61 rfl (jck_spec hu12) (by omega) rfl rfl rfl (Nat.le_of_ble_eq_true rfl) ⟨Nat.le_refl 0, Nat.le_refl 0⟩ dX0_pass_30 (fun p14 H locs S => ?_)
        refine jr_istore (pc := 33) C L dX0_pass_33 (Nat.le_of_ble_eq_true rfl) (fun ls L => ?_)
        have L : jL ls [some (jR B a0), some (jI x1), some (jI x2), some (jI q9), some (jI q13)] := L
        refine jr_aload_n (pc := 35) C L dX0_pass_35 rfl rfl ?_
        obtain ⟨v15, hv15, hyp⟩ := jbind hyp
        refine jr_getR (pc := 36) C S lf_X0_36 rfl hv15 dX0_pass_36 ?_
        refine jr_iload_n (pc := 39) C L dX0_pass_39 rfl rfl ?_
        obtain ⟨u16, hu16, hyp⟩ := jbind hyp
        obtain ⟨q17, hq17, hyp⟩ := jbind hyp
        refine jr_callV_I (pc := 40) C S L (As := [jI x1]) (rest := []) (c_X10_signAt (m0 := m) h_x1 hq17) mv_X10_signAt ml_X0_64 rfl (jck_spec hu16) (by omega) rfl rfl rfl (Nat.le_of_ble_eq_true rfl) ⟨Nat.le_refl 0, Nat.le_refl 0⟩ dX0_pass_40 (fun p18 H locs S => ?_)
        by_cases c19 : (45 : Int) = q17
        · have hyp := (if_pos c19).symm.trans hyp
          refine jr_lookup (pc := 43) C p18 (off := 155) (tgt := 198) dX0_pass_43 rfl (if_pos c19) (by decide) ?_
          refine jr_goto (pc := 198) C (tgt := 226) dX0_pass_198 (by decide) ?_
          cases hyp
          exact jr_vret C S trivial dX0_pass_226
        have hyp := (if_neg c19).symm.trans hyp
        by_cases c20 : (59 : Int) = q17
        · have hyp := (if_pos c20).symm.trans hyp
          refine jr_lookup (pc := 43) C p18 (off := 57) (tgt := 100) dX0_pass_43 rfl ((if_neg c19).trans (if_pos c20)) (by decide) ?_
          refine jr_aload_n (pc := 100) C L dX0_pass_100 rfl rfl ?_
          refine jr_iload_n (pc := 101) C L dX0_pass_101 rfl rfl ?_
          refine jr_iload_n (pc := 102) C L dX0_pass_102 rfl rfl ?_
          refine jr_iconst (pc := 103) C dX0_pass_103 ?_
          refine jr_iadd (pc := 104) C dX0_pass_104 ?_
          obtain ⟨u21, hu21, hyp⟩ := jbind hyp
          obtain ⟨q22, hq22, hyp⟩ := jbind hyp
          refine jr_callV_N (pc := 105) C S L (As := [jI q9, jI (jw (x2 + 1))]) (rest := []) (hrec a0 q9 (jw (x2 + 1)) p10 (jIn_w _) m q22 hq22) mv_X0_pass ml_X0_48 rfl (jck_spec hu21) (by omega) rfl rfl rfl (Nat.le_of_ble_eq_true rfl) ⟨Nat.le_refl 0, Nat.le_refl 0⟩ dX0_pass_105 (fun p23 H locs S => ?_)
          refine jr_aload_n (pc := 108) C L dX0_pass_108 rfl rfl ?_
          refine jr_iload (pc := 109) C L dX0_pass_109 rfl ?_
          refine jr_iload_n (pc := 111) C L dX0_pass_111 rfl rfl ?_
          refine jr_iconst (pc := 112) C dX0_pass_112 ?_
          refine jr_iadd (pc := 113) C dX0_pass_113 ?_
          obtain ⟨u24, hu24, hyp⟩ := jbind hyp
          obtain ⟨q25, hq25, hyp⟩ := jbind hyp
          refine jr_callV_N (pc := 114) C S L (As := [jI q13, jI (jw (x2 + 1))]) (rest := []) (hrec a0 q13 (jw (x2 + 1)) p14 (jIn_w _) q22 q25 hq25) mv_X0_pass ml_X0_48 rfl (jck_spec hu24) (by omega) rfl rfl rfl (Nat.le_of_ble_eq_true rfl) ⟨Nat.le_refl 0, Nat.le_refl 0⟩ dX0_pass_114 (fun p26 H locs S => ?_)
          refine jr_goto (pc := 117) C (tgt := 226) dX0_pass_117 (by decide) ?_
          cases hyp
          exact jr_vret C S trivial dX0_pass_226
        have hyp := (if_neg c20).symm.trans hyp
        by_cases c27 : (63 : Int) = q17
        · have hyp := (if_pos c27).symm.trans hyp
          refine jr_lookup (pc := 43) C p18 (off := 77) (tgt := 120) dX0_pass_43 rfl ((if_neg c19).trans ((if_neg c20).trans (if_pos c27))) (by decide) ?_
          refine jr_aload_n (pc := 120) C L dX0_pass_120 rfl rfl ?_
          obtain ⟨v28, hv28, hyp⟩ := jbind hyp
          refine jr_getR (pc := 121) C S lf_X0_11 rfl hv28 dX0_pass_121 ?_
          refine jr_aload_n (pc := 124) C L dX0_pass_124 rfl rfl ?_
          obtain ⟨v29, hv29, hyp⟩ := jbind hyp
          refine jr_getR (pc := 125) C S lf_X0_20 rfl hv29 dX0_pass_125 ?_
          refine jr_iload_n (pc := 128) C L dX0_pass_128 rfl rfl ?_
          obtain ⟨v30, hv30, hyp⟩ := jbind hyp
          refine jr_aal (pc := 129) C S (by decide) h_x2 hv30 dX0_pass_129 ?_
          obtain ⟨q31, hq31, hyp⟩ := jbind hyp
          refine jr_callS_N (pc := 130) C S L (As := [jR B v28.toNat, jR B v30.toNat]) (rest := []) (c_X0_copy  hq31) ms_X0_copy ml_X0_67 (by omega) rfl rfl rfl (Nat.le_of_ble_eq_true rfl) ⟨Nat.le_refl 0, Nat.le_refl 0⟩ dX0_pass_130 (fun p32 H locs S => ?_)
          refine jr_aload_n (pc := 133) C L dX0_pass_133 rfl rfl ?_
          refine jr_iload_n (pc := 134) C L dX0_pass_134 rfl rfl ?_
          refine jr_iload_n (pc := 135) C L dX0_pass_135 rfl rfl ?_
          refine jr_iconst (pc := 136) C dX0_pass_136 ?_
          refine jr_iadd (pc := 137) C dX0_pass_137 ?_
          obtain ⟨u33, hu33, hyp⟩ := jbind hyp
          obtain ⟨q34, hq34, hyp⟩ := jbind hyp
          refine jr_callV_N (pc := 138) C S L (As := [jI q9, jI (jw (x2 + 1))]) (rest := []) (hrec a0 q9 (jw (x2 + 1)) p10 (jIn_w _) q31 q34 hq34) mv_X0_pass ml_X0_48 rfl (jck_spec hu33) (by omega) rfl rfl rfl (Nat.le_of_ble_eq_true rfl) ⟨Nat.le_refl 0, Nat.le_refl 0⟩ dX0_pass_138 (fun p35 H locs S => ?_)
          refine jr_aload_n (pc := 141) C L dX0_pass_141 rfl rfl ?_
          obtain ⟨v36, hv36, hyp⟩ := jbind hyp
          refine jr_getR (pc := 142) C S lf_X0_11 rfl hv36 dX0_pass_142 ?_
          refine jr_aload_n (pc := 145) C L dX0_pass_145 rfl rfl ?_
          obtain ⟨v37, hv37, hyp⟩ := jbind hyp
          refine jr_getR (pc := 146) C S lf_X0_23 rfl hv37 dX0_pass_146 ?_
          refine jr_iload_n (pc := 149) C L dX0_pass_149 rfl rfl ?_
          obtain ⟨v38, hv38, hyp⟩ := jbind hyp
          refine jr_aal (pc := 150) C S (by decide) h_x2 hv38 dX0_pass_150 ?_
          obtain ⟨q39, hq39, hyp⟩ := jbind hyp
          refine jr_callS_N (pc := 151) C S L (As := [jR B v36.toNat, jR B v38.toNat]) (rest := []) (c_X0_copy  hq39) ms_X0_copy ml_X0_67 (by omega) rfl rfl rfl (Nat.le_of_ble_eq_true rfl) ⟨Nat.le_refl 0, Nat.le_refl 0⟩ dX0_pass_151 (fun p40 H locs S => ?_)
          refine jr_aload_n (pc := 154) C L dX0_pass_154 rfl rfl ?_
          obtain ⟨v41, hv41, hyp⟩ := jbind hyp
          refine jr_getR (pc := 155) C S lf_X0_20 rfl hv41 dX0_pass_155 ?_
          refine jr_iload_n (pc := 158) C L dX0_pass_158 rfl rfl ?_
          obtain ⟨v42, hv42, hyp⟩ := jbind hyp
          refine jr_aal (pc := 159) C S (by decide) h_x2 hv42 dX0_pass_159 ?_
          refine jr_aload_n (pc := 160) C L dX0_pass_160 rfl rfl ?_
          obtain ⟨v43, hv43, hyp⟩ := jbind hyp
          refine jr_getR (pc := 161) C S lf_X0_11 rfl hv43 dX0_pass_161 ?_
          obtain ⟨q44, hq44, hyp⟩ := jbind hyp
          refine jr_callS_N (pc := 164) C S L (As := [jR B v42.toNat, jR B v43.toNat]) (rest := []) (c_X0_copy  hq44) ms_X0_copy ml_X0_67 (by omega) rfl rfl rfl (Nat.le_of_ble_eq_true rfl) ⟨Nat.le_refl 0, Nat.le_refl 0⟩ dX0_pass_164 (fun p45 H locs S => ?_)
          refine jr_aload_n (pc := 167) C L dX0_pass_167 rfl rfl ?_
          refine jr_iload (pc := 168) C L dX0_pass_168 rfl ?_
          refine jr_iload_n (pc := 170) C L dX0_pass_170 rfl rfl ?_
          refine jr_iconst (pc := 171) C dX0_pass_171 ?_
          refine jr_iadd (pc := 172) C dX0_pass_172 ?_
          obtain ⟨u46, hu46, hyp⟩ := jbind hyp
          obtain ⟨q47, hq47, hyp⟩ := jbind hyp
          refine jr_callV_N (pc := 173) C S L (As := [jI q13, jI (jw (x2 + 1))]) (rest := []) (hrec a0 q13 (jw (x2 + 1)) p14 (jIn_w _) q44 q47 hq47) mv_X0_pass ml_X0_48 rfl (jck_spec hu46) (by omega) rfl rfl rfl (Nat.le_of_ble_eq_true rfl) ⟨Nat.le_refl 0, Nat.le_refl 0⟩ dX0_pass_173 (fun p48 H locs S => ?_)
          refine jr_aload_n (pc := 176) C L dX0_pass_176 rfl rfl ?_
          refine jr_aload_n (pc := 177) C L dX0_pass_177 rfl rfl ?_
          obtain ⟨v49, hv49, hyp⟩ := jbind hyp
          refine jr_getR (pc := 178) C S lf_X0_23 rfl hv49 dX0_pass_178 ?_
          refine jr_iload_n (pc := 181) C L dX0_pass_181 rfl rfl ?_
          obtain ⟨v50, hv50, hyp⟩ := jbind hyp
          refine jr_aal (pc := 182) C S (by decide) h_x2 hv50 dX0_pass_182 ?_
          obtain ⟨u51, hu51, hyp⟩ := jbind hyp
          obtain ⟨q52, hq52, hyp⟩ := jbind hyp
          refine jr_callV_N (pc := 183) C S L (As := [jR B v50.toNat]) (rest := []) (c_X0_join  hq52) mv_X0_join ml_X0_71 rfl (jck_spec hu51) (by omega) rfl rfl rfl (Nat.le_of_ble_eq_true rfl) ⟨Nat.le_refl 0, Nat.le_refl 0⟩ dX0_pass_183 (fun p53 H locs S => ?_)
          refine jr_goto (pc := 186) C (tgt := 226) dX0_pass_186 (by decide) ?_
          cases hyp
          exact jr_vret C S trivial dX0_pass_226
        have hyp := (if_neg c27).symm.trans hyp
        by_cases c54 : (98 : Int) = q17
        · have hyp := (if_pos c54).symm.trans hyp
          refine jr_lookup (pc := 43) C p18 (off := 146) (tgt := 189) dX0_pass_43 rfl ((if_neg c19).trans ((if_neg c20).trans ((if_neg c27).trans (if_pos c54)))) (by decide) ?_
          exact t_X0_pass_b189 C hkr hrec  h_x2 p10 S (L.sub (jsub_s (jsub_n (jsub_s (jsub_s (jsub_n jsub_0)))))) hyp
        have hyp := (if_neg c54).symm.trans hyp
        by_cases c55 : (99 : Int) = q17
        · have hyp := (if_pos c55).symm.trans hyp
          refine jr_lookup (pc := 43) C p18 (off := 146) (tgt := 189) dX0_pass_43 rfl ((if_neg c19).trans ((if_neg c20).trans ((if_neg c27).trans ((if_neg c54).trans (if_pos c55))))) (by decide) ?_
          exact t_X0_pass_b189 C hkr hrec  h_x2 p10 S (L.sub (jsub_s (jsub_n (jsub_s (jsub_s (jsub_n jsub_0)))))) hyp
        have hyp := (if_neg c55).symm.trans hyp
        by_cases c56 : (100 : Int) = q17
        · have hyp := (if_pos c56).symm.trans hyp
          refine jr_lookup (pc := 43) C p18 (off := 146) (tgt := 189) dX0_pass_43 rfl ((if_neg c19).trans ((if_neg c20).trans ((if_neg c27).trans ((if_neg c54).trans ((if_neg c55).trans (if_pos c56)))))) (by decide) ?_
          exact t_X0_pass_b189 C hkr hrec  h_x2 p10 S (L.sub (jsub_s (jsub_n (jsub_s (jsub_s (jsub_n jsub_0)))))) hyp
        have hyp := (if_neg c56).symm.trans hyp
        refine jr_lookup (pc := 43) C p18 (off := 158) (tgt := 201) dX0_pass_43 rfl ((if_neg c19).trans ((if_neg c20).trans ((if_neg c27).trans ((if_neg c54).trans ((if_neg c55).trans ((if_neg c56).trans rfl)))))) (by decide) ?_
        refine jr_aload_n (pc := 201) C L dX0_pass_201 rfl rfl ?_
        obtain ⟨v57, hv57, hyp⟩ := jbind hyp
        refine jr_getR (pc := 202) C S lf_X0_11 rfl hv57 dX0_pass_202 ?_
        refine jr_aload_n (pc := 205) C L dX0_pass_205 rfl rfl ?_
        obtain ⟨v58, hv58, hyp⟩ := jbind hyp
        refine jr_getR (pc := 206) C S lf_X0_17 rfl hv58 dX0_pass_206 ?_
        refine jr_iload_n (pc := 209) C L dX0_pass_209 rfl rfl ?_
        obtain ⟨v59, hv59, hyp⟩ := jbind hyp
        refine jr_aal (pc := 210) C S (by decide) h_x1 hv59 dX0_pass_210 ?_
        obtain ⟨q60, hq60, hyp⟩ := jbind hyp
        refine jr_callS_N (pc := 211) C S L (As := [jR B v57.toNat, jR B v59.toNat]) (rest := []) (c_X0_copy  hq60) ms_X0_copy ml_X0_67 (by omega) rfl rfl rfl (Nat.le_of_ble_eq_true rfl) ⟨Nat.le_refl 0, Nat.le_refl 0⟩ dX0_pass_211 (fun p61 H locs S => ?_)
        refine jr_aload_n (pc := 214) C L dX0_pass_214 rfl rfl ?_
        refine jr_aload_n (pc := 215) C L dX0_pass_215 rfl rfl ?_
        obtain ⟨v62, hv62, hyp⟩ := jbind hyp
        refine jr_getR (pc := 216) C S lf_X0_36 rfl hv62 dX0_pass_216 ?_
        refine jr_iload_n (pc := 219) C L dX0_pass_219 rfl rfl ?_
        obtain ⟨u63, hu63, hyp⟩ := jbind hyp
        obtain ⟨q64, hq64, hyp⟩ := jbind hyp
        refine jr_callV_I (pc := 220) C S L (As := [jI x1]) (rest := [jR B a0]) (c_X10_lineAt (m0 := q60) h_x1 hq64) mv_X10_lineAt ml_X0_78 rfl (jck_spec hu63) (by omega) rfl rfl rfl (by simp [jR_cat, jI_cat]) ⟨Nat.le_refl 0, Nat.le_refl 0⟩ dX0_pass_220 (fun p65 H locs S => ?_)
        obtain ⟨u66, hu66, hyp⟩ := jbind hyp
        obtain ⟨q67, hq67, hyp⟩ := jbind hyp
        refine jr_callV_N (pc := 223) C S L (As := [jI q64]) (rest := []) (c_X0_fetch p65 hq67) mv_X0_fetch ml_X0_81 rfl (jck_spec hu66) (by omega) rfl rfl rfl (Nat.le_of_ble_eq_true rfl) ⟨Nat.le_refl 0, Nat.le_refl 0⟩ dX0_pass_223 (fun p68 H locs S => ?_)
        cases hyp
        exact jr_vret C S trivial dX0_pass_226
      · have hyp := (if_neg c6).symm.trans hyp
        cases hyp
        exact jr_vret C S trivial dX0_pass_15
theorem ce_X0_pass {l : Launch} {D : va_G} {cy : Nat → ClassId} {B sz : Nat} {sh : jm_S} {res : jm_M} {N : Nat} {rec : Nat → Int → Int → jm_M → Option jm_M} {kr : Nat} {m : jm_M} (hkr : 3 ≤ kr) (hrec : ∀ (a0 : Nat) (x1 : Int) (x2 : Int), jIn x1 → jIn x2 → ∀ (m : jm_M) (res : jm_M), rec a0 x1 x2 m = some res → jCt l D cy B sz sh kr yX0_pass cX0_pass 5 none [jR B a0, jI x1, jI x2] m none res True) {a0 : Nat} {x1 : Int} (h_x1 : jIn x1) {x2 : Int} (h_x2 : jIn x2) (hyp : f_X0_pass_e N sh rec a0 x1 x2 m = some res) : jCt l D cy B sz sh (kr + 3) yX0_pass cX0_pass 5 none [jR B a0, jI x1, jI x2] m none res True :=
  jc_of (by decide) (fun v h => by simp only [List.mem_cons, List.not_mem_nil, or_false] at h; rcases h with rfl | rfl | rfl <;> first | rfl | exact jR_cat _ _) (Nat.le_of_ble_eq_true rfl) (fun C S L => t_X0_pass_e C hkr hrec h_x1 h_x2 S L hyp)
theorem cd_X0_pass {l : Launch} {D : va_G} {cy : Nat → ClassId} {B sz : Nat} {sh : jm_S} {N : Nat} : ∀ (d : Nat) (a0 : Nat) (x1 : Int) (x2 : Int), jIn x1 → jIn x2 → ∀ (m : jm_M) (res : jm_M), f_X0_pass N sh d a0 x1 x2 m = some res → jCt l D cy B sz sh (3 + 3 * d) yX0_pass cX0_pass 5 none [jR B a0, jI x1, jI x2] m none res True := by
  intro d
  induction d with
  | zero => intro a0 x1 x2 h_x1 h_x2 m res hyp; cases hyp
  | succ d ih =>
    intro a0 x1 x2 h_x1 h_x2 m res hyp
    have h := ce_X0_pass (kr := 3 + 3 * d) (l := l) (D := D) (cy := cy) (B := B) (sz := sz) (by omega) ih h_x1 h_x2 hyp
    rwa [show 3 + 3 * d + 3 = 3 + 3 * (d + 1) by omega] at h
set_option maxHeartbeats 4000000 in
set_option maxRecDepth 100000 in
theorem t_X0_trace_b36 {p : Program} {l : Launch} {e : Env} {s : State} {mi : MethodId} {args : Array Value} {below : List Frame} {meth : Method} {c : Code} {D : va_G} {cy : Nat → ClassId} {B sz : Nat} {sh : jm_S} {res : jm_M} {N : Nat} {k7 : Nat → Int → jm_M → Option jm_M} (C : jCx p s mi args meth c cX0_trace 4 RX0 none D cy) (K7 : ∀ (a0 : Nat) (x2 : Int) , jIn x2 → ∀ (m : jm_M) (H : Heap) (locs : List Loc) (ls : Array Slot), jHs D cy B sz sh (jA B sz) s.heap H locs m → jL ls [some (jR B a0), none, some (jI x2), none] → k7 a0 x2 m = some res → W p l e (jrm 28 0 0) s mi args below meth c H locs 0 0 (MQ below (jQc D cy B sz sh res none True) args s 0 0 (jA B sz)) (F0 mi 7 ls [])) {a0 : Nat} {x2 : Int} (h_x2 : jIn x2) {s0 : Int} (h_s0 : jIn s0) {m : jm_M} {H : Heap} {locs : List Loc} {ls : Array Slot} (S : jHs D cy B sz sh (jA B sz) s.heap H locs m) (L : jL ls [some (jR B a0), none, some (jI x2), none]) (hyp : f_X0_trace_b36 N sh k7 a0 x2 s0 m = some res) : W p l e (jrm 28 0 0) s mi args below meth c H locs 0 0 (MQ below (jQc D cy B sz sh res none True) args s 0 0 (jA B sz)) (F0 mi 36 ls [jI s0]) := by
  unfold f_X0_trace_b36 at hyp
  refine jr_istore_n (pc := 36) C L dX0_trace_36 rfl (Nat.le_of_ble_eq_true rfl) (fun ls L => ?_)
  have L : jL ls [some (jR B a0), none, some (jI x2), some (jI s0)] := L
  refine jr_aload_n (pc := 37) C L dX0_trace_37 rfl rfl ?_
  obtain ⟨v1, hv1, hyp⟩ := jbind hyp
  refine jr_getR (pc := 38) C S lf_X0_11 rfl hv1 dX0_trace_38 ?_
  refine jr_iload_n (pc := 41) C L dX0_trace_41 rfl rfl ?_
  refine jr_iload_n (pc := 42) C L dX0_trace_42 rfl rfl ?_
  obtain ⟨m2, hm2, hyp⟩ := jbind hyp
  refine jr_ias (pc := 43) C S h_x2 h_s0 hm2 dX0_trace_43 (fun H locs S => ?_)
  refine jr_aload_n (pc := 44) C L dX0_trace_44 rfl rfl ?_
  obtain ⟨v3, hv3, hyp⟩ := jbind hyp
  refine jr_getR (pc := 45) C S lf_X0_11 rfl hv3 dX0_trace_45 ?_
  refine jr_bipush (pc := 48) C dX0_trace_48 (by decide) ?_
  refine jr_iload_n (pc := 50) C L dX0_trace_50 rfl rfl ?_
  refine jr_iadd (pc := 51) C dX0_trace_51 ?_
  refine jr_iload_n (pc := 52) C L dX0_trace_52 rfl rfl ?_
  obtain ⟨m4, hm4, hyp⟩ := jbind hyp
  refine jr_ias (pc := 53) C S (jIn_w _) h_s0 hm4 dX0_trace_53 (fun H locs S => ?_)
  refine jr_iinc (pc := 54) C L dX0_trace_54 rfl (Nat.le_of_ble_eq_true rfl) (fun ls L => ?_)
  have L : jL ls [some (jR B a0), none, some (jI (jw (x2 + 1))), some (jI s0)] := L
  refine jr_goto (pc := 57) C (tgt := 7) dX0_trace_57 (by decide) ?_
  exact K7 a0 (jw (x2 + 1)) (jIn_w _) m4 _ _ _ S (L.sub (jsub_s (jsub_n (jsub_s (jsub_n jsub_0))))) hyp
set_option maxHeartbeats 4000000 in
set_option maxRecDepth 100000 in
theorem t_X0_trace_b7 {p : Program} {l : Launch} {e : Env} {s : State} {mi : MethodId} {args : Array Value} {below : List Frame} {meth : Method} {c : Code} {D : va_G} {cy : Nat → ClassId} {B sz : Nat} {sh : jm_S} {res : jm_M} {N : Nat} {k7 : Nat → Int → jm_M → Option jm_M} (C : jCx p s mi args meth c cX0_trace 4 RX0 none D cy) (K7 : ∀ (a0 : Nat) (x2 : Int) , jIn x2 → ∀ (m : jm_M) (H : Heap) (locs : List Loc) (ls : Array Slot), jHs D cy B sz sh (jA B sz) s.heap H locs m → jL ls [some (jR B a0), none, some (jI x2), none] → k7 a0 x2 m = some res → W p l e (jrm 28 0 0) s mi args below meth c H locs 0 0 (MQ below (jQc D cy B sz sh res none True) args s 0 0 (jA B sz)) (F0 mi 7 ls [])) {a0 : Nat} {x2 : Int} (h_x2 : jIn x2) {m : jm_M} {H : Heap} {locs : List Loc} {ls : Array Slot} (S : jHs D cy B sz sh (jA B sz) s.heap H locs m) (L : jL ls [some (jR B a0), none, some (jI x2), none]) (hyp : f_X0_trace_b7 N sh k7 a0 x2 m = some res) : W p l e (jrm 28 0 0) s mi args below meth c H locs 0 0 (MQ below (jQc D cy B sz sh res none True) args s 0 0 (jA B sz)) (F0 mi 7 ls []) := by
  unfold f_X0_trace_b7 at hyp
  refine jr_iload_n (pc := 7) C L dX0_trace_7 rfl rfl ?_
  refine jr_bipush (pc := 8) C dX0_trace_8 (by decide) ?_
  refine jr_icmp_ge (pc := 10) C h_x2 (show jIn 8 from ⟨by decide, by decide⟩) (tgt := 60) dX0_trace_10 (by decide) (fun c5 => ?_) (fun c5 => ?_)
  · have hyp := (if_pos c5).symm.trans hyp
    refine jr_aload_n (pc := 13) C L dX0_trace_13 rfl rfl ?_
    obtain ⟨v6, hv6, hyp⟩ := jbind hyp
    refine jr_getR (pc := 14) C S lf_X0_26 rfl hv6 dX0_trace_14 ?_
    refine jr_iload_n (pc := 17) C L dX0_trace_17 rfl rfl ?_
    obtain ⟨u7, hu7, hyp⟩ := jbind hyp
    obtain ⟨q8, hq8, hyp⟩ := jbind hyp
    refine jr_callV_I (pc := 18) C S L (As := [jI x2]) (rest := []) (c_X1_holds (m0 := m) h_x2 hq8) mv_X1_holds ml_X0_40 rfl (jck_spec hu7) (by decide) rfl rfl rfl (Nat.le_of_ble_eq_true rfl) ⟨Nat.le_refl 0, Nat.le_refl 0⟩ dX0_trace_18 (fun p9 H locs S => ?_)
    refine jr_if_eq (pc := 21) C p9 (tgt := 28) dX0_trace_21 (by decide) (fun c10 => ?_) (fun c10 => ?_)
    · have hyp := (if_pos c10).symm.trans hyp
      refine jr_aload_n (pc := 28) C L dX0_trace_28 rfl rfl ?_
      obtain ⟨v11, hv11, hyp⟩ := jbind hyp
      refine jr_getR (pc := 29) C S lf_X0_26 rfl hv11 dX0_trace_29 ?_
      refine jr_iload_n (pc := 32) C L dX0_trace_32 rfl rfl ?_
      obtain ⟨u12, hu12, hyp⟩ := jbind hyp
      obtain ⟨q13, hq13, hyp⟩ := jbind hyp
      refine jr_callV_I (pc := 33) C S L (As := [jI x2]) (rest := []) (c_X1_roomFor (m0 := m) h_x2 hq13) mv_X1_roomFor ml_X0_44 rfl (jck_spec hu12) (by decide) rfl rfl rfl (Nat.le_of_ble_eq_true rfl) ⟨Nat.le_refl 0, Nat.le_refl 0⟩ dX0_trace_33 (fun p14 H locs S => ?_)
      exact t_X0_trace_b36 C  K7 h_x2 p14 S (L.sub (jsub_s (jsub_n (jsub_s (jsub_n jsub_0))))) hyp
    · have hyp := (if_neg c10).symm.trans hyp
      refine jr_iconst (pc := 24) C dX0_trace_24 ?_
      refine jr_goto (pc := 25) C (tgt := 36) dX0_trace_25 (by decide) ?_
      exact t_X0_trace_b36 C  K7 h_x2 (show jIn 0 from ⟨by decide, by decide⟩) S (L.sub (jsub_s (jsub_n (jsub_s (jsub_n jsub_0))))) hyp
  · have hyp := (if_neg c5).symm.trans hyp
    refine jr_aload_n (pc := 60) C L dX0_trace_60 rfl rfl ?_
    refine jr_iconst (pc := 61) C dX0_trace_61 ?_
    refine jr_iconst (pc := 62) C dX0_trace_62 ?_
    obtain ⟨u15, hu15, hyp⟩ := jbind hyp
    obtain ⟨q16, hq16, hyp⟩ := jbind hyp
    refine jr_callV_N (pc := 63) C S L (As := [jI 0, jI 0]) (rest := []) (cd_X0_pass 8 a0 0 0 (show jIn 0 from ⟨by decide, by decide⟩) (show jIn 0 from ⟨by decide, by decide⟩) m q16 hq16) mv_X0_pass ml_X0_48 rfl (jck_spec hu15) (by decide) rfl rfl rfl (Nat.le_of_ble_eq_true rfl) ⟨Nat.le_refl 0, Nat.le_refl 0⟩ dX0_trace_63 (fun p17 H locs S => ?_)
    cases hyp
    exact jr_vret C S trivial dX0_trace_66
theorem t_X0_trace_l7 {p : Program} {l : Launch} {e : Env} {s : State} {mi : MethodId} {args : Array Value} {below : List Frame} {meth : Method} {c : Code} {D : va_G} {cy : Nat → ClassId} {B sz : Nat} {sh : jm_S} {res : jm_M} {N : Nat} (C : jCx p s mi args meth c cX0_trace 4 RX0 none D cy) : ∀ (n : Nat) (a0 : Nat) (x2 : Int), jIn x2 → ∀ (m : jm_M) (H : Heap) (locs : List Loc) (ls : Array Slot), jHs D cy B sz sh (jA B sz) s.heap H locs m → jL ls [some (jR B a0), none, some (jI x2), none] → f_X0_trace_l7 N sh n a0 x2 m = some res → W p l e (jrm 28 0 0) s mi args below meth c H locs 0 0 (MQ below (jQc D cy B sz sh res none True) args s 0 0 (jA B sz)) (F0 mi 7 ls []) := by
  intro n
  induction n with
  | zero => intro a0 x2 h_x2 m H locs ls S L hyp; cases hyp
  | succ n ih => intro a0 x2 h_x2 m H locs ls S L hyp; exact t_X0_trace_b7 (N := N) C  ih h_x2 S L hyp
set_option maxHeartbeats 4000000 in
set_option maxRecDepth 100000 in
theorem t_X0_trace_e {p : Program} {l : Launch} {e : Env} {s : State} {mi : MethodId} {args : Array Value} {below : List Frame} {meth : Method} {c : Code} {D : va_G} {cy : Nat → ClassId} {B sz : Nat} {sh : jm_S} {res : jm_M} {N : Nat} (C : jCx p s mi args meth c cX0_trace 4 RX0 none D cy) {a0 : Nat} {a1 : Nat} {m : jm_M} {H : Heap} {locs : List Loc} {ls : Array Slot} (S : jHs D cy B sz sh (jA B sz) s.heap H locs m) (L : jL ls [some (jR B a0), some (jR B a1), none, none]) (hyp : f_X0_trace N sh a0 a1 m = some res) : W p l e (jrm 28 0 0) s mi args below meth c H locs 0 0 (MQ below (jQc D cy B sz sh res none True) args s 0 0 (jA B sz)) (F0 mi 0 ls []) := by
  unfold f_X0_trace at hyp
  refine jr_aload_n (pc := 0) C L dX0_trace_0 rfl rfl ?_
  refine jr_aload_n (pc := 1) C L dX0_trace_1 rfl rfl ?_
  obtain ⟨m18, hm18, hyp⟩ := jbind hyp
  refine jr_putW (pc := 2) C S lf_X0_36 fp_X0_0 rfl hm18 dX0_trace_2 (fun H locs S => ?_)
  refine jr_iconst (pc := 5) C dX0_trace_5 ?_
  refine jr_istore_n (pc := 6) C L dX0_trace_6 rfl (Nat.le_of_ble_eq_true rfl) (fun ls L => ?_)
  have L : jL ls [some (jR B a0), some (jR B a1), some (jI 0), none] := L
  exact t_X0_trace_l7 C   N a0 0 (show jIn 0 from ⟨by decide, by decide⟩) m18 _ _ _ S (L.sub (jsub_s (jsub_n (jsub_s (jsub_n jsub_0))))) hyp
theorem c_X0_trace {l : Launch} {D : va_G} {cy : Nat → ClassId} {B sz : Nat} {sh : jm_S} {res : jm_M} {N : Nat} {m : jm_M} {a0 : Nat} {a1 : Nat} (hyp : f_X0_trace N sh a0 a1 m = some res) : jCt l D cy B sz sh 28 yX0_trace cX0_trace 4 none [jR B a0, jR B a1] m none res True :=
  jc_of (by decide) (fun v h => by simp only [List.mem_cons, List.not_mem_nil, or_false] at h; rcases h with rfl | rfl <;> first | rfl | exact jR_cat _ _) (Nat.le_of_ble_eq_true rfl) (fun C S L => t_X0_trace_e C   S L hyp)
set_option maxHeartbeats 4000000 in
set_option maxRecDepth 100000 in
theorem t_X0_ageAt_b25 {p : Program} {l : Launch} {e : Env} {s : State} {mi : MethodId} {args : Array Value} {below : List Frame} {meth : Method} {c : Code} {D : va_G} {cy : Nat → ClassId} {B sz : Nat} {sh : jm_S} {res : Int} {m0 : jm_M} (C : jCx p s mi args meth c cX0_ageAt 4 RX0 (some .int) D cy) {a0 : Nat} {x1 : Int} (h_x1 : jIn x1) {x2 : Int} (h_x2 : jIn x2) {s0 : Int} (h_s0 : jIn s0) {H : Heap} {locs : List Loc} {ls : Array Slot} (S : jHs D cy B sz sh (jA B sz) s.heap H locs m0) (L : jL ls [some (jR B a0), some (jI x1), some (jI x2), none]) (hyp : f_X0_ageAt_b25 sh a0 x1 x2 s0 m0 = some res) : W p l e (jrm 0 0 0) s mi args below meth c H locs 0 0 (MQ below (jQc D cy B sz sh m0 (some (jI res)) (jIn res)) args s 0 0 (jA B sz)) (F0 mi 25 ls [jI s0]) := by
  unfold f_X0_ageAt_b25 at hyp
  refine jr_istore_n (pc := 25) C L dX0_ageAt_25 rfl (Nat.le_of_ble_eq_true rfl) (fun ls L => ?_)
  have L : jL ls [some (jR B a0), some (jI x1), some (jI x2), some (jI s0)] := L
  refine jr_iload_n (pc := 26) C L dX0_ageAt_26 rfl rfl ?_
  refine jr_if_eq (pc := 27) C h_s0 (tgt := 41) dX0_ageAt_27 (by decide) (fun c1 => ?_) (fun c1 => ?_)
  · have hyp := (if_pos c1).symm.trans hyp
    refine jr_iconst (pc := 41) C dX0_ageAt_41 ?_
    cases hyp
    exact jr_iret C S (show jIn 0 from ⟨by decide, by decide⟩) dX0_ageAt_42
  · have hyp := (if_neg c1).symm.trans hyp
    refine jr_aload_n (pc := 30) C L dX0_ageAt_30 rfl rfl ?_
    obtain ⟨v2, hv2, hyp⟩ := jbind hyp
    refine jr_getR (pc := 31) C S lf_X0_17 rfl hv2 dX0_ageAt_31 ?_
    refine jr_iload_n (pc := 34) C L dX0_ageAt_34 rfl rfl ?_
    obtain ⟨v3, hv3, hyp⟩ := jbind hyp
    refine jr_aal (pc := 35) C S (by decide) h_x1 hv3 dX0_ageAt_35 ?_
    refine jr_iload_n (pc := 36) C L dX0_ageAt_36 rfl rfl ?_
    obtain ⟨v4, hv4, hyp⟩ := jbind hyp
    have iv4 := jra_in S hv4
    refine jr_ial (pc := 37) C S h_x2 hv4 dX0_ageAt_37 ?_
    refine jr_goto (pc := 38) C (tgt := 42) dX0_ageAt_38 (by decide) ?_
    cases hyp
    exact jr_iret C S iv4 dX0_ageAt_42
set_option maxHeartbeats 4000000 in
set_option maxRecDepth 100000 in
theorem t_X0_ageAt_b24 {p : Program} {l : Launch} {e : Env} {s : State} {mi : MethodId} {args : Array Value} {below : List Frame} {meth : Method} {c : Code} {D : va_G} {cy : Nat → ClassId} {B sz : Nat} {sh : jm_S} {res : Int} {m0 : jm_M} (C : jCx p s mi args meth c cX0_ageAt 4 RX0 (some .int) D cy) {a0 : Nat} {x1 : Int} (h_x1 : jIn x1) {x2 : Int} (h_x2 : jIn x2) {H : Heap} {locs : List Loc} {ls : Array Slot} (S : jHs D cy B sz sh (jA B sz) s.heap H locs m0) (L : jL ls [some (jR B a0), some (jI x1), some (jI x2), none]) (hyp : f_X0_ageAt_b24 sh a0 x1 x2 m0 = some res) : W p l e (jrm 0 0 0) s mi args below meth c H locs 0 0 (MQ below (jQc D cy B sz sh m0 (some (jI res)) (jIn res)) args s 0 0 (jA B sz)) (F0 mi 24 ls []) := by
  unfold f_X0_ageAt_b24 at hyp
  refine jr_iconst (pc := 24) C dX0_ageAt_24 ?_
  exact t_X0_ageAt_b25 C   h_x1 h_x2 (show jIn 0 from ⟨by decide, by decide⟩) S (L.sub (jsub_s (jsub_s (jsub_s (jsub_n jsub_0))))) hyp
set_option maxHeartbeats 4000000 in
set_option maxRecDepth 100000 in
theorem t_X0_ageAt_e {p : Program} {l : Launch} {e : Env} {s : State} {mi : MethodId} {args : Array Value} {below : List Frame} {meth : Method} {c : Code} {D : va_G} {cy : Nat → ClassId} {B sz : Nat} {sh : jm_S} {res : Int} {m0 : jm_M} (C : jCx p s mi args meth c cX0_ageAt 4 RX0 (some .int) D cy) {a0 : Nat} {x1 : Int} (h_x1 : jIn x1) {x2 : Int} (h_x2 : jIn x2) {H : Heap} {locs : List Loc} {ls : Array Slot} (S : jHs D cy B sz sh (jA B sz) s.heap H locs m0) (L : jL ls [some (jR B a0), some (jI x1), some (jI x2), none]) (hyp : f_X0_ageAt sh a0 x1 x2 m0 = some res) : W p l e (jrm 0 0 0) s mi args below meth c H locs 0 0 (MQ below (jQc D cy B sz sh m0 (some (jI res)) (jIn res)) args s 0 0 (jA B sz)) (F0 mi 0 ls []) := by
  unfold f_X0_ageAt at hyp
  refine jr_iload_n (pc := 0) C L dX0_ageAt_0 rfl rfl ?_
  refine jr_if_lt (pc := 1) C h_x1 (tgt := 24) dX0_ageAt_1 (by decide) (fun c5 => ?_) (fun c5 => ?_)
  · have hyp := (if_pos c5).symm.trans hyp
    exact t_X0_ageAt_b24 C   h_x1 h_x2 S (L.sub (jsub_s (jsub_s (jsub_s (jsub_n jsub_0))))) hyp
  · have hyp := (if_neg c5).symm.trans hyp
    refine jr_iload_n (pc := 4) C L dX0_ageAt_4 rfl rfl ?_
    refine jr_bipush (pc := 5) C dX0_ageAt_5 (by decide) ?_
    refine jr_icmp_ge (pc := 7) C h_x1 (show jIn 30 from ⟨by decide, by decide⟩) (tgt := 24) dX0_ageAt_7 (by decide) (fun c6 => ?_) (fun c6 => ?_)
    · have hyp := (if_pos c6).symm.trans hyp
      refine jr_iload_n (pc := 10) C L dX0_ageAt_10 rfl rfl ?_
      refine jr_if_lt (pc := 11) C h_x2 (tgt := 24) dX0_ageAt_11 (by decide) (fun c7 => ?_) (fun c7 => ?_)
      · have hyp := (if_pos c7).symm.trans hyp
        exact t_X0_ageAt_b24 C   h_x1 h_x2 S (L.sub (jsub_s (jsub_s (jsub_s (jsub_n jsub_0))))) hyp
      · have hyp := (if_neg c7).symm.trans hyp
        refine jr_iload_n (pc := 14) C L dX0_ageAt_14 rfl rfl ?_
        refine jr_bipush (pc := 15) C dX0_ageAt_15 (by decide) ?_
        refine jr_icmp_ge (pc := 17) C h_x2 (show jIn 16 from ⟨by decide, by decide⟩) (tgt := 24) dX0_ageAt_17 (by decide) (fun c8 => ?_) (fun c8 => ?_)
        · have hyp := (if_pos c8).symm.trans hyp
          refine jr_iconst (pc := 20) C dX0_ageAt_20 ?_
          refine jr_goto (pc := 21) C (tgt := 25) dX0_ageAt_21 (by decide) ?_
          exact t_X0_ageAt_b25 C   h_x1 h_x2 (show jIn 1 from ⟨by decide, by decide⟩) S (L.sub (jsub_s (jsub_s (jsub_s (jsub_n jsub_0))))) hyp
        · have hyp := (if_neg c8).symm.trans hyp
          exact t_X0_ageAt_b24 C   h_x1 h_x2 S (L.sub (jsub_s (jsub_s (jsub_s (jsub_n jsub_0))))) hyp
    · have hyp := (if_neg c6).symm.trans hyp
      exact t_X0_ageAt_b24 C   h_x1 h_x2 S (L.sub (jsub_s (jsub_s (jsub_s (jsub_n jsub_0))))) hyp
theorem c_X0_ageAt {l : Launch} {D : va_G} {cy : Nat → ClassId} {B sz : Nat} {sh : jm_S} {res : Int} {m0 : jm_M} {a0 : Nat} {x1 : Int} (h_x1 : jIn x1) {x2 : Int} (h_x2 : jIn x2) (hyp : f_X0_ageAt sh a0 x1 x2 m0 = some res) : jCt l D cy B sz sh 0 yX0_ageAt cX0_ageAt 4 (some .int) [jR B a0, jI x1, jI x2] m0 (some (jI res)) m0 (jIn res) :=
  jc_of (by decide) (fun v h => by simp only [List.mem_cons, List.not_mem_nil, or_false] at h; rcases h with rfl | rfl | rfl <;> first | rfl | exact jR_cat _ _) (Nat.le_of_ble_eq_true rfl) (fun C S L => t_X0_ageAt_e C  h_x1 h_x2 S L hyp)
set_option maxHeartbeats 4000000 in
set_option maxRecDepth 100000 in
theorem t_X0_mustAt_e {p : Program} {l : Launch} {e : Env} {s : State} {mi : MethodId} {args : Array Value} {below : List Frame} {meth : Method} {c : Code} {D : va_G} {cy : Nat → ClassId} {B sz : Nat} {sh : jm_S} {res : Int} {m0 : jm_M} (C : jCx p s mi args meth c cX0_mustAt 3 RX0 (some .int) D cy) {a0 : Nat} {x1 : Int} (h_x1 : jIn x1) {x2 : Int} (h_x2 : jIn x2) {H : Heap} {locs : List Loc} {ls : Array Slot} (S : jHs D cy B sz sh (jA B sz) s.heap H locs m0) (L : jL ls [some (jR B a0), some (jI x1), some (jI x2)]) (hyp : f_X0_mustAt sh a0 x1 x2 m0 = some res) : W p l e (jrm 1 0 0) s mi args below meth c H locs 0 0 (MQ below (jQc D cy B sz sh m0 (some (jI res)) (jIn res)) args s 0 0 (jA B sz)) (F0 mi 0 ls []) := by
  unfold f_X0_mustAt at hyp
  refine jr_aload_n (pc := 0) C L dX0_mustAt_0 rfl rfl ?_
  refine jr_iload_n (pc := 1) C L dX0_mustAt_1 rfl rfl ?_
  refine jr_iload_n (pc := 2) C L dX0_mustAt_2 rfl rfl ?_
  obtain ⟨u1, hu1, hyp⟩ := jbind hyp
  obtain ⟨q2, hq2, hyp⟩ := jbind hyp
  refine jr_callV_I (pc := 3) C S L (As := [jI x1, jI x2]) (rest := []) (c_X0_ageAt (m0 := m0) h_x1 h_x2 hq2) mv_X0_ageAt ml_X0_52 rfl (jck_spec hu1) (by decide) rfl rfl rfl (Nat.le_of_ble_eq_true rfl) ⟨Nat.le_refl 0, Nat.le_refl 0⟩ dX0_mustAt_3 (fun p3 H locs S => ?_)
  cases hyp
  exact jr_iret C S p3 dX0_mustAt_6
theorem c_X0_mustAt {l : Launch} {D : va_G} {cy : Nat → ClassId} {B sz : Nat} {sh : jm_S} {res : Int} {m0 : jm_M} {a0 : Nat} {x1 : Int} (h_x1 : jIn x1) {x2 : Int} (h_x2 : jIn x2) (hyp : f_X0_mustAt sh a0 x1 x2 m0 = some res) : jCt l D cy B sz sh 1 yX0_mustAt cX0_mustAt 3 (some .int) [jR B a0, jI x1, jI x2] m0 (some (jI res)) m0 (jIn res) :=
  jc_of (by decide) (fun v h => by simp only [List.mem_cons, List.not_mem_nil, or_false] at h; rcases h with rfl | rfl | rfl <;> first | rfl | exact jR_cat _ _) (Nat.le_of_ble_eq_true rfl) (fun C S L => t_X0_mustAt_e C  h_x1 h_x2 S L hyp)
set_option maxHeartbeats 4000000 in
set_option maxRecDepth 100000 in
theorem t_X0_mayAt_e {p : Program} {l : Launch} {e : Env} {s : State} {mi : MethodId} {args : Array Value} {below : List Frame} {meth : Method} {c : Code} {D : va_G} {cy : Nat → ClassId} {B sz : Nat} {sh : jm_S} {res : Int} {m0 : jm_M} (C : jCx p s mi args meth c cX0_mayAt 3 RX0 (some .int) D cy) {a0 : Nat} {x1 : Int} (h_x1 : jIn x1) {x2 : Int} (h_x2 : jIn x2) {H : Heap} {locs : List Loc} {ls : Array Slot} (S : jHs D cy B sz sh (jA B sz) s.heap H locs m0) (L : jL ls [some (jR B a0), some (jI x1), some (jI x2)]) (hyp : f_X0_mayAt sh a0 x1 x2 m0 = some res) : W p l e (jrm 1 0 0) s mi args below meth c H locs 0 0 (MQ below (jQc D cy B sz sh m0 (some (jI res)) (jIn res)) args s 0 0 (jA B sz)) (F0 mi 0 ls []) := by
  unfold f_X0_mayAt at hyp
  refine jr_aload_n (pc := 0) C L dX0_mayAt_0 rfl rfl ?_
  refine jr_iload_n (pc := 1) C L dX0_mayAt_1 rfl rfl ?_
  refine jr_bipush (pc := 2) C dX0_mayAt_2 (by decide) ?_
  refine jr_iload_n (pc := 4) C L dX0_mayAt_4 rfl rfl ?_
  refine jr_iadd (pc := 5) C dX0_mayAt_5 ?_
  obtain ⟨u1, hu1, hyp⟩ := jbind hyp
  obtain ⟨q2, hq2, hyp⟩ := jbind hyp
  refine jr_callV_I (pc := 6) C S L (As := [jI x1, jI (jw (8 + x2))]) (rest := []) (c_X0_ageAt (m0 := m0) h_x1 (jIn_w _) hq2) mv_X0_ageAt ml_X0_52 rfl (jck_spec hu1) (by decide) rfl rfl rfl (Nat.le_of_ble_eq_true rfl) ⟨Nat.le_refl 0, Nat.le_refl 0⟩ dX0_mayAt_6 (fun p3 H locs S => ?_)
  cases hyp
  exact jr_iret C S p3 dX0_mayAt_9
theorem c_X0_mayAt {l : Launch} {D : va_G} {cy : Nat → ClassId} {B sz : Nat} {sh : jm_S} {res : Int} {m0 : jm_M} {a0 : Nat} {x1 : Int} (h_x1 : jIn x1) {x2 : Int} (h_x2 : jIn x2) (hyp : f_X0_mayAt sh a0 x1 x2 m0 = some res) : jCt l D cy B sz sh 1 yX0_mayAt cX0_mayAt 3 (some .int) [jR B a0, jI x1, jI x2] m0 (some (jI res)) m0 (jIn res) :=
  jc_of (by decide) (fun v h => by simp only [List.mem_cons, List.not_mem_nil, or_false] at h; rcases h with rfl | rfl | rfl <;> first | rfl | exact jR_cat _ _) (Nat.le_of_ble_eq_true rfl) (fun C S L => t_X0_mayAt_e C  h_x1 h_x2 S L hyp)
set_option maxHeartbeats 4000000 in
set_option maxRecDepth 100000 in
theorem t_X1_maySet_e {p : Program} {l : Launch} {e : Env} {s : State} {mi : MethodId} {args : Array Value} {below : List Frame} {meth : Method} {c : Code} {D : va_G} {cy : Nat → ClassId} {B sz : Nat} {sh : jm_S} {res : Int} {m0 : jm_M} (C : jCx p s mi args meth c cX1_maySet 2 RX1 (some .boolean) D cy) {x0 : Int} (h_x0 : jIn x0) {x1 : Int} (h_x1 : jIn x1) {H : Heap} {locs : List Loc} {ls : Array Slot} (S : jHs D cy B sz sh (jA B sz) s.heap H locs m0) (L : jL ls [some (jI x0), some (jI x1)]) (hyp : f_X1_maySet x0 x1 = some res) : W p l e (jrm 0 0 0) s mi args below meth c H locs 0 0 (MQ below (jQc D cy B sz sh m0 (some (jI res)) (jIn res)) args s 0 0 (jA B sz)) (F0 mi 0 ls []) := by
  unfold f_X1_maySet at hyp
  refine jr_iload_n (pc := 0) C L dX1_maySet_0 rfl rfl ?_
  by_cases c1 : (0 : Int) = x0
  · have hyp := (if_pos c1).symm.trans hyp
    refine jr_tableIn (pc := 1) C h_x0 c1 (off := 31) (tgt := 32) dX1_maySet_1 (by decide) (by decide) rfl (by decide) ?_
    refine jr_iload_n (pc := 32) C L dX1_maySet_32 rfl rfl ?_
    refine jr_iconst (pc := 33) C dX1_maySet_33 ?_
    refine jr_icmp_eq (pc := 34) C h_x1 (show jIn 1 from ⟨by decide, by decide⟩) (tgt := 47) dX1_maySet_34 (by decide) (fun c2 => ?_) (fun c2 => ?_)
    · have hyp := (if_pos c2).symm.trans hyp
      refine jr_iconst (pc := 47) C dX1_maySet_47 ?_
      refine jr_goto (pc := 48) C (tgt := 52) dX1_maySet_48 (by decide) ?_
      cases hyp
      exact jr_zret C S (show jIn 1 from ⟨by decide, by decide⟩) rfl dX1_maySet_52
    · have hyp := (if_neg c2).symm.trans hyp
      refine jr_iload_n (pc := 37) C L dX1_maySet_37 rfl rfl ?_
      refine jr_iconst (pc := 38) C dX1_maySet_38 ?_
      refine jr_icmp_eq (pc := 39) C h_x1 (show jIn 2 from ⟨by decide, by decide⟩) (tgt := 47) dX1_maySet_39 (by decide) (fun c3 => ?_) (fun c3 => ?_)
      · have hyp := (if_pos c3).symm.trans hyp
        refine jr_iconst (pc := 47) C dX1_maySet_47 ?_
        refine jr_goto (pc := 48) C (tgt := 52) dX1_maySet_48 (by decide) ?_
        cases hyp
        exact jr_zret C S (show jIn 1 from ⟨by decide, by decide⟩) rfl dX1_maySet_52
      · have hyp := (if_neg c3).symm.trans hyp
        refine jr_iload_n (pc := 42) C L dX1_maySet_42 rfl rfl ?_
        refine jr_iconst (pc := 43) C dX1_maySet_43 ?_
        refine jr_icmp_ne (pc := 44) C h_x1 (show jIn 4 from ⟨by decide, by decide⟩) (tgt := 51) dX1_maySet_44 (by decide) (fun c4 => ?_) (fun c4 => ?_)
        · have hyp := (if_pos c4).symm.trans hyp
          refine jr_iconst (pc := 47) C dX1_maySet_47 ?_
          refine jr_goto (pc := 48) C (tgt := 52) dX1_maySet_48 (by decide) ?_
          cases hyp
          exact jr_zret C S (show jIn 1 from ⟨by decide, by decide⟩) rfl dX1_maySet_52
        · have hyp := (if_neg c4).symm.trans hyp
          refine jr_iconst (pc := 51) C dX1_maySet_51 ?_
          cases hyp
          exact jr_zret C S (show jIn 0 from ⟨by decide, by decide⟩) rfl dX1_maySet_52
  have hyp := (if_neg c1).symm.trans hyp
  by_cases c5 : (1 : Int) = x0
  · have hyp := (if_pos c5).symm.trans hyp
    refine jr_tableIn (pc := 1) C h_x0 c5 (off := 52) (tgt := 53) dX1_maySet_1 (by decide) (by decide) rfl (by decide) ?_
    refine jr_iload_n (pc := 53) C L dX1_maySet_53 rfl rfl ?_
    refine jr_iconst (pc := 54) C dX1_maySet_54 ?_
    refine jr_icmp_eq (pc := 55) C h_x1 (show jIn 1 from ⟨by decide, by decide⟩) (tgt := 63) dX1_maySet_55 (by decide) (fun c6 => ?_) (fun c6 => ?_)
    · have hyp := (if_pos c6).symm.trans hyp
      refine jr_iconst (pc := 63) C dX1_maySet_63 ?_
      refine jr_goto (pc := 64) C (tgt := 68) dX1_maySet_64 (by decide) ?_
      cases hyp
      exact jr_zret C S (show jIn 1 from ⟨by decide, by decide⟩) rfl dX1_maySet_68
    · have hyp := (if_neg c6).symm.trans hyp
      refine jr_iload_n (pc := 58) C L dX1_maySet_58 rfl rfl ?_
      refine jr_iconst (pc := 59) C dX1_maySet_59 ?_
      refine jr_icmp_ne (pc := 60) C h_x1 (show jIn 2 from ⟨by decide, by decide⟩) (tgt := 67) dX1_maySet_60 (by decide) (fun c7 => ?_) (fun c7 => ?_)
      · have hyp := (if_pos c7).symm.trans hyp
        refine jr_iconst (pc := 63) C dX1_maySet_63 ?_
        refine jr_goto (pc := 64) C (tgt := 68) dX1_maySet_64 (by decide) ?_
        cases hyp
        exact jr_zret C S (show jIn 1 from ⟨by decide, by decide⟩) rfl dX1_maySet_68
      · have hyp := (if_neg c7).symm.trans hyp
        refine jr_iconst (pc := 67) C dX1_maySet_67 ?_
        cases hyp
        exact jr_zret C S (show jIn 0 from ⟨by decide, by decide⟩) rfl dX1_maySet_68
  have hyp := (if_neg c5).symm.trans hyp
  by_cases c8 : (2 : Int) = x0
  · have hyp := (if_pos c8).symm.trans hyp
    refine jr_tableIn (pc := 1) C h_x0 c8 (off := 68) (tgt := 69) dX1_maySet_1 (by decide) (by decide) rfl (by decide) ?_
    refine jr_iload_n (pc := 69) C L dX1_maySet_69 rfl rfl ?_
    refine jr_iconst (pc := 70) C dX1_maySet_70 ?_
    refine jr_icmp_lt (pc := 71) C h_x1 (show jIn 2 from ⟨by decide, by decide⟩) (tgt := 84) dX1_maySet_71 (by decide) (fun c9 => ?_) (fun c9 => ?_)
    · have hyp := (if_pos c9).symm.trans hyp
      refine jr_iconst (pc := 84) C dX1_maySet_84 ?_
      cases hyp
      exact jr_zret C S (show jIn 0 from ⟨by decide, by decide⟩) rfl dX1_maySet_85
    · have hyp := (if_neg c9).symm.trans hyp
      refine jr_iload_n (pc := 74) C L dX1_maySet_74 rfl rfl ?_
      refine jr_bipush (pc := 75) C dX1_maySet_75 (by decide) ?_
      refine jr_icmp_gt (pc := 77) C h_x1 (show jIn 20 from ⟨by decide, by decide⟩) (tgt := 84) dX1_maySet_77 (by decide) (fun c10 => ?_) (fun c10 => ?_)
      · have hyp := (if_pos c10).symm.trans hyp
        refine jr_iconst (pc := 84) C dX1_maySet_84 ?_
        cases hyp
        exact jr_zret C S (show jIn 0 from ⟨by decide, by decide⟩) rfl dX1_maySet_85
      · have hyp := (if_neg c10).symm.trans hyp
        refine jr_iconst (pc := 80) C dX1_maySet_80 ?_
        refine jr_goto (pc := 81) C (tgt := 85) dX1_maySet_81 (by decide) ?_
        cases hyp
        exact jr_zret C S (show jIn 1 from ⟨by decide, by decide⟩) rfl dX1_maySet_85
  have hyp := (if_neg c8).symm.trans hyp
  by_cases c11 : (3 : Int) = x0
  · have hyp := (if_pos c11).symm.trans hyp
    refine jr_tableIn (pc := 1) C h_x0 c11 (off := 85) (tgt := 86) dX1_maySet_1 (by decide) (by decide) rfl (by decide) ?_
    refine jr_iload_n (pc := 86) C L dX1_maySet_86 rfl rfl ?_
    refine jr_if_lt (pc := 87) C h_x1 (tgt := 101) dX1_maySet_87 (by decide) (fun c12 => ?_) (fun c12 => ?_)
    · have hyp := (if_pos c12).symm.trans hyp
      refine jr_iconst (pc := 101) C dX1_maySet_101 ?_
      cases hyp
      exact jr_zret C S (show jIn 0 from ⟨by decide, by decide⟩) rfl dX1_maySet_102
    · have hyp := (if_neg c12).symm.trans hyp
      refine jr_iload_n (pc := 90) C L dX1_maySet_90 rfl rfl ?_
      refine jr_sipush (pc := 91) C dX1_maySet_91 (by decide) ?_
      refine jr_icmp_gt (pc := 94) C h_x1 (show jIn 255 from ⟨by decide, by decide⟩) (tgt := 101) dX1_maySet_94 (by decide) (fun c13 => ?_) (fun c13 => ?_)
      · have hyp := (if_pos c13).symm.trans hyp
        refine jr_iconst (pc := 101) C dX1_maySet_101 ?_
        cases hyp
        exact jr_zret C S (show jIn 0 from ⟨by decide, by decide⟩) rfl dX1_maySet_102
      · have hyp := (if_neg c13).symm.trans hyp
        refine jr_iconst (pc := 97) C dX1_maySet_97 ?_
        refine jr_goto (pc := 98) C (tgt := 102) dX1_maySet_98 (by decide) ?_
        cases hyp
        exact jr_zret C S (show jIn 1 from ⟨by decide, by decide⟩) rfl dX1_maySet_102
  have hyp := (if_neg c11).symm.trans hyp
  refine jr_tableOut (pc := 1) C h_x0 (tgt := 103) dX1_maySet_1 (by omega) (by decide) ?_
  refine jr_iconst (pc := 103) C dX1_maySet_103 ?_
  cases hyp
  exact jr_zret C S (show jIn 0 from ⟨by decide, by decide⟩) rfl dX1_maySet_104
theorem c_X1_maySet {l : Launch} {D : va_G} {cy : Nat → ClassId} {B sz : Nat} {sh : jm_S} {res : Int} {m0 : jm_M} {x0 : Int} (h_x0 : jIn x0) {x1 : Int} (h_x1 : jIn x1) (hyp : f_X1_maySet x0 x1 = some res) : jCt l D cy B sz sh 0 yX1_maySet cX1_maySet 2 (some .boolean) [jI x0, jI x1] m0 (some (jI res)) m0 (jIn res) :=
  jc_of (by decide) (fun v h => by simp only [List.mem_cons, List.not_mem_nil, or_false] at h; rcases h with rfl | rfl <;> first | rfl | exact jR_cat _ _) (Nat.le_of_ble_eq_true rfl) (fun C S L => t_X1_maySet_e C  h_x0 h_x1 S L hyp)
set_option maxHeartbeats 4000000 in
set_option maxRecDepth 100000 in
theorem t_X1_setting_e {p : Program} {l : Launch} {e : Env} {s : State} {mi : MethodId} {args : Array Value} {below : List Frame} {meth : Method} {c : Code} {D : va_G} {cy : Nat → ClassId} {B sz : Nat} {sh : jm_S} {res : Int} {m0 : jm_M} (C : jCx p s mi args meth c cX1_setting 2 RX1 (some .int) D cy) {a0 : Nat} {x1 : Int} (h_x1 : jIn x1) {H : Heap} {locs : List Loc} {ls : Array Slot} (S : jHs D cy B sz sh (jA B sz) s.heap H locs m0) (L : jL ls [some (jR B a0), some (jI x1)]) (hyp : f_X1_setting sh a0 x1 m0 = some res) : W p l e (jrm 0 0 0) s mi args below meth c H locs 0 0 (MQ below (jQc D cy B sz sh m0 (some (jI res)) (jIn res)) args s 0 0 (jA B sz)) (F0 mi 0 ls []) := by
  unfold f_X1_setting at hyp
  refine jr_iload_n (pc := 0) C L dX1_setting_0 rfl rfl ?_
  refine jr_if_lt (pc := 1) C h_x1 (tgt := 22) dX1_setting_1 (by decide) (fun c1 => ?_) (fun c1 => ?_)
  · have hyp := (if_pos c1).symm.trans hyp
    refine jr_iconst (pc := 22) C dX1_setting_22 ?_
    cases hyp
    exact jr_iret C S (show jIn 0 from ⟨by decide, by decide⟩) dX1_setting_23
  · have hyp := (if_neg c1).symm.trans hyp
    refine jr_iload_n (pc := 4) C L dX1_setting_4 rfl rfl ?_
    refine jr_aload_n (pc := 5) C L dX1_setting_5 rfl rfl ?_
    obtain ⟨v2, hv2, hyp⟩ := jbind hyp
    refine jr_getR (pc := 6) C S lf_X1_9 rfl hv2 dX1_setting_6 ?_
    obtain ⟨v3, hv3, hyp⟩ := jbind hyp
    refine jr_alen (pc := 9) C S hv3 dX1_setting_9 ?_
    refine jr_icmp_ge (pc := 10) C h_x1 (jlen_in hv3) (tgt := 22) dX1_setting_10 (by decide) (fun c4 => ?_) (fun c4 => ?_)
    · have hyp := (if_pos c4).symm.trans hyp
      refine jr_aload_n (pc := 13) C L dX1_setting_13 rfl rfl ?_
      obtain ⟨v5, hv5, hyp⟩ := jbind hyp
      refine jr_getR (pc := 14) C S lf_X1_9 rfl hv5 dX1_setting_14 ?_
      refine jr_iload_n (pc := 17) C L dX1_setting_17 rfl rfl ?_
      obtain ⟨v6, hv6, hyp⟩ := jbind hyp
      have iv6 := jra_in S hv6
      refine jr_ial (pc := 18) C S h_x1 hv6 dX1_setting_18 ?_
      refine jr_goto (pc := 19) C (tgt := 23) dX1_setting_19 (by decide) ?_
      cases hyp
      exact jr_iret C S iv6 dX1_setting_23
    · have hyp := (if_neg c4).symm.trans hyp
      refine jr_iconst (pc := 22) C dX1_setting_22 ?_
      cases hyp
      exact jr_iret C S (show jIn 0 from ⟨by decide, by decide⟩) dX1_setting_23
theorem c_X1_setting {l : Launch} {D : va_G} {cy : Nat → ClassId} {B sz : Nat} {sh : jm_S} {res : Int} {m0 : jm_M} {a0 : Nat} {x1 : Int} (h_x1 : jIn x1) (hyp : f_X1_setting sh a0 x1 m0 = some res) : jCt l D cy B sz sh 0 yX1_setting cX1_setting 2 (some .int) [jR B a0, jI x1] m0 (some (jI res)) m0 (jIn res) :=
  jc_of (by decide) (fun v h => by simp only [List.mem_cons, List.not_mem_nil, or_false] at h; rcases h with rfl | rfl <;> first | rfl | exact jR_cat _ _) (Nat.le_of_ble_eq_true rfl) (fun C S L => t_X1_setting_e C  h_x1 S L hyp)
set_option maxHeartbeats 4000000 in
set_option maxRecDepth 100000 in
theorem t_X1_set_e {p : Program} {l : Launch} {e : Env} {s : State} {mi : MethodId} {args : Array Value} {below : List Frame} {meth : Method} {c : Code} {D : va_G} {cy : Nat → ClassId} {B sz : Nat} {sh : jm_S} {res : jm_M} (C : jCx p s mi args meth c cX1_set 3 RX1 none D cy) {a0 : Nat} {x1 : Int} (h_x1 : jIn x1) {x2 : Int} (h_x2 : jIn x2) {m : jm_M} {H : Heap} {locs : List Loc} {ls : Array Slot} (S : jHs D cy B sz sh (jA B sz) s.heap H locs m) (L : jL ls [some (jR B a0), some (jI x1), some (jI x2)]) (hyp : f_X1_set sh a0 x1 x2 m = some res) : W p l e (jrm 1 0 0) s mi args below meth c H locs 0 0 (MQ below (jQc D cy B sz sh res none True) args s 0 0 (jA B sz)) (F0 mi 0 ls []) := by
  unfold f_X1_set at hyp
  refine jr_iload_n (pc := 0) C L dX1_set_0 rfl rfl ?_
  refine jr_iload_n (pc := 1) C L dX1_set_1 rfl rfl ?_
  obtain ⟨q1, hq1, hyp⟩ := jbind hyp
  refine jr_callS_I (pc := 2) C S L (As := [jI x1, jI x2]) (rest := []) (c_X1_maySet (m0 := m) h_x1 h_x2 hq1) ms_X1_maySet ml_X1_37 (by decide) rfl rfl rfl (Nat.le_of_ble_eq_true rfl) ⟨Nat.le_refl 0, Nat.le_refl 0⟩ dX1_set_2 (fun p2 H locs S => ?_)
  refine jr_if_eq (pc := 5) C p2 (tgt := 28) dX1_set_5 (by decide) (fun c3 => ?_) (fun c3 => ?_)
  · have hyp := (if_pos c3).symm.trans hyp
    cases hyp
    exact jr_vret C S trivial dX1_set_28
  · have hyp := (if_neg c3).symm.trans hyp
    refine jr_iload_n (pc := 8) C L dX1_set_8 rfl rfl ?_
    refine jr_if_lt (pc := 9) C h_x1 (tgt := 28) dX1_set_9 (by decide) (fun c4 => ?_) (fun c4 => ?_)
    · have hyp := (if_pos c4).symm.trans hyp
      cases hyp
      exact jr_vret C S trivial dX1_set_28
    · have hyp := (if_neg c4).symm.trans hyp
      refine jr_iload_n (pc := 12) C L dX1_set_12 rfl rfl ?_
      refine jr_aload_n (pc := 13) C L dX1_set_13 rfl rfl ?_
      obtain ⟨v5, hv5, hyp⟩ := jbind hyp
      refine jr_getR (pc := 14) C S lf_X1_9 rfl hv5 dX1_set_14 ?_
      obtain ⟨v6, hv6, hyp⟩ := jbind hyp
      refine jr_alen (pc := 17) C S hv6 dX1_set_17 ?_
      refine jr_icmp_ge (pc := 18) C h_x1 (jlen_in hv6) (tgt := 28) dX1_set_18 (by decide) (fun c7 => ?_) (fun c7 => ?_)
      · have hyp := (if_pos c7).symm.trans hyp
        refine jr_aload_n (pc := 21) C L dX1_set_21 rfl rfl ?_
        obtain ⟨v8, hv8, hyp⟩ := jbind hyp
        refine jr_getR (pc := 22) C S lf_X1_9 rfl hv8 dX1_set_22 ?_
        refine jr_iload_n (pc := 25) C L dX1_set_25 rfl rfl ?_
        refine jr_iload_n (pc := 26) C L dX1_set_26 rfl rfl ?_
        obtain ⟨m9, hm9, hyp⟩ := jbind hyp
        refine jr_ias (pc := 27) C S h_x1 h_x2 hm9 dX1_set_27 (fun H locs S => ?_)
        cases hyp
        exact jr_vret C S trivial dX1_set_28
      · have hyp := (if_neg c7).symm.trans hyp
        cases hyp
        exact jr_vret C S trivial dX1_set_28
theorem c_X1_set {l : Launch} {D : va_G} {cy : Nat → ClassId} {B sz : Nat} {sh : jm_S} {res : jm_M} {m : jm_M} {a0 : Nat} {x1 : Int} (h_x1 : jIn x1) {x2 : Int} (h_x2 : jIn x2) (hyp : f_X1_set sh a0 x1 x2 m = some res) : jCt l D cy B sz sh 1 yX1_set cX1_set 3 none [jR B a0, jI x1, jI x2] m none res True :=
  jc_of (by decide) (fun v h => by simp only [List.mem_cons, List.not_mem_nil, or_false] at h; rcases h with rfl | rfl | rfl <;> first | rfl | exact jR_cat _ _) (Nat.le_of_ble_eq_true rfl) (fun C S L => t_X1_set_e C  h_x1 h_x2 S L hyp)
