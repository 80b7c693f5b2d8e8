set_option maxHeartbeats 4000000 in
set_option maxRecDepth 100000 in
theorem t_X1_textOf_e {p : Program} {l : Launch} {e : Env} {s : State} {mi : MethodId} {args : Array Value} {below : List Frame} {meth : Method} {c : Code} {D : va_G} {cy : Nat → ClassId} {B sz : Nat} {sh : jm_S} {res : Nat} {m0 : jm_M} (C : jCx p s mi args meth c cX1_textOf 2 RX1 (some (.object "LongestRuns$Text")) D cy) {a0 : Nat} {x1 : Int} (h_x1 : jIn x1) {H : Heap} {locs : List Loc} {ls : Array Slot} (S : jHs D cy B sz sh (jA B sz) s.heap H locs m0) (L : jL ls [some (jR B a0), some (jI x1)]) (hyp : f_X1_textOf sh a0 x1 m0 = some res) : W p l e (jrm 0 0 0) s mi args below meth c H locs 0 0 (MQ below (jQc D cy B sz sh m0 (some (jR B res)) True) args s 0 0 (jA B sz)) (F0 mi 0 ls []) := by
  unfold f_X1_textOf at hyp
  refine jr_iload_n (pc := 0) C L dX1_textOf_0 rfl rfl ?_
  by_cases c1 : (0 : Int) = x1
  · have hyp := (if_pos c1).symm.trans hyp
    refine jr_tableIn (pc := 1) C h_x1 c1 (off := 27) (tgt := 28) dX1_textOf_1 (by decide) (by decide) rfl (by decide) ?_
    refine jr_aload_n (pc := 28) C L dX1_textOf_28 rfl rfl ?_
    obtain ⟨v2, hv2, hyp⟩ := jbind hyp
    refine jr_getR (pc := 29) C S lf_X1_24 rfl hv2 dX1_textOf_29 ?_
    cases hyp
    exact jr_aret C (by first | exact Or.inl ⟨_, rfl⟩ | exact Or.inr ⟨_, rfl⟩) S trivial dX1_textOf_32
  have hyp := (if_neg c1).symm.trans hyp
  by_cases c3 : (1 : Int) = x1
  · have hyp := (if_pos c3).symm.trans hyp
    refine jr_tableIn (pc := 1) C h_x1 c3 (off := 32) (tgt := 33) dX1_textOf_1 (by decide) (by decide) rfl (by decide) ?_
    refine jr_aload_n (pc := 33) C L dX1_textOf_33 rfl rfl ?_
    obtain ⟨v4, hv4, hyp⟩ := jbind hyp
    refine jr_getR (pc := 34) C S lf_X1_28 rfl hv4 dX1_textOf_34 ?_
    cases hyp
    exact jr_aret C (by first | exact Or.inl ⟨_, rfl⟩ | exact Or.inr ⟨_, rfl⟩) S trivial dX1_textOf_37
  have hyp := (if_neg c3).symm.trans hyp
  by_cases c5 : (2 : Int) = x1
  · have hyp := (if_pos c5).symm.trans hyp
    refine jr_tableIn (pc := 1) C h_x1 c5 (off := 37) (tgt := 38) dX1_textOf_1 (by decide) (by decide) rfl (by decide) ?_
    refine jr_aload_n (pc := 38) C L dX1_textOf_38 rfl rfl ?_
    obtain ⟨v6, hv6, hyp⟩ := jbind hyp
    refine jr_getR (pc := 39) C S lf_X1_31 rfl hv6 dX1_textOf_39 ?_
    cases hyp
    exact jr_aret C (by first | exact Or.inl ⟨_, rfl⟩ | exact Or.inr ⟨_, rfl⟩) S trivial dX1_textOf_42
  have hyp := (if_neg c5).symm.trans hyp
  refine jr_tableOut (pc := 1) C h_x1 (tgt := 43) dX1_textOf_1 (by omega) (by decide) ?_
  refine jr_aload_n (pc := 43) C L dX1_textOf_43 rfl rfl ?_
  obtain ⟨v7, hv7, hyp⟩ := jbind hyp
  refine jr_getR (pc := 44) C S lf_X1_34 rfl hv7 dX1_textOf_44 ?_
  cases hyp
  exact jr_aret C (by first | exact Or.inl ⟨_, rfl⟩ | exact Or.inr ⟨_, rfl⟩) S trivial dX1_textOf_47
theorem c_X1_textOf {l : Launch} {D : va_G} {cy : Nat → ClassId} {B sz : Nat} {sh : jm_S} {res : Nat} {m0 : jm_M} {a0 : Nat} {x1 : Int} (h_x1 : jIn x1) (hyp : f_X1_textOf sh a0 x1 m0 = some res) : jCt l D cy B sz sh 0 yX1_textOf cX1_textOf 2 (some (.object "LongestRuns$Text")) [jR B a0, jI x1] m0 (some (jR B res)) m0 True :=
  jc_of (by decide) (fun v h => by simp only [List.mem_cons, List.not_mem_nil, or_false] at h; rcases h with rfl | rfl <;> first | rfl | exact jR_cat _ _) (Nat.le_of_ble_eq_true rfl) (fun C S L => t_X1_textOf_e C  h_x1 S L hyp)
set_option maxHeartbeats 4000000 in
set_option maxRecDepth 100000 in
theorem t_X1_periodOf_e {p : Program} {l : Launch} {e : Env} {s : State} {mi : MethodId} {args : Array Value} {below : List Frame} {meth : Method} {c : Code} {D : va_G} {cy : Nat → ClassId} {B sz : Nat} {sh : jm_S} {res : Int} {m0 : jm_M} (C : jCx p s mi args meth c cX1_periodOf 2 RX1 (some .int) D cy) {a0 : Nat} {x1 : Int} (h_x1 : jIn x1) {H : Heap} {locs : List Loc} {ls : Array Slot} (S : jHs D cy B sz sh (jA B sz) s.heap H locs m0) (L : jL ls [some (jR B a0), some (jI x1)]) (hyp : f_X1_periodOf sh a0 x1 m0 = some res) : W p l e (jrm 0 0 0) s mi args below meth c H locs 0 0 (MQ below (jQc D cy B sz sh m0 (some (jI res)) (jIn res)) args s 0 0 (jA B sz)) (F0 mi 0 ls []) := by
  unfold f_X1_periodOf at hyp
  refine jr_iload_n (pc := 0) C L dX1_periodOf_0 rfl rfl ?_
  refine jr_if_lt (pc := 1) C h_x1 (tgt := 22) dX1_periodOf_1 (by decide) (fun c1 => ?_) (fun c1 => ?_)
  · have hyp := (if_pos c1).symm.trans hyp
    refine jr_iconst (pc := 22) C dX1_periodOf_22 ?_
    cases hyp
    exact jr_iret C S (show jIn 0 from ⟨by decide, by decide⟩) dX1_periodOf_23
  · have hyp := (if_neg c1).symm.trans hyp
    refine jr_iload_n (pc := 4) C L dX1_periodOf_4 rfl rfl ?_
    refine jr_aload_n (pc := 5) C L dX1_periodOf_5 rfl rfl ?_
    obtain ⟨v2, hv2, hyp⟩ := jbind hyp
    refine jr_getR (pc := 6) C S lf_X1_15 rfl hv2 dX1_periodOf_6 ?_
    obtain ⟨v3, hv3, hyp⟩ := jbind hyp
    refine jr_alen (pc := 9) C S hv3 dX1_periodOf_9 ?_
    refine jr_icmp_ge (pc := 10) C h_x1 (jlen_in hv3) (tgt := 22) dX1_periodOf_10 (by decide) (fun c4 => ?_) (fun c4 => ?_)
    · have hyp := (if_pos c4).symm.trans hyp
      refine jr_aload_n (pc := 13) C L dX1_periodOf_13 rfl rfl ?_
      obtain ⟨v5, hv5, hyp⟩ := jbind hyp
      refine jr_getR (pc := 14) C S lf_X1_15 rfl hv5 dX1_periodOf_14 ?_
      refine jr_iload_n (pc := 17) C L dX1_periodOf_17 rfl rfl ?_
      obtain ⟨v6, hv6, hyp⟩ := jbind hyp
      have iv6 := jra_in S hv6
      refine jr_ial (pc := 18) C S h_x1 hv6 dX1_periodOf_18 ?_
      refine jr_goto (pc := 19) C (tgt := 23) dX1_periodOf_19 (by decide) ?_
      cases hyp
      exact jr_iret C S iv6 dX1_periodOf_23
    · have hyp := (if_neg c4).symm.trans hyp
      refine jr_iconst (pc := 22) C dX1_periodOf_22 ?_
      cases hyp
      exact jr_iret C S (show jIn 0 from ⟨by decide, by decide⟩) dX1_periodOf_23
theorem c_X1_periodOf {l : Launch} {D : va_G} {cy : Nat → ClassId} {B sz : Nat} {sh : jm_S} {res : Int} {m0 : jm_M} {a0 : Nat} {x1 : Int} (h_x1 : jIn x1) (hyp : f_X1_periodOf sh a0 x1 m0 = some res) : jCt l D cy B sz sh 0 yX1_periodOf cX1_periodOf 2 (some .int) [jR B a0, jI x1] m0 (some (jI res)) m0 (jIn res) :=
  jc_of (by decide) (fun v h => by simp only [List.mem_cons, List.not_mem_nil, or_false] at h; rcases h with rfl | rfl <;> first | rfl | exact jR_cat _ _) (Nat.le_of_ble_eq_true rfl) (fun C S L => t_X1_periodOf_e C  h_x1 S L hyp)
set_option maxHeartbeats 4000000 in
set_option maxRecDepth 100000 in
theorem t_X1_setPeriod_e {p : Program} {l : Launch} {e : Env} {s : State} {mi : MethodId} {args : Array Value} {below : List Frame} {meth : Method} {c : Code} {D : va_G} {cy : Nat → ClassId} {B sz : Nat} {sh : jm_S} {res : jm_M} (C : jCx p s mi args meth c cX1_setPeriod 3 RX1 none D cy) {a0 : Nat} {x1 : Int} (h_x1 : jIn x1) {x2 : Int} (h_x2 : jIn x2) {m : jm_M} {H : Heap} {locs : List Loc} {ls : Array Slot} (S : jHs D cy B sz sh (jA B sz) s.heap H locs m) (L : jL ls [some (jR B a0), some (jI x1), some (jI x2)]) (hyp : f_X1_setPeriod sh a0 x1 x2 m = some res) : W p l e (jrm 0 0 0) s mi args below meth c H locs 0 0 (MQ below (jQc D cy B sz sh res none True) args s 0 0 (jA B sz)) (F0 mi 0 ls []) := by
  unfold f_X1_setPeriod at hyp
  refine jr_iload_n (pc := 0) C L dX1_setPeriod_0 rfl rfl ?_
  refine jr_if_lt (pc := 1) C h_x1 (tgt := 20) dX1_setPeriod_1 (by decide) (fun c1 => ?_) (fun c1 => ?_)
  · have hyp := (if_pos c1).symm.trans hyp
    cases hyp
    exact jr_vret C S trivial dX1_setPeriod_20
  · have hyp := (if_neg c1).symm.trans hyp
    refine jr_iload_n (pc := 4) C L dX1_setPeriod_4 rfl rfl ?_
    refine jr_aload_n (pc := 5) C L dX1_setPeriod_5 rfl rfl ?_
    obtain ⟨v2, hv2, hyp⟩ := jbind hyp
    refine jr_getR (pc := 6) C S lf_X1_15 rfl hv2 dX1_setPeriod_6 ?_
    obtain ⟨v3, hv3, hyp⟩ := jbind hyp
    refine jr_alen (pc := 9) C S hv3 dX1_setPeriod_9 ?_
    refine jr_icmp_ge (pc := 10) C h_x1 (jlen_in hv3) (tgt := 20) dX1_setPeriod_10 (by decide) (fun c4 => ?_) (fun c4 => ?_)
    · have hyp := (if_pos c4).symm.trans hyp
      refine jr_aload_n (pc := 13) C L dX1_setPeriod_13 rfl rfl ?_
      obtain ⟨v5, hv5, hyp⟩ := jbind hyp
      refine jr_getR (pc := 14) C S lf_X1_15 rfl hv5 dX1_setPeriod_14 ?_
      refine jr_iload_n (pc := 17) C L dX1_setPeriod_17 rfl rfl ?_
      refine jr_iload_n (pc := 18) C L dX1_setPeriod_18 rfl rfl ?_
      obtain ⟨m6, hm6, hyp⟩ := jbind hyp
      refine jr_ias (pc := 19) C S h_x1 h_x2 hm6 dX1_setPeriod_19 (fun H locs S => ?_)
      cases hyp
      exact jr_vret C S trivial dX1_setPeriod_20
    · have hyp := (if_neg c4).symm.trans hyp
      cases hyp
      exact jr_vret C S trivial dX1_setPeriod_20
theorem c_X1_setPeriod {l : Launch} {D : va_G} {cy : Nat → ClassId} {B sz : Nat} {sh : jm_S} {res : jm_M} {m : jm_M} {a0 : Nat} {x1 : Int} (h_x1 : jIn x1) {x2 : Int} (h_x2 : jIn x2) (hyp : f_X1_setPeriod sh a0 x1 x2 m = some res) : jCt l D cy B sz sh 0 yX1_setPeriod cX1_setPeriod 3 none [jR B a0, jI x1, jI x2] m none res True :=
  jc_of (by decide) (fun v h => by simp only [List.mem_cons, List.not_mem_nil, or_false] at h; rcases h with rfl | rfl | rfl <;> first | rfl | exact jR_cat _ _) (Nat.le_of_ble_eq_true rfl) (fun C S L => t_X1_setPeriod_e C  h_x1 h_x2 S L hyp)
set_option maxHeartbeats 4000000 in
set_option maxRecDepth 100000 in
theorem t_X1_isTask_e {p : Program} {l : Launch} {e : Env} {s : State} {mi : MethodId} {args : Array Value} {below : List Frame} {meth : Method} {c : Code} {D : va_G} {cy : Nat → ClassId} {B sz : Nat} {sh : jm_S} {res : Int} {m0 : jm_M} (C : jCx p s mi args meth c cX1_isTask 2 RX1 (some .boolean) D cy) {a0 : Nat} {x1 : Int} (h_x1 : jIn x1) {H : Heap} {locs : List Loc} {ls : Array Slot} (S : jHs D cy B sz sh (jA B sz) s.heap H locs m0) (L : jL ls [some (jR B a0), some (jI x1)]) (hyp : f_X1_isTask sh a0 x1 m0 = some res) : W p l e (jrm 1 0 0) s mi args below meth c H locs 0 0 (MQ below (jQc D cy B sz sh m0 (some (jI res)) (jIn res)) args s 0 0 (jA B sz)) (F0 mi 0 ls []) := by
  unfold f_X1_isTask at hyp
  refine jr_aload_n (pc := 0) C L dX1_isTask_0 rfl rfl ?_
  refine jr_iload_n (pc := 1) C L dX1_isTask_1 rfl rfl ?_
  obtain ⟨u1, hu1, hyp⟩ := jbind hyp
  obtain ⟨q2, hq2, hyp⟩ := jbind hyp
  refine jr_callV_I (pc := 2) C S L (As := [jI x1]) (rest := []) (c_X1_periodOf (m0 := m0) h_x1 hq2) mv_X1_periodOf ml_X1_57 rfl (jck_spec hu1) (by decide) rfl rfl rfl (Nat.le_of_ble_eq_true rfl) ⟨Nat.le_refl 0, Nat.le_refl 0⟩ dX1_isTask_2 (fun p3 H locs S => ?_)
  refine jr_if_le (pc := 5) C p3 (tgt := 12) dX1_isTask_5 (by decide) (fun c4 => ?_) (fun c4 => ?_)
  · have hyp := (if_pos c4).symm.trans hyp
    refine jr_iconst (pc := 8) C dX1_isTask_8 ?_
    refine jr_goto (pc := 9) C (tgt := 13) dX1_isTask_9 (by decide) ?_
    cases hyp
    exact jr_zret C S (show jIn 1 from ⟨by decide, by decide⟩) rfl dX1_isTask_13
  · have hyp := (if_neg c4).symm.trans hyp
    refine jr_iconst (pc := 12) C dX1_isTask_12 ?_
    cases hyp
    exact jr_zret C S (show jIn 0 from ⟨by decide, by decide⟩) rfl dX1_isTask_13
theorem c_X1_isTask {l : Launch} {D : va_G} {cy : Nat → ClassId} {B sz : Nat} {sh : jm_S} {res : Int} {m0 : jm_M} {a0 : Nat} {x1 : Int} (h_x1 : jIn x1) (hyp : f_X1_isTask sh a0 x1 m0 = some res) : jCt l D cy B sz sh 1 yX1_isTask cX1_isTask 2 (some .boolean) [jR B a0, jI x1] m0 (some (jI res)) m0 (jIn res) :=
  jc_of (by decide) (fun v h => by simp only [List.mem_cons, List.not_mem_nil, or_false] at h; rcases h with rfl | rfl <;> first | rfl | exact jR_cat _ _) (Nat.le_of_ble_eq_true rfl) (fun C S L => t_X1_isTask_e C  h_x1 S L hyp)
set_option maxHeartbeats 4000000 in
set_option maxRecDepth 100000 in
theorem t_X1_addDigit_e {p : Program} {l : Launch} {e : Env} {s : State} {mi : MethodId} {args : Array Value} {below : List Frame} {meth : Method} {c : Code} {D : va_G} {cy : Nat → ClassId} {B sz : Nat} {sh : jm_S} {res : (Int × jm_M)} (C : jCx p s mi args meth c cX1_addDigit 2 RX1 (some .boolean) D cy) {a0 : Nat} {x1 : Int} (h_x1 : jIn x1) {m : jm_M} {H : Heap} {locs : List Loc} {ls : Array Slot} (S : jHs D cy B sz sh (jA B sz) s.heap H locs m) (L : jL ls [some (jR B a0), some (jI x1)]) (hyp : f_X1_addDigit sh a0 x1 m = some res) : W p l e (jrm 0 0 0) s mi args below meth c H locs 0 0 (MQ below (jQc D cy B sz sh res.2 (some (jI res.1)) (jIn res.1)) args s 0 0 (jA B sz)) (F0 mi 0 ls []) := by
  unfold f_X1_addDigit at hyp
  refine jr_aload_n (pc := 0) C L dX1_addDigit_0 rfl rfl ?_
  obtain ⟨v1, hv1, hyp⟩ := jbind hyp
  have iv1 := jrf_in S hv1
  refine jr_getI (pc := 1) C S lf_X1_60 rfl hv1 dX1_addDigit_1 ?_
  refine jr_aload_n (pc := 4) C L dX1_addDigit_4 rfl rfl ?_
  obtain ⟨v2, hv2, hyp⟩ := jbind hyp
  refine jr_getR (pc := 5) C S lf_X1_18 rfl hv2 dX1_addDigit_5 ?_
  obtain ⟨v3, hv3, hyp⟩ := jbind hyp
  refine jr_alen (pc := 8) C S hv3 dX1_addDigit_8 ?_
  refine jr_icmp_lt (pc := 9) C iv1 (jlen_in hv3) (tgt := 14) dX1_addDigit_9 (by decide) (fun c4 => ?_) (fun c4 => ?_)
  · have hyp := (if_pos c4).symm.trans hyp
    refine jr_aload_n (pc := 14) C L dX1_addDigit_14 rfl rfl ?_
    obtain ⟨v5, hv5, hyp⟩ := jbind hyp
    refine jr_getR (pc := 15) C S lf_X1_18 rfl hv5 dX1_addDigit_15 ?_
    refine jr_aload_n (pc := 18) C L dX1_addDigit_18 rfl rfl ?_
    obtain ⟨v6, hv6, hyp⟩ := jbind hyp
    have iv6 := jrf_in S hv6
    refine jr_getI (pc := 19) C S lf_X1_60 rfl hv6 dX1_addDigit_19 ?_
    refine jr_iload_n (pc := 22) C L dX1_addDigit_22 rfl rfl ?_
    obtain ⟨m7, hm7, hyp⟩ := jbind hyp
    refine jr_ias (pc := 23) C S iv6 h_x1 hm7 dX1_addDigit_23 (fun H locs S => ?_)
    refine jr_aload_n (pc := 24) C L dX1_addDigit_24 rfl rfl ?_
    refine jr_dupR (pc := 25) C dX1_addDigit_25 ?_
    obtain ⟨v8, hv8, hyp⟩ := jbind hyp
    have iv8 := jrf_in S hv8
    refine jr_getI (pc := 26) C S lf_X1_60 rfl hv8 dX1_addDigit_26 ?_
    refine jr_iconst (pc := 29) C dX1_addDigit_29 ?_
    refine jr_iadd (pc := 30) C dX1_addDigit_30 ?_
    obtain ⟨m9, hm9, hyp⟩ := jbind hyp
    refine jr_putI (pc := 31) C S lf_X1_60 fp_X1_0 rfl (jIn_w _) hm9 dX1_addDigit_31 (fun H locs S => ?_)
    refine jr_iconst (pc := 34) C dX1_addDigit_34 ?_
    cases hyp
    exact jr_zret C S (show jIn 1 from ⟨by decide, by decide⟩) rfl dX1_addDigit_35
  · have hyp := (if_neg c4).symm.trans hyp
    refine jr_iconst (pc := 12) C dX1_addDigit_12 ?_
    cases hyp
    exact jr_zret C S (show jIn 0 from ⟨by decide, by decide⟩) rfl dX1_addDigit_13
theorem c_X1_addDigit {l : Launch} {D : va_G} {cy : Nat → ClassId} {B sz : Nat} {sh : jm_S} {res : (Int × jm_M)} {m : jm_M} {a0 : Nat} {x1 : Int} (h_x1 : jIn x1) (hyp : f_X1_addDigit sh a0 x1 m = some res) : jCt l D cy B sz sh 0 yX1_addDigit cX1_addDigit 2 (some .boolean) [jR B a0, jI x1] m (some (jI res.1)) res.2 (jIn res.1) :=
  jc_of (by decide) (fun v h => by simp only [List.mem_cons, List.not_mem_nil, or_false] at h; rcases h with rfl | rfl <;> first | rfl | exact jR_cat _ _) (Nat.le_of_ble_eq_true rfl) (fun C S L => t_X1_addDigit_e C  h_x1 S L hyp)
set_option maxHeartbeats 4000000 in
set_option maxRecDepth 100000 in
theorem t_X1_digitAt_e {p : Program} {l : Launch} {e : Env} {s : State} {mi : MethodId} {args : Array Value} {below : List Frame} {meth : Method} {c : Code} {D : va_G} {cy : Nat → ClassId} {B sz : Nat} {sh : jm_S} {res : Int} {m0 : jm_M} (C : jCx p s mi args meth c cX1_digitAt 2 RX1 (some .int) D cy) {a0 : Nat} {x1 : Int} (h_x1 : jIn x1) {H : Heap} {locs : List Loc} {ls : Array Slot} (S : jHs D cy B sz sh (jA B sz) s.heap H locs m0) (L : jL ls [some (jR B a0), some (jI x1)]) (hyp : f_X1_digitAt sh a0 x1 m0 = some res) : W p l e (jrm 0 0 0) s mi args below meth c H locs 0 0 (MQ below (jQc D cy B sz sh m0 (some (jI res)) (jIn res)) args s 0 0 (jA B sz)) (F0 mi 0 ls []) := by
  unfold f_X1_digitAt at hyp
  refine jr_iload_n (pc := 0) C L dX1_digitAt_0 rfl rfl ?_
  refine jr_if_lt (pc := 1) C h_x1 (tgt := 30) dX1_digitAt_1 (by decide) (fun c1 => ?_) (fun c1 => ?_)
  · have hyp := (if_pos c1).symm.trans hyp
    refine jr_iconst (pc := 30) C dX1_digitAt_30 ?_
    cases hyp
    exact jr_iret C S (show jIn 0 from ⟨by decide, by decide⟩) dX1_digitAt_31
  · have hyp := (if_neg c1).symm.trans hyp
    refine jr_iload_n (pc := 4) C L dX1_digitAt_4 rfl rfl ?_
    refine jr_aload_n (pc := 5) C L dX1_digitAt_5 rfl rfl ?_
    obtain ⟨v2, hv2, hyp⟩ := jbind hyp
    have iv2 := jrf_in S hv2
    refine jr_getI (pc := 6) C S lf_X1_60 rfl hv2 dX1_digitAt_6 ?_
    refine jr_icmp_ge (pc := 9) C h_x1 iv2 (tgt := 30) dX1_digitAt_9 (by decide) (fun c3 => ?_) (fun c3 => ?_)
    · have hyp := (if_pos c3).symm.trans hyp
      refine jr_iload_n (pc := 12) C L dX1_digitAt_12 rfl rfl ?_
      refine jr_aload_n (pc := 13) C L dX1_digitAt_13 rfl rfl ?_
      obtain ⟨v4, hv4, hyp⟩ := jbind hyp
      refine jr_getR (pc := 14) C S lf_X1_18 rfl hv4 dX1_digitAt_14 ?_
      obtain ⟨v5, hv5, hyp⟩ := jbind hyp
      refine jr_alen (pc := 17) C S hv5 dX1_digitAt_17 ?_
      refine jr_icmp_ge (pc := 18) C h_x1 (jlen_in hv5) (tgt := 30) dX1_digitAt_18 (by decide) (fun c6 => ?_) (fun c6 => ?_)
      · have hyp := (if_pos c6).symm.trans hyp
        refine jr_aload_n (pc := 21) C L dX1_digitAt_21 rfl rfl ?_
        obtain ⟨v7, hv7, hyp⟩ := jbind hyp
        refine jr_getR (pc := 22) C S lf_X1_18 rfl hv7 dX1_digitAt_22 ?_
        refine jr_iload_n (pc := 25) C L dX1_digitAt_25 rfl rfl ?_
        obtain ⟨v8, hv8, hyp⟩ := jbind hyp
        have iv8 := jra_in S hv8
        refine jr_ial (pc := 26) C S h_x1 hv8 dX1_digitAt_26 ?_
        refine jr_goto (pc := 27) C (tgt := 31) dX1_digitAt_27 (by decide) ?_
        cases hyp
        exact jr_iret C S iv8 dX1_digitAt_31
      · have hyp := (if_neg c6).symm.trans hyp
        refine jr_iconst (pc := 30) C dX1_digitAt_30 ?_
        cases hyp
        exact jr_iret C S (show jIn 0 from ⟨by decide, by decide⟩) dX1_digitAt_31
    · have hyp := (if_neg c3).symm.trans hyp
      refine jr_iconst (pc := 30) C dX1_digitAt_30 ?_
      cases hyp
      exact jr_iret C S (show jIn 0 from ⟨by decide, by decide⟩) dX1_digitAt_31
theorem c_X1_digitAt {l : Launch} {D : va_G} {cy : Nat → ClassId} {B sz : Nat} {sh : jm_S} {res : Int} {m0 : jm_M} {a0 : Nat} {x1 : Int} (h_x1 : jIn x1) (hyp : f_X1_digitAt sh a0 x1 m0 = some res) : jCt l D cy B sz sh 0 yX1_digitAt cX1_digitAt 2 (some .int) [jR B a0, jI x1] m0 (some (jI res)) m0 (jIn res) :=
  jc_of (by decide) (fun v h => by simp only [List.mem_cons, List.not_mem_nil, or_false] at h; rcases h with rfl | rfl <;> first | rfl | exact jR_cat _ _) (Nat.le_of_ble_eq_true rfl) (fun C S L => t_X1_digitAt_e C  h_x1 S L hyp)
set_option maxHeartbeats 4000000 in
set_option maxRecDepth 100000 in
theorem t_X11_isLineSign_e {p : Program} {l : Launch} {e : Env} {s : State} {mi : MethodId} {args : Array Value} {below : List Frame} {meth : Method} {c : Code} {D : va_G} {cy : Nat → ClassId} {B sz : Nat} {sh : jm_S} {res : Int} {m0 : jm_M} (C : jCx p s mi args meth c cX11_isLineSign 1 RX11 (some .boolean) D cy) {x0 : Int} (h_x0 : jIn x0) {H : Heap} {locs : List Loc} {ls : Array Slot} (S : jHs D cy B sz sh (jA B sz) s.heap H locs m0) (L : jL ls [some (jI x0)]) (hyp : f_X11_isLineSign x0 = some res) : W p l e (jrm 0 0 0) s mi args below meth c H locs 0 0 (MQ below (jQc D cy B sz sh m0 (some (jI res)) (jIn res)) args s 0 0 (jA B sz)) (F0 mi 0 ls []) := by
  unfold f_X11_isLineSign at hyp
  refine jr_iload_n (pc := 0) C L dX11_isLineSign_0 rfl rfl ?_
  refine jr_bipush (pc := 1) C dX11_isLineSign_1 (by decide) ?_
  refine jr_icmp_lt (pc := 3) C h_x0 (show jIn 48 from ⟨by decide, by decide⟩) (tgt := 16) dX11_isLineSign_3 (by decide) (fun c1 => ?_) (fun c1 => ?_)
  · have hyp := (if_pos c1).symm.trans hyp
    refine jr_iconst (pc := 16) C dX11_isLineSign_16 ?_
    cases hyp
    exact jr_zret C S (show jIn 0 from ⟨by decide, by decide⟩) rfl dX11_isLineSign_17
  · have hyp := (if_neg c1).symm.trans hyp
    refine jr_iload_n (pc := 6) C L dX11_isLineSign_6 rfl rfl ?_
    refine jr_bipush (pc := 7) C dX11_isLineSign_7 (by decide) ?_
    refine jr_icmp_gt (pc := 9) C h_x0 (show jIn 55 from ⟨by decide, by decide⟩) (tgt := 16) dX11_isLineSign_9 (by decide) (fun c2 => ?_) (fun c2 => ?_)
    · have hyp := (if_pos c2).symm.trans hyp
      refine jr_iconst (pc := 16) C dX11_isLineSign_16 ?_
      cases hyp
      exact jr_zret C S (show jIn 0 from ⟨by decide, by decide⟩) rfl dX11_isLineSign_17
    · have hyp := (if_neg c2).symm.trans hyp
      refine jr_iconst (pc := 12) C dX11_isLineSign_12 ?_
      refine jr_goto (pc := 13) C (tgt := 17) dX11_isLineSign_13 (by decide) ?_
      cases hyp
      exact jr_zret C S (show jIn 1 from ⟨by decide, by decide⟩) rfl dX11_isLineSign_17
theorem c_X11_isLineSign {l : Launch} {D : va_G} {cy : Nat → ClassId} {B sz : Nat} {sh : jm_S} {res : Int} {m0 : jm_M} {x0 : Int} (h_x0 : jIn x0) (hyp : f_X11_isLineSign x0 = some res) : jCt l D cy B sz sh 0 yX11_isLineSign cX11_isLineSign 1 (some .boolean) [jI x0] m0 (some (jI res)) m0 (jIn res) :=
  jc_of (by decide) (fun v h => by rw [List.mem_singleton.mp h]; first | rfl | exact jR_cat _ _) (Nat.le_of_ble_eq_true rfl) (fun C S L => t_X11_isLineSign_e C  h_x0 S L hyp)
set_option maxHeartbeats 4000000 in
set_option maxRecDepth 100000 in
theorem t_X11_partsOf_e {p : Program} {l : Launch} {e : Env} {s : State} {mi : MethodId} {args : Array Value} {below : List Frame} {meth : Method} {c : Code} {D : va_G} {cy : Nat → ClassId} {B sz : Nat} {sh : jm_S} {res : Int} {m0 : jm_M} (C : jCx p s mi args meth c cX11_partsOf 1 RX11 (some .int) D cy) {x0 : Int} (h_x0 : jIn x0) {H : Heap} {locs : List Loc} {ls : Array Slot} (S : jHs D cy B sz sh (jA B sz) s.heap H locs m0) (L : jL ls [some (jI x0)]) (hyp : f_X11_partsOf x0 = some res) : W p l e (jrm 1 0 0) s mi args below meth c H locs 0 0 (MQ below (jQc D cy B sz sh m0 (some (jI res)) (jIn res)) args s 0 0 (jA B sz)) (F0 mi 0 ls []) := by
  unfold f_X11_partsOf at hyp
  refine jr_iload_n (pc := 0) C L dX11_partsOf_0 rfl rfl ?_
  by_cases c1 : (45 : Int) = x0
  · have hyp := (if_pos c1).symm.trans hyp
    refine jr_lookup (pc := 1) C h_x0 (off := 63) (tgt := 64) dX11_partsOf_1 rfl (if_pos c1) (by decide) ?_
    refine jr_iconst (pc := 64) C dX11_partsOf_64 ?_
    cases hyp
    exact jr_iret C S (show jIn 0 from ⟨by decide, by decide⟩) dX11_partsOf_65
  have hyp := (if_neg c1).symm.trans hyp
  by_cases c2 : (59 : Int) = x0
  · have hyp := (if_pos c2).symm.trans hyp
    refine jr_lookup (pc := 1) C h_x0 (off := 59) (tgt := 60) dX11_partsOf_1 rfl ((if_neg c1).trans (if_pos c2)) (by decide) ?_
    refine jr_iconst (pc := 60) C dX11_partsOf_60 ?_
    cases hyp
    exact jr_iret C S (show jIn 2 from ⟨by decide, by decide⟩) dX11_partsOf_61
  have hyp := (if_neg c2).symm.trans hyp
  by_cases c3 : (63 : Int) = x0
  · have hyp := (if_pos c3).symm.trans hyp
    refine jr_lookup (pc := 1) C h_x0 (off := 59) (tgt := 60) dX11_partsOf_1 rfl ((if_neg c1).trans ((if_neg c2).trans (if_pos c3))) (by decide) ?_
    refine jr_iconst (pc := 60) C dX11_partsOf_60 ?_
    cases hyp
    exact jr_iret C S (show jIn 2 from ⟨by decide, by decide⟩) dX11_partsOf_61
  have hyp := (if_neg c3).symm.trans hyp
  by_cases c4 : (98 : Int) = x0
  · have hyp := (if_pos c4).symm.trans hyp
    refine jr_lookup (pc := 1) C h_x0 (off := 61) (tgt := 62) dX11_partsOf_1 rfl ((if_neg c1).trans ((if_neg c2).trans ((if_neg c3).trans (if_pos c4)))) (by decide) ?_
    refine jr_iconst (pc := 62) C dX11_partsOf_62 ?_
    cases hyp
    exact jr_iret C S (show jIn 1 from ⟨by decide, by decide⟩) dX11_partsOf_63
  have hyp := (if_neg c4).symm.trans hyp
  by_cases c5 : (99 : Int) = x0
  · have hyp := (if_pos c5).symm.trans hyp
    refine jr_lookup (pc := 1) C h_x0 (off := 61) (tgt := 62) dX11_partsOf_1 rfl ((if_neg c1).trans ((if_neg c2).trans ((if_neg c3).trans ((if_neg c4).trans (if_pos c5))))) (by decide) ?_
    refine jr_iconst (pc := 62) C dX11_partsOf_62 ?_
    cases hyp
    exact jr_iret C S (show jIn 1 from ⟨by decide, by decide⟩) dX11_partsOf_63
  have hyp := (if_neg c5).symm.trans hyp
  by_cases c6 : (100 : Int) = x0
  · have hyp := (if_pos c6).symm.trans hyp
    refine jr_lookup (pc := 1) C h_x0 (off := 61) (tgt := 62) dX11_partsOf_1 rfl ((if_neg c1).trans ((if_neg c2).trans ((if_neg c3).trans ((if_neg c4).trans ((if_neg c5).trans (if_pos c6)))))) (by decide) ?_
    refine jr_iconst (pc := 62) C dX11_partsOf_62 ?_
    cases hyp
    exact jr_iret C S (show jIn 1 from ⟨by decide, by decide⟩) dX11_partsOf_63
  have hyp := (if_neg c6).symm.trans hyp
  refine jr_lookup (pc := 1) C h_x0 (off := 65) (tgt := 66) dX11_partsOf_1 rfl ((if_neg c1).trans ((if_neg c2).trans ((if_neg c3).trans ((if_neg c4).trans ((if_neg c5).trans ((if_neg c6).trans rfl)))))) (by decide) ?_
  refine jr_iload_n (pc := 66) C L dX11_partsOf_66 rfl rfl ?_
  obtain ⟨q7, hq7, hyp⟩ := jbind hyp
  refine jr_callS_I (pc := 67) C S L (As := [jI x0]) (rest := []) (c_X11_isLineSign (m0 := m0) h_x0 hq7) ms_X11_isLineSign ml_X11_261 (by decide) rfl rfl rfl (Nat.le_of_ble_eq_true rfl) ⟨Nat.le_refl 0, Nat.le_refl 0⟩ dX11_partsOf_67 (fun p8 H locs S => ?_)
  refine jr_if_eq (pc := 70) C p8 (tgt := 77) dX11_partsOf_70 (by decide) (fun c9 => ?_) (fun c9 => ?_)
  · have hyp := (if_pos c9).symm.trans hyp
    refine jr_iconst (pc := 77) C dX11_partsOf_77 ?_
    cases hyp
    exact jr_iret C S (show jIn (-1) from ⟨by decide, by decide⟩) dX11_partsOf_78
  · have hyp := (if_neg c9).symm.trans hyp
    refine jr_iconst (pc := 73) C dX11_partsOf_73 ?_
    refine jr_goto (pc := 74) C (tgt := 78) dX11_partsOf_74 (by decide) ?_
    cases hyp
    exact jr_iret C S (show jIn 0 from ⟨by decide, by decide⟩) dX11_partsOf_78
theorem c_X11_partsOf {l : Launch} {D : va_G} {cy : Nat → ClassId} {B sz : Nat} {sh : jm_S} {res : Int} {m0 : jm_M} {x0 : Int} (h_x0 : jIn x0) (hyp : f_X11_partsOf x0 = some res) : jCt l D cy B sz sh 1 yX11_partsOf cX11_partsOf 1 (some .int) [jI x0] m0 (some (jI res)) m0 (jIn res) :=
  jc_of (by decide) (fun v h => by rw [List.mem_singleton.mp h]; first | rfl | exact jR_cat _ _) (Nat.le_of_ble_eq_true rfl) (fun C S L => t_X11_partsOf_e C  h_x0 S L hyp)
set_option maxHeartbeats 4000000 in
set_option maxRecDepth 100000 in
theorem t_X10_linesWithin_e {p : Program} {l : Launch} {e : Env} {s : State} {mi : MethodId} {args : Array Value} {below : List Frame} {meth : Method} {c : Code} {D : va_G} {cy : Nat → ClassId} {B sz : Nat} {sh : jm_S} {res : Int} {m0 : jm_M} (C : jCx p s mi args meth c cX10_linesWithin 2 RX10 (some .int) D cy) {a0 : Nat} {x1 : Int} (h_x1 : jIn x1) {H : Heap} {locs : List Loc} {ls : Array Slot} (S : jHs D cy B sz sh (jA B sz) s.heap H locs m0) (L : jL ls [some (jR B a0), some (jI x1)]) (hyp : f_X10_linesWithin sh a0 x1 m0 = some res) : W p l e (jrm 0 0 0) s mi args below meth c H locs 0 0 (MQ below (jQc D cy B sz sh m0 (some (jI res)) (jIn res)) args s 0 0 (jA B sz)) (F0 mi 0 ls []) := by
  unfold f_X10_linesWithin at hyp
  refine jr_iload_n (pc := 0) C L dX10_linesWithin_0 rfl rfl ?_
  refine jr_if_lt (pc := 1) C h_x1 (tgt := 19) dX10_linesWithin_1 (by decide) (fun c1 => ?_) (fun c1 => ?_)
  · have hyp := (if_pos c1).symm.trans hyp
    refine jr_iconst (pc := 19) C dX10_linesWithin_19 ?_
    cases hyp
    exact jr_iret C S (show jIn 0 from ⟨by decide, by decide⟩) dX10_linesWithin_20
  · have hyp := (if_neg c1).symm.trans hyp
    refine jr_iload_n (pc := 4) C L dX10_linesWithin_4 rfl rfl ?_
    refine jr_bipush (pc := 5) C dX10_linesWithin_5 (by decide) ?_
    refine jr_icmp_ge (pc := 7) C h_x1 (show jIn 30 from ⟨by decide, by decide⟩) (tgt := 19) dX10_linesWithin_7 (by decide) (fun c2 => ?_) (fun c2 => ?_)
    · have hyp := (if_pos c2).symm.trans hyp
      refine jr_aload_n (pc := 10) C L dX10_linesWithin_10 rfl rfl ?_
      obtain ⟨v3, hv3, hyp⟩ := jbind hyp
      refine jr_getR (pc := 11) C S lf_X10_22 rfl hv3 dX10_linesWithin_11 ?_
      refine jr_iload_n (pc := 14) C L dX10_linesWithin_14 rfl rfl ?_
      obtain ⟨v4, hv4, hyp⟩ := jbind hyp
      have iv4 := jra_in S hv4
      refine jr_ial (pc := 15) C S h_x1 hv4 dX10_linesWithin_15 ?_
      refine jr_goto (pc := 16) C (tgt := 20) dX10_linesWithin_16 (by decide) ?_
      cases hyp
      exact jr_iret C S iv4 dX10_linesWithin_20
    · have hyp := (if_neg c2).symm.trans hyp
      refine jr_iconst (pc := 19) C dX10_linesWithin_19 ?_
      cases hyp
      exact jr_iret C S (show jIn 0 from ⟨by decide, by decide⟩) dX10_linesWithin_20
theorem c_X10_linesWithin {l : Launch} {D : va_G} {cy : Nat → ClassId} {B sz : Nat} {sh : jm_S} {res : Int} {m0 : jm_M} {a0 : Nat} {x1 : Int} (h_x1 : jIn x1) (hyp : f_X10_linesWithin sh a0 x1 m0 = some res) : jCt l D cy B sz sh 0 yX10_linesWithin cX10_linesWithin 2 (some .int) [jR B a0, jI x1] m0 (some (jI res)) m0 (jIn res) :=
  jc_of (by decide) (fun v h => by simp only [List.mem_cons, List.not_mem_nil, or_false] at h; rcases h with rfl | rfl <;> first | rfl | exact jR_cat _ _) (Nat.le_of_ble_eq_true rfl) (fun C S L => t_X10_linesWithin_e C  h_x1 S L hyp)
set_option maxHeartbeats 4000000 in
set_option maxRecDepth 100000 in
theorem t_X10_take_b91 {p : Program} {l : Launch} {e : Env} {s : State} {mi : MethodId} {args : Array Value} {below : List Frame} {meth : Method} {c : Code} {D : va_G} {cy : Nat → ClassId} {B sz : Nat} {sh : jm_S} {res : jm_M} {N : Nat} {k13 : Nat → Nat → Int → jm_M → Option jm_M} {k91 : Nat → Nat → Int → Int → Int → jm_M → Option jm_M} (C : jCx p s mi args meth c cX10_take 7 RX10 none D cy) (K13 : ∀ (a0 : Nat) (a1 : Nat) (x3 : Int) , jIn x3 → ∀ (m : jm_M) (H : Heap) (locs : List Loc) (ls : Array Slot), jHs D cy B sz sh (jA B sz) s.heap H locs m → jL ls [some (jR B a0), some (jR B a1), none, some (jI x3), none, none, none] → k13 a0 a1 x3 m = some res → W p l e (jrm 2 0 0) s mi args below meth c H locs 0 0 (MQ below (jQc D cy B sz sh res none True) args s 0 0 (jA B sz)) (F0 mi 13 ls [])) (K91 : ∀ (a0 : Nat) (a1 : Nat) (x3 : Int) (x4 : Int) (x5 : Int) , jIn x3 → jIn x4 → jIn x5 → ∀ (m : jm_M) (H : Heap) (locs : List Loc) (ls : Array Slot), jHs D cy B sz sh (jA B sz) s.heap H locs m → jL ls [some (jR B a0), some (jR B a1), none, some (jI x3), some (jI x4), some (jI x5), none] → k91 a0 a1 x3 x4 x5 m = some res → W p l e (jrm 2 0 0) s mi args below meth c H locs 0 0 (MQ below (jQc D cy B sz sh res none True) args s 0 0 (jA B sz)) (F0 mi 91 ls [])) {a0 : Nat} {a1 : Nat} {x3 : Int} (h_x3 : jIn x3) {x4 : Int} (h_x4 : jIn x4) {x5 : Int} (h_x5 : jIn x5) {m : jm_M} {H : Heap} {locs : List Loc} {ls : Array Slot} (S : jHs D cy B sz sh (jA B sz) s.heap H locs m) (L : jL ls [some (jR B a0), some (jR B a1), none, some (jI x3), some (jI x4), some (jI x5), none]) (hyp : f_X10_take_b91 N sh k13 k91 a0 a1 x3 x4 x5 m = some res) : W p l e (jrm 2 0 0) s mi args below meth c H locs 0 0 (MQ below (jQc D cy B sz sh res none True) args s 0 0 (jA B sz)) (F0 mi 91 ls []) := by
  unfold f_X10_take_b91 at hyp
  refine jr_iload (pc := 91) C L dX10_take_91 rfl ?_
  refine jr_if_le (pc := 93) C h_x5 (tgt := 143) dX10_take_93 (by decide) (fun c1 => ?_) (fun c1 => ?_)
  · have hyp := (if_pos c1).symm.trans hyp
    refine jr_aload_n (pc := 96) C L dX10_take_96 rfl rfl ?_
    refine jr_iload (pc := 97) C L dX10_take_97 rfl ?_
    obtain ⟨u2, hu2, hyp⟩ := jbind hyp
    obtain ⟨q3, hq3, hyp⟩ := jbind hyp
    refine jr_callV_I (pc := 99) C S L (As := [jI x4]) (rest := []) (c_X10_sizeAt (m0 := m) h_x4 hq3) mv_X10_sizeAt ml_X10_42 rfl (jck_spec hu2) (by decide) rfl rfl rfl (Nat.le_of_ble_eq_true rfl) ⟨Nat.le_refl 0, Nat.le_refl 0⟩ dX10_take_99 (fun p4 H locs S => ?_)
    refine jr_istore (pc := 102) C L dX10_take_102 (Nat.le_of_ble_eq_true rfl) (fun ls L => ?_)
    have L : jL ls [some (jR B a0), some (jR B a1), none, some (jI x3), some (jI x4), some (jI x5), some (jI q3)] := L
    refine jr_aload_n (pc := 104) C L dX10_take_104 rfl rfl ?_
    obtain ⟨v5, hv5, hyp⟩ := jbind hyp
    refine jr_getR (pc := 105) C S lf_X10_19 rfl hv5 dX10_take_105 ?_
    refine jr_iload_n (pc := 108) C L dX10_take_108 rfl rfl ?_
    refine jr_dup2 (pc := 109) C dX10_take_109 ?_
    obtain ⟨v6, hv6, hyp⟩ := jbind hyp
    have iv6 := jra_in S hv6
    refine jr_ial (pc := 110) C S h_x3 hv6 dX10_take_110 ?_
    refine jr_iload (pc := 111) C L dX10_take_111 rfl ?_
    refine jr_iadd (pc := 113) C dX10_take_113 ?_
    obtain ⟨m7, hm7, hyp⟩ := jbind hyp
    refine jr_ias (pc := 114) C S h_x3 (jIn_w _) hm7 dX10_take_114 (fun H locs S => ?_)
    refine jr_aload_n (pc := 115) C L dX10_take_115 rfl rfl ?_
    obtain ⟨v8, hv8, hyp⟩ := jbind hyp
    refine jr_getR (pc := 116) C S lf_X10_22 rfl hv8 dX10_take_116 ?_
    refine jr_iload_n (pc := 119) C L dX10_take_119 rfl rfl ?_
    refine jr_dup2 (pc := 120) C dX10_take_120 ?_
    obtain ⟨v9, hv9, hyp⟩ := jbind hyp
    have iv9 := jra_in S hv9
    refine jr_ial (pc := 121) C S h_x3 hv9 dX10_take_121 ?_
    refine jr_aload_n (pc := 122) C L dX10_take_122 rfl rfl ?_
    refine jr_iload (pc := 123) C L dX10_take_123 rfl ?_
    obtain ⟨u10, hu10, hyp⟩ := jbind hyp
    obtain ⟨q11, hq11, hyp⟩ := jbind hyp
    refine jr_callV_I (pc := 125) C S L (As := [jI x4]) (rest := [jI v9, jI x3, jR B v8.toNat]) (c_X10_linesWithin (m0 := m7) h_x4 hq11) mv_X10_linesWithin ml_X10_45 rfl (jck_spec hu10) (by decide) rfl rfl rfl (by simp [jR_cat, jI_cat]) ⟨Nat.le_refl 0, Nat.le_refl 0⟩ dX10_take_125 (fun p12 H locs S => ?_)
    refine jr_ior (pc := 128) C dX10_take_128 ?_
    obtain ⟨m13, hm13, hyp⟩ := jbind hyp
    refine jr_ias (pc := 129) C S h_x3 (jIn_or _ _) hm13 dX10_take_129 (fun H locs S => ?_)
    refine jr_iload (pc := 130) C L dX10_take_130 rfl ?_
    refine jr_iload (pc := 132) C L dX10_take_132 rfl ?_
    refine jr_iadd (pc := 134) C dX10_take_134 ?_
    refine jr_istore (pc := 135) C L dX10_take_135 (Nat.le_of_ble_eq_true rfl) (fun ls L => ?_)
    have L : jL ls [some (jR B a0), some (jR B a1), none, some (jI x3), some (jI (jw (x4 + q3))), some (jI x5), some (jI q3)] := L
    refine jr_iinc (pc := 137) C L dX10_take_137 rfl (Nat.le_of_ble_eq_true rfl) (fun ls L => ?_)
    have L : jL ls [some (jR B a0), some (jR B a1), none, some (jI x3), some (jI (jw (x4 + q3))), some (jI (jw (x5 + (-1)))), some (jI q3)] := L
    refine jr_goto (pc := 140) C (tgt := 91) dX10_take_140 (by decide) ?_
    exact K91 a0 a1 x3 (jw (x4 + q3)) (jw (x5 + (-1))) h_x3 (jIn_w _) (jIn_w _) m13 _ _ _ S (L.sub (jsub_s (jsub_s (jsub_n (jsub_s (jsub_s (jsub_s (jsub_n jsub_0)))))))) hyp
  · have hyp := (if_neg c1).symm.trans hyp
    refine jr_iinc (pc := 143) C L dX10_take_143 rfl (Nat.le_of_ble_eq_true rfl) (fun ls L => ?_)
    have L : jL ls [some (jR B a0), some (jR B a1), none, some (jI (jw (x3 + (-1)))), some (jI x4), some (jI x5), none] := L
    refine jr_goto (pc := 146) C (tgt := 13) dX10_take_146 (by decide) ?_
    exact K13 a0 a1 (jw (x3 + (-1))) (jIn_w _) m _ _ _ S (L.sub (jsub_s (jsub_s (jsub_n (jsub_s (jsub_n (jsub_n (jsub_n jsub_0)))))))) hyp
theorem t_X10_take_l91 {p : Program} {l : Launch} {e : Env} {s : State} {mi : MethodId} {args : Array Value} {below : List Frame} {meth : Method} {c : Code} {D : va_G} {cy : Nat → ClassId} {B sz : Nat} {sh : jm_S} {res : jm_M} {N : Nat} {k13 : Nat → Nat → Int → jm_M → Option jm_M} (C : jCx p s mi args meth c cX10_take 7 RX10 none D cy) (K13 : ∀ (a0 : Nat) (a1 : Nat) (x3 : Int) , jIn x3 → ∀ (m : jm_M) (H : Heap) (locs : List Loc) (ls : Array Slot), jHs D cy B sz sh (jA B sz) s.heap H locs m → jL ls [some (jR B a0), some (jR B a1), none, some (jI x3), none, none, none] → k13 a0 a1 x3 m = some res → W p l e (jrm 2 0 0) s mi args below meth c H locs 0 0 (MQ below (jQc D cy B sz sh res none True) args s 0 0 (jA B sz)) (F0 mi 13 ls [])) : ∀ (n : Nat) (a0 : Nat) (a1 : Nat) (x3 : Int) (x4 : Int) (x5 : Int), jIn x3 → jIn x4 → jIn x5 → ∀ (m : jm_M) (H : Heap) (locs : List Loc) (ls : Array Slot), jHs D cy B sz sh (jA B sz) s.heap H locs m → jL ls [some (jR B a0), some (jR B a1), none, some (jI x3), some (jI x4), some (jI x5), none] → f_X10_take_l91 N sh k13 n a0 a1 x3 x4 x5 m = some res → W p l e (jrm 2 0 0) s mi args below meth c H locs 0 0 (MQ below (jQc D cy B sz sh res none True) args s 0 0 (jA B sz)) (F0 mi 91 ls []) := by
  intro n
  induction n with
  | zero => intro a0 a1 x3 x4 x5 h_x3 h_x4 h_x5 m H locs ls S L hyp; cases hyp
  | succ n ih => intro a0 a1 x3 x4 x5 h_x3 h_x4 h_x5 m H locs ls S L hyp; exact t_X10_take_b91 (N := N) C  K13 ih h_x3 h_x4 h_x5 S L hyp
set_option maxHeartbeats 4000000 in
set_option maxRecDepth 100000 in
theorem t_X10_take_b74 {p : Program} {l : Launch} {e : Env} {s : State} {mi : MethodId} {args : Array Value} {below : List Frame} {meth : Method} {c : Code} {D : va_G} {cy : Nat → ClassId} {B sz : Nat} {sh : jm_S} {res : jm_M} {N : Nat} {k13 : Nat → Nat → Int → jm_M → Option jm_M} (C : jCx p s mi args meth c cX10_take 7 RX10 none D cy) (K13 : ∀ (a0 : Nat) (a1 : Nat) (x3 : Int) , jIn x3 → ∀ (m : jm_M) (H : Heap) (locs : List Loc) (ls : Array Slot), jHs D cy B sz sh (jA B sz) s.heap H locs m → jL ls [some (jR B a0), some (jR B a1), none, some (jI x3), none, none, none] → k13 a0 a1 x3 m = some res → W p l e (jrm 2 0 0) s mi args below meth c H locs 0 0 (MQ below (jQc D cy B sz sh res none True) args s 0 0 (jA B sz)) (F0 mi 13 ls [])) {a0 : Nat} {a1 : Nat} {x3 : Int} (h_x3 : jIn x3) {r0 : Nat} {s1 : Int} (h_s1 : jIn s1) {s2 : Int} (h_s2 : jIn s2) {m : jm_M} {H : Heap} {locs : List Loc} {ls : Array Slot} (S : jHs D cy B sz sh (jA B sz) s.heap H locs m) (L : jL ls [some (jR B a0), some (jR B a1), none, some (jI x3), none, none, none]) (hyp : f_X10_take_b74 N sh k13 a0 a1 x3 r0 s1 s2 m = some res) : W p l e (jrm 2 0 0) s mi args below meth c H locs 0 0 (MQ below (jQc D cy B sz sh res none True) args s 0 0 (jA B sz)) (F0 mi 74 ls [jI s2, jI s1, jR B r0]) := by
  unfold f_X10_take_b74 at hyp
  obtain ⟨m14, hm14, hyp⟩ := jbind hyp
  refine jr_ias (pc := 74) C S h_s1 h_s2 hm14 dX10_take_74 (fun H locs S => ?_)
  refine jr_iload_n (pc := 75) C L dX10_take_75 rfl rfl ?_
  refine jr_iconst (pc := 76) C dX10_take_76 ?_
  refine jr_iadd (pc := 77) C dX10_take_77 ?_
  refine jr_istore (pc := 78) C L dX10_take_78 (Nat.le_of_ble_eq_true rfl) (fun ls L => ?_)
  have L : jL ls [some (jR B a0), some (jR B a1), none, some (jI x3), some (jI (jw (x3 + 1))), none, none] := L
  refine jr_aload_n (pc := 80) C L dX10_take_80 rfl rfl ?_
  obtain ⟨v15, hv15, hyp⟩ := jbind hyp
  refine jr_getR (pc := 81) C S lf_X10_15 rfl hv15 dX10_take_81 ?_
  refine jr_iload_n (pc := 84) C L dX10_take_84 rfl rfl ?_
  obtain ⟨v16, hv16, hyp⟩ := jbind hyp
  have iv16 := jra_in S hv16
  refine jr_ial (pc := 85) C S h_x3 hv16 dX10_take_85 ?_
  obtain ⟨q17, hq17, hyp⟩ := jbind hyp
  refine jr_callSN_I (pc := 86) C S L (As := [jI v16]) (rest := []) (c_X11_partsOf (m0 := m14) iv16 hq17) ms_X11_partsOf mn_X10_39 (by decide) rfl rfl rfl (Nat.le_of_ble_eq_true rfl) ⟨Nat.le_refl 0, Nat.le_refl 0⟩ dX10_take_86 (fun p18 H locs S => ?_)
  refine jr_istore (pc := 89) C L dX10_take_89 (Nat.le_of_ble_eq_true rfl) (fun ls L => ?_)
  have L : jL ls [some (jR B a0), some (jR B a1), none, some (jI x3), some (jI (jw (x3 + 1))), some (jI q17), none] := L
  exact t_X10_take_l91 C  K13 N a0 a1 x3 (jw (x3 + 1)) q17 h_x3 (jIn_w _) p18 m14 _ _ _ S (L.sub (jsub_s (jsub_s (jsub_n (jsub_s (jsub_s (jsub_s (jsub_n jsub_0)))))))) hyp
set_option maxHeartbeats 4000000 in
set_option maxRecDepth 100000 in
theorem t_X10_take_b38 {p : Program} {l : Launch} {e : Env} {s : State} {mi : MethodId} {args : Array Value} {below : List Frame} {meth : Method} {c : Code} {D : va_G} {cy : Nat → ClassId} {B sz : Nat} {sh : jm_S} {res : jm_M} {N : Nat} {k13 : Nat → Nat → Int → jm_M → Option jm_M} (C : jCx p s mi args meth c cX10_take 7 RX10 none D cy) (K13 : ∀ (a0 : Nat) (a1 : Nat) (x3 : Int) , jIn x3 → ∀ (m : jm_M) (H : Heap) (locs : List Loc) (ls : Array Slot), jHs D cy B sz sh (jA B sz) s.heap H locs m → jL ls [some (jR B a0), some (jR B a1), none, some (jI x3), none, none, none] → k13 a0 a1 x3 m = some res → W p l e (jrm 2 0 0) s mi args below meth c H locs 0 0 (MQ below (jQc D cy B sz sh res none True) args s 0 0 (jA B sz)) (F0 mi 13 ls [])) {a0 : Nat} {a1 : Nat} {x3 : Int} (h_x3 : jIn x3) {r0 : Nat} {s1 : Int} (h_s1 : jIn s1) {s2 : Int} (h_s2 : jIn s2) {m : jm_M} {H : Heap} {locs : List Loc} {ls : Array Slot} (S : jHs D cy B sz sh (jA B sz) s.heap H locs m) (L : jL ls [some (jR B a0), some (jR B a1), none, some (jI x3), none, none, none]) (hyp : f_X10_take_b38 N sh k13 a0 a1 x3 r0 s1 s2 m = some res) : W p l e (jrm 2 0 0) s mi args below meth c H locs 0 0 (MQ below (jQc D cy B sz sh res none True) args s 0 0 (jA B sz)) (F0 mi 38 ls [jI s2, jI s1, jR B r0]) := by
  unfold f_X10_take_b38 at hyp
  obtain ⟨m19, hm19, hyp⟩ := jbind hyp
  refine jr_ias (pc := 38) C S h_s1 h_s2 hm19 dX10_take_38 (fun H locs S => ?_)
  refine jr_aload_n (pc := 39) C L dX10_take_39 rfl rfl ?_
  obtain ⟨v20, hv20, hyp⟩ := jbind hyp
  refine jr_getR (pc := 40) C S lf_X10_19 rfl hv20 dX10_take_40 ?_
  refine jr_iload_n (pc := 43) C L dX10_take_43 rfl rfl ?_
  refine jr_iconst (pc := 44) C dX10_take_44 ?_
  obtain ⟨m21, hm21, hyp⟩ := jbind hyp
  refine jr_ias (pc := 45) C S h_x3 (show jIn 1 from ⟨by decide, by decide⟩) hm21 dX10_take_45 (fun H locs S => ?_)
  refine jr_aload_n (pc := 46) C L dX10_take_46 rfl rfl ?_
  obtain ⟨v22, hv22, hyp⟩ := jbind hyp
  refine jr_getR (pc := 47) C S lf_X10_22 rfl hv22 dX10_take_47 ?_
  refine jr_iload_n (pc := 50) C L dX10_take_50 rfl rfl ?_
  refine jr_aload_n (pc := 51) C L dX10_take_51 rfl rfl ?_
  obtain ⟨v23, hv23, hyp⟩ := jbind hyp
  refine jr_getR (pc := 52) C S lf_X10_15 rfl hv23 dX10_take_52 ?_
  refine jr_iload_n (pc := 55) C L dX10_take_55 rfl rfl ?_
  obtain ⟨v24, hv24, hyp⟩ := jbind hyp
  have iv24 := jra_in S hv24
  refine jr_ial (pc := 56) C S h_x3 hv24 dX10_take_56 ?_
  obtain ⟨q25, hq25, hyp⟩ := jbind hyp
  refine jr_callSN_I (pc := 57) C S L (As := [jI v24]) (rest := [jI x3, jR B v22.toNat]) (c_X11_isLineSign (m0 := m21) iv24 hq25) ms_X11_isLineSign mn_X10_31 (by decide) rfl rfl rfl (by simp [jR_cat, jI_cat]) ⟨Nat.le_refl 0, Nat.le_refl 0⟩ dX10_take_57 (fun p26 H locs S => ?_)
  refine jr_if_eq (pc := 60) C p26 (tgt := 73) dX10_take_60 (by decide) (fun c27 => ?_) (fun c27 => ?_)
  · have hyp := (if_pos c27).symm.trans hyp
    refine jr_iconst (pc := 73) C dX10_take_73 ?_
    exact t_X10_take_b74 C  K13 h_x3 h_x3 (show jIn 0 from ⟨by decide, by decide⟩) S (L.sub (jsub_s (jsub_s (jsub_n (jsub_s (jsub_n (jsub_n (jsub_n jsub_0)))))))) hyp
  · have hyp := (if_neg c27).symm.trans hyp
    refine jr_iconst (pc := 63) C dX10_take_63 ?_
    refine jr_aload_n (pc := 64) C L dX10_take_64 rfl rfl ?_
    refine jr_iload_n (pc := 65) C L dX10_take_65 rfl rfl ?_
    obtain ⟨u28, hu28, hyp⟩ := jbind hyp
    obtain ⟨q29, hq29, hyp⟩ := jbind hyp
    refine jr_callV_I (pc := 66) C S L (As := [jI x3]) (rest := [jI 1, jI x3, jR B v22.toNat]) (c_X10_lineAt (m0 := m21) h_x3 hq29) mv_X10_lineAt ml_X10_35 rfl (jck_spec hu28) (by decide) rfl rfl rfl (by simp [jR_cat, jI_cat]) ⟨Nat.le_refl 0, Nat.le_refl 0⟩ dX10_take_66 (fun p30 H locs S => ?_)
    refine jr_ishl (pc := 69) C dX10_take_69 ?_
    refine jr_goto (pc := 70) C (tgt := 74) dX10_take_70 (by decide) ?_
    exact t_X10_take_b74 C  K13 h_x3 h_x3 (jIn_shl _ _) S (L.sub (jsub_s (jsub_s (jsub_n (jsub_s (jsub_n (jsub_n (jsub_n jsub_0)))))))) hyp
set_option maxHeartbeats 4000000 in
set_option maxRecDepth 100000 in
theorem t_X10_take_b13 {p : Program} {l : Launch} {e : Env} {s : State} {mi : MethodId} {args : Array Value} {below : List Frame} {meth : Method} {c : Code} {D : va_G} {cy : Nat → ClassId} {B sz : Nat} {sh : jm_S} {res : jm_M} {N : Nat} {k13 : Nat → Nat → Int → jm_M → Option jm_M} (C : jCx p s mi args meth c cX10_take 7 RX10 none D cy) (K13 : ∀ (a0 : Nat) (a1 : Nat) (x3 : Int) , jIn x3 → ∀ (m : jm_M) (H : Heap) (locs : List Loc) (ls : Array Slot), jHs D cy B sz sh (jA B sz) s.heap H locs m → jL ls [some (jR B a0), some (jR B a1), none, some (jI x3), none, none, none] → k13 a0 a1 x3 m = some res → W p l e (jrm 2 0 0) s mi args below meth c H locs 0 0 (MQ below (jQc D cy B sz sh res none True) args s 0 0 (jA B sz)) (F0 mi 13 ls [])) {a0 : Nat} {a1 : Nat} {x3 : Int} (h_x3 : jIn x3) {m : jm_M} {H : Heap} {locs : List Loc} {ls : Array Slot} (S : jHs D cy B sz sh (jA B sz) s.heap H locs m) (L : jL ls [some (jR B a0), some (jR B a1), none, some (jI x3), none, none, none]) (hyp : f_X10_take_b13 N sh k13 a0 a1 x3 m = some res) : W p l e (jrm 2 0 0) s mi args below meth c H locs 0 0 (MQ below (jQc D cy B sz sh res none True) args s 0 0 (jA B sz)) (F0 mi 13 ls []) := by
  unfold f_X10_take_b13 at hyp
  refine jr_iload_n (pc := 13) C L dX10_take_13 rfl rfl ?_
  refine jr_if_lt (pc := 14) C h_x3 (tgt := 149) dX10_take_14 (by decide) (fun c31 => ?_) (fun c31 => ?_)
  · have hyp := (if_pos c31).symm.trans hyp
    cases hyp
    exact jr_vret C S trivial dX10_take_149
  · have hyp := (if_neg c31).symm.trans hyp
    refine jr_aload_n (pc := 17) C L dX10_take_17 rfl rfl ?_
    obtain ⟨v32, hv32, hyp⟩ := jbind hyp
    refine jr_getR (pc := 18) C S lf_X10_15 rfl hv32 dX10_take_18 ?_
    refine jr_iload_n (pc := 21) C L dX10_take_21 rfl rfl ?_
    refine jr_iload_n (pc := 22) C L dX10_take_22 rfl rfl ?_
    refine jr_aload_n (pc := 23) C L dX10_take_23 rfl rfl ?_
    obtain ⟨v33, hv33, hyp⟩ := jbind hyp
    have iv33 := jrf_in S hv33
    refine jr_getI (pc := 24) C S lf_X10_9 rfl hv33 dX10_take_24 ?_
    refine jr_icmp_ge (pc := 27) C h_x3 iv33 (tgt := 36) dX10_take_27 (by decide) (fun c34 => ?_) (fun c34 => ?_)
    · have hyp := (if_pos c34).symm.trans hyp
      refine jr_aload_n (pc := 30) C L dX10_take_30 rfl rfl ?_
      refine jr_iload_n (pc := 31) C L dX10_take_31 rfl rfl ?_
      obtain ⟨v35, hv35, hyp⟩ := jbind hyp
      have iv35 := jra_in S hv35
      refine jr_ial (pc := 32) C S h_x3 hv35 dX10_take_32 ?_
      refine jr_goto (pc := 33) C (tgt := 38) dX10_take_33 (by decide) ?_
      exact t_X10_take_b38 C  K13 h_x3 h_x3 iv35 S (L.sub (jsub_s (jsub_s (jsub_n (jsub_s (jsub_n (jsub_n (jsub_n jsub_0)))))))) hyp
    · have hyp := (if_neg c34).symm.trans hyp
      refine jr_bipush (pc := 36) C dX10_take_36 (by decide) ?_
      exact t_X10_take_b38 C  K13 h_x3 h_x3 (show jIn 45 from ⟨by decide, by decide⟩) S (L.sub (jsub_s (jsub_s (jsub_n (jsub_s (jsub_n (jsub_n (jsub_n jsub_0)))))))) hyp
theorem t_X10_take_l13 {p : Program} {l : Launch} {e : Env} {s : State} {mi : MethodId} {args : Array Value} {below : List Frame} {meth : Method} {c : Code} {D : va_G} {cy : Nat → ClassId} {B sz : Nat} {sh : jm_S} {res : jm_M} {N : Nat} (C : jCx p s mi args meth c cX10_take 7 RX10 none D cy) : ∀ (n : Nat) (a0 : Nat) (a1 : Nat) (x3 : Int), jIn x3 → ∀ (m : jm_M) (H : Heap) (locs : List Loc) (ls : Array Slot), jHs D cy B sz sh (jA B sz) s.heap H locs m → jL ls [some (jR B a0), some (jR B a1), none, some (jI x3), none, none, none] → f_X10_take_l13 N sh n a0 a1 x3 m = some res → W p l e (jrm 2 0 0) s mi args below meth c H locs 0 0 (MQ below (jQc D cy B sz sh res none True) args s 0 0 (jA B sz)) (F0 mi 13 ls []) := by
  intro n
  induction n with
  | zero => intro a0 a1 x3 h_x3 m H locs ls S L hyp; cases hyp
  | succ n ih => intro a0 a1 x3 h_x3 m H locs ls S L hyp; exact t_X10_take_b13 (N := N) C  ih h_x3 S L hyp
set_option maxHeartbeats 4000000 in
set_option maxRecDepth 100000 in
theorem t_X10_take_e {p : Program} {l : Launch} {e : Env} {s : State} {mi : MethodId} {args : Array Value} {below : List Frame} {meth : Method} {c : Code} {D : va_G} {cy : Nat → ClassId} {B sz : Nat} {sh : jm_S} {res : jm_M} {N : Nat} (C : jCx p s mi args meth c cX10_take 7 RX10 none D cy) {a0 : Nat} {a1 : Nat} {x2 : Int} (h_x2 : jIn x2) {m : jm_M} {H : Heap} {locs : List Loc} {ls : Array Slot} (S : jHs D cy B sz sh (jA B sz) s.heap H locs m) (L : jL ls [some (jR B a0), some (jR B a1), some (jI x2), none, none, none, none]) (hyp : f_X10_take N sh a0 a1 x2 m = some res) : W p l e (jrm 2 0 0) s mi args below meth c H locs 0 0 (MQ below (jQc D cy B sz sh res none True) args s 0 0 (jA B sz)) (F0 mi 0 ls []) := by
  unfold f_X10_take at hyp
  refine jr_aload_n (pc := 0) C L dX10_take_0 rfl rfl ?_
  refine jr_iload_n (pc := 1) C L dX10_take_1 rfl rfl ?_
  refine jr_aload_n (pc := 2) C L dX10_take_2 rfl rfl ?_
  obtain ⟨v36, hv36, hyp⟩ := jbind hyp
  refine jr_alen (pc := 3) C S hv36 dX10_take_3 ?_
  obtain ⟨q37, hq37, hyp⟩ := jbind hyp
  refine jr_callS_I (pc := 4) C S L (As := [jI x2, jI v36]) (rest := [jR B a0]) (c_J9_min_7cf53 (m0 := m) h_x2 (jlen_in hv36) hq37) ms_J9_min_7cf53 ml_X10_25 (by decide) rfl rfl rfl (by simp [jR_cat, jI_cat]) ⟨Nat.le_refl 0, Nat.le_refl 0⟩ dX10_take_4 (fun p38 H locs S => ?_)
  obtain ⟨m39, hm39, hyp⟩ := jbind hyp
  refine jr_putI (pc := 7) C S lf_X10_9 fp_X10_0 rfl p38 hm39 dX10_take_7 (fun H locs S => ?_)
  refine jr_bipush (pc := 10) C dX10_take_10 (by decide) ?_
  refine jr_istore_n (pc := 12) C L dX10_take_12 rfl (Nat.le_of_ble_eq_true rfl) (fun ls L => ?_)
  have L : jL ls [some (jR B a0), some (jR B a1), some (jI x2), some (jI 29), none, none, none] := L
  exact t_X10_take_l13 C   N a0 a1 29 (show jIn 29 from ⟨by decide, by decide⟩) m39 _ _ _ S (L.sub (jsub_s (jsub_s (jsub_n (jsub_s (jsub_n (jsub_n (jsub_n jsub_0)))))))) hyp
theorem c_X10_take {l : Launch} {D : va_G} {cy : Nat → ClassId} {B sz : Nat} {sh : jm_S} {res : jm_M} {N : Nat} {m : jm_M} {a0 : Nat} {a1 : Nat} {x2 : Int} (h_x2 : jIn x2) (hyp : f_X10_take N sh a0 a1 x2 m = some res) : jCt l D cy B sz sh 2 yX10_take cX10_take 7 none [jR B a0, jR B a1, jI x2] m none res True :=
  jc_of (by decide) (fun v h => by simp only [List.mem_cons, List.not_mem_nil, or_false] at h; rcases h with rfl | rfl | rfl <;> first | rfl | exact jR_cat _ _) (Nat.le_of_ble_eq_true rfl) (fun C S L => t_X10_take_e C  h_x2 S L hyp)
set_option maxHeartbeats 4000000 in
set_option maxRecDepth 100000 in
theorem t_X1_copyFrom_b83 {p : Program} {l : Launch} {e : Env} {s : State} {mi : MethodId} {args : Array Value} {below : List Frame} {meth : Method} {c : Code} {D : va_G} {cy : Nat → ClassId} {B sz : Nat} {sh : jm_S} {res : jm_M} {N : Nat} {k83 : Nat → Nat → Int → jm_M → Option jm_M} (C : jCx p s mi args meth c cX1_copyFrom 4 RX1 none D cy) (K83 : ∀ (a0 : Nat) (a1 : Nat) (x2 : Int) , jIn x2 → ∀ (m : jm_M) (H : Heap) (locs : List Loc) (ls : Array Slot), jHs D cy B sz sh (jA B sz) s.heap H locs m → jL ls [some (jR B a0), some (jR B a1), some (jI x2), none] → k83 a0 a1 x2 m = some res → W p l e (jrm 3 0 0) s mi args below meth c H locs 0 0 (MQ below (jQc D cy B sz sh res none True) args s 0 0 (jA B sz)) (F0 mi 83 ls [])) {a0 : Nat} {a1 : Nat} {x2 : Int} (h_x2 : jIn x2) {m : jm_M} {H : Heap} {locs : List Loc} {ls : Array Slot} (S : jHs D cy B sz sh (jA B sz) s.heap H locs m) (L : jL ls [some (jR B a0), some (jR B a1), some (jI x2), none]) (hyp : f_X1_copyFrom_b83 N sh k83 a0 a1 x2 m = some res) : W p l e (jrm 3 0 0) s mi args below meth c H locs 0 0 (MQ below (jQc D cy B sz sh res none True) args s 0 0 (jA B sz)) (F0 mi 83 ls []) := by
  unfold f_X1_copyFrom_b83 at hyp
  refine jr_iload_n (pc := 83) C L dX1_copyFrom_83 rfl rfl ?_
  refine jr_aload_n (pc := 84) C L dX1_copyFrom_84 rfl rfl ?_
  obtain ⟨v1, hv1, hyp⟩ := jbind hyp
  refine jr_getR (pc := 85) C S lf_X1_18 rfl hv1 dX1_copyFrom_85 ?_
  obtain ⟨v2, hv2, hyp⟩ := jbind hyp
  refine jr_alen (pc := 88) C S hv2 dX1_copyFrom_88 ?_
  refine jr_icmp_ge (pc := 89) C h_x2 (jlen_in hv2) (tgt := 109) dX1_copyFrom_89 (by decide) (fun c3 => ?_) (fun c3 => ?_)
  · have hyp := (if_pos c3).symm.trans hyp
    refine jr_aload_n (pc := 92) C L dX1_copyFrom_92 rfl rfl ?_
    obtain ⟨v4, hv4, hyp⟩ := jbind hyp
    refine jr_getR (pc := 93) C S lf_X1_18 rfl hv4 dX1_copyFrom_93 ?_
    refine jr_iload_n (pc := 96) C L dX1_copyFrom_96 rfl rfl ?_
    refine jr_aload_n (pc := 97) C L dX1_copyFrom_97 rfl rfl ?_
    refine jr_iload_n (pc := 98) C L dX1_copyFrom_98 rfl rfl ?_
    obtain ⟨u5, hu5, hyp⟩ := jbind hyp
    obtain ⟨q6, hq6, hyp⟩ := jbind hyp
    refine jr_callV_I (pc := 99) C S L (As := [jI x2]) (rest := [jI x2, jR B v4.toNat]) (c_X1_digitAt (m0 := m) h_x2 hq6) mv_X1_digitAt ml_X1_85 rfl (jck_spec hu5) (by decide) rfl rfl rfl (by simp [jR_cat, jI_cat]) ⟨Nat.le_refl 0, Nat.le_refl 0⟩ dX1_copyFrom_99 (fun p7 H locs S => ?_)
    obtain ⟨m8, hm8, hyp⟩ := jbind hyp
    refine jr_ias (pc := 102) C S h_x2 p7 hm8 dX1_copyFrom_102 (fun H locs S => ?_)
    refine jr_iinc (pc := 103) C L dX1_copyFrom_103 rfl (Nat.le_of_ble_eq_true rfl) (fun ls L => ?_)
    have L : jL ls [some (jR B a0), some (jR B a1), some (jI (jw (x2 + 1))), none] := L
    refine jr_goto (pc := 106) C (tgt := 83) dX1_copyFrom_106 (by decide) ?_
    exact K83 a0 a1 (jw (x2 + 1)) (jIn_w _) m8 _ _ _ S (L.sub (jsub_s (jsub_s (jsub_s (jsub_n jsub_0))))) hyp
  · have hyp := (if_neg c3).symm.trans hyp
    cases hyp
    exact jr_vret C S trivial dX1_copyFrom_109
theorem t_X1_copyFrom_l83 {p : Program} {l : Launch} {e : Env} {s : State} {mi : MethodId} {args : Array Value} {below : List Frame} {meth : Method} {c : Code} {D : va_G} {cy : Nat → ClassId} {B sz : Nat} {sh : jm_S} {res : jm_M} {N : Nat} (C : jCx p s mi args meth c cX1_copyFrom 4 RX1 none D cy) : ∀ (n : Nat) (a0 : Nat) (a1 : Nat) (x2 : Int), jIn x2 → ∀ (m : jm_M) (H : Heap) (locs : List Loc) (ls : Array Slot), jHs D cy B sz sh (jA B sz) s.heap H locs m → jL ls [some (jR B a0), some (jR B a1), some (jI x2), none] → f_X1_copyFrom_l83 N sh n a0 a1 x2 m = some res → W p l e (jrm 3 0 0) s mi args below meth c H locs 0 0 (MQ below (jQc D cy B sz sh res none True) args s 0 0 (jA B sz)) (F0 mi 83 ls []) := by
  intro n
  induction n with
  | zero => intro a0 a1 x2 h_x2 m H locs ls S L hyp; cases hyp
  | succ n ih => intro a0 a1 x2 h_x2 m H locs ls S L hyp; exact t_X1_copyFrom_b83 (N := N) C  ih h_x2 S L hyp
set_option maxHeartbeats 4000000 in
set_option maxRecDepth 100000 in
theorem t_X1_copyFrom_b30 {p : Program} {l : Launch} {e : Env} {s : State} {mi : MethodId} {args : Array Value} {below : List Frame} {meth : Method} {c : Code} {D : va_G} {cy : Nat → ClassId} {B sz : Nat} {sh : jm_S} {res : jm_M} {N : Nat} {k30 : Nat → Nat → Int → jm_M → Option jm_M} (C : jCx p s mi args meth c cX1_copyFrom 4 RX1 none D cy) (K30 : ∀ (a0 : Nat) (a1 : Nat) (x2 : Int) , jIn x2 → ∀ (m : jm_M) (H : Heap) (locs : List Loc) (ls : Array Slot), jHs D cy B sz sh (jA B sz) s.heap H locs m → jL ls [some (jR B a0), some (jR B a1), some (jI x2), none] → k30 a0 a1 x2 m = some res → W p l e (jrm 3 0 0) s mi args below meth c H locs 0 0 (MQ below (jQc D cy B sz sh res none True) args s 0 0 (jA B sz)) (F0 mi 30 ls [])) {a0 : Nat} {a1 : Nat} {x2 : Int} (h_x2 : jIn x2) {m : jm_M} {H : Heap} {locs : List Loc} {ls : Array Slot} (S : jHs D cy B sz sh (jA B sz) s.heap H locs m) (L : jL ls [some (jR B a0), some (jR B a1), some (jI x2), none]) (hyp : f_X1_copyFrom_b30 N sh k30 a0 a1 x2 m = some res) : W p l e (jrm 3 0 0) s mi args below meth c H locs 0 0 (MQ below (jQc D cy B sz sh res none True) args s 0 0 (jA B sz)) (F0 mi 30 ls []) := by
  unfold f_X1_copyFrom_b30 at hyp
  refine jr_iload_n (pc := 30) C L dX1_copyFrom_30 rfl rfl ?_
  refine jr_iconst (pc := 31) C dX1_copyFrom_31 ?_
  refine jr_icmp_ge (pc := 32) C h_x2 (show jIn 4 from ⟨by decide, by decide⟩) (tgt := 73) dX1_copyFrom_32 (by decide) (fun c9 => ?_) (fun c9 => ?_)
  · have hyp := (if_pos c9).symm.trans hyp
    refine jr_aload_n (pc := 35) C L dX1_copyFrom_35 rfl rfl ?_
    refine jr_iload_n (pc := 36) C L dX1_copyFrom_36 rfl rfl ?_
    obtain ⟨u10, hu10, hyp⟩ := jbind hyp
    obtain ⟨q11, hq11, hyp⟩ := jbind hyp
    refine jr_callV_R (pc := 37) C S L (As := [jI x2]) (rest := []) (c_X1_textOf (m0 := m) h_x2 hq11) mv_X1_textOf ml_X1_67 rfl (jck_spec hu10) (by decide) rfl rfl rfl (Nat.le_of_ble_eq_true rfl) ⟨Nat.le_refl 0, Nat.le_refl 0⟩ dX1_copyFrom_37 (fun p12 H locs S => ?_)
    refine jr_astore_n (pc := 40) C L dX1_copyFrom_40 rfl (Nat.le_of_ble_eq_true rfl) (fun ls L => ?_)
    have L : jL ls [some (jR B a0), some (jR B a1), some (jI x2), some (jR B q11)] := L
    refine jr_aload_n (pc := 41) C L dX1_copyFrom_41 rfl rfl ?_
    refine jr_iload_n (pc := 42) C L dX1_copyFrom_42 rfl rfl ?_
    obtain ⟨u13, hu13, hyp⟩ := jbind hyp
    obtain ⟨q14, hq14, hyp⟩ := jbind hyp
    refine jr_callV_R (pc := 43) C S L (As := [jI x2]) (rest := []) (c_X1_textOf (m0 := m) h_x2 hq14) mv_X1_textOf ml_X1_67 rfl (jck_spec hu13) (by decide) rfl rfl rfl (Nat.le_of_ble_eq_true rfl) ⟨Nat.le_refl 0, Nat.le_refl 0⟩ dX1_copyFrom_43 (fun p15 H locs S => ?_)
    refine jr_aload_n (pc := 46) C L dX1_copyFrom_46 rfl rfl ?_
    obtain ⟨v16, hv16, hyp⟩ := jbind hyp
    refine jr_getRN (pc := 47) C S lf_X1_71 rfl hv16 dX1_copyFrom_47 ?_
    refine jr_aload_n (pc := 50) C L dX1_copyFrom_50 rfl rfl ?_
    obtain ⟨v17, hv17, hyp⟩ := jbind hyp
    have iv17 := jrf_in S hv17
    refine jr_getI (pc := 51) C S lf_X1_74 rfl hv17 dX1_copyFrom_51 ?_
    obtain ⟨u18, hu18, hyp⟩ := jbind hyp
    obtain ⟨q19, hq19, hyp⟩ := jbind hyp
    refine jr_callV_N (pc := 54) C S L (As := [jR B v16.toNat, jI v17]) (rest := []) (c_X10_take iv17 hq19) mv_X10_take ml_X1_77 rfl (jck_spec hu18) (by decide) rfl rfl rfl (Nat.le_of_ble_eq_true rfl) ⟨Nat.le_refl 0, Nat.le_refl 0⟩ dX1_copyFrom_54 (fun p20 H locs S => ?_)
    refine jr_aload_n (pc := 57) C L dX1_copyFrom_57 rfl rfl ?_
    refine jr_iload_n (pc := 58) C L dX1_copyFrom_58 rfl rfl ?_
    refine jr_aload_n (pc := 59) C L dX1_copyFrom_59 rfl rfl ?_
    refine jr_iload_n (pc := 60) C L dX1_copyFrom_60 rfl rfl ?_
    obtain ⟨u21, hu21, hyp⟩ := jbind hyp
    obtain ⟨q22, hq22, hyp⟩ := jbind hyp
    refine jr_callV_I (pc := 61) C S L (As := [jI x2]) (rest := [jI x2, jR B a0]) (c_X1_periodOf (m0 := q19) h_x2 hq22) mv_X1_periodOf ml_X1_57 rfl (jck_spec hu21) (by decide) rfl rfl rfl (by simp [jR_cat, jI_cat]) ⟨Nat.le_refl 0, Nat.le_refl 0⟩ dX1_copyFrom_61 (fun p23 H locs S => ?_)
    obtain ⟨u24, hu24, hyp⟩ := jbind hyp
    obtain ⟨q25, hq25, hyp⟩ := jbind hyp
    refine jr_callV_N (pc := 64) C S L (As := [jI x2, jI q22]) (rest := []) (c_X1_setPeriod h_x2 p23 hq25) mv_X1_setPeriod ml_X1_81 rfl (jck_spec hu24) (by decide) rfl rfl rfl (Nat.le_of_ble_eq_true rfl) ⟨Nat.le_refl 0, Nat.le_refl 0⟩ dX1_copyFrom_64 (fun p26 H locs S => ?_)
    refine jr_iinc (pc := 67) C L dX1_copyFrom_67 rfl (Nat.le_of_ble_eq_true rfl) (fun ls L => ?_)
    have L : jL ls [some (jR B a0), some (jR B a1), some (jI (jw (x2 + 1))), some (jR B q11)] := L
    refine jr_goto (pc := 70) C (tgt := 30) dX1_copyFrom_70 (by decide) ?_
    exact K30 a0 a1 (jw (x2 + 1)) (jIn_w _) q25 _ _ _ S (L.sub (jsub_s (jsub_s (jsub_s (jsub_n jsub_0))))) hyp
  · have hyp := (if_neg c9).symm.trans hyp
    refine jr_aload_n (pc := 73) C L dX1_copyFrom_73 rfl rfl ?_
    refine jr_aload_n (pc := 74) C L dX1_copyFrom_74 rfl rfl ?_
    obtain ⟨v27, hv27, hyp⟩ := jbind hyp
    have iv27 := jrf_in S hv27
    refine jr_getI (pc := 75) C S lf_X1_60 rfl hv27 dX1_copyFrom_75 ?_
    obtain ⟨m28, hm28, hyp⟩ := jbind hyp
    refine jr_putI (pc := 78) C S lf_X1_60 fp_X1_0 rfl iv27 hm28 dX1_copyFrom_78 (fun H locs S => ?_)
    refine jr_iconst (pc := 81) C dX1_copyFrom_81 ?_
    refine jr_istore_n (pc := 82) C L dX1_copyFrom_82 rfl (Nat.le_of_ble_eq_true rfl) (fun ls L => ?_)
    have L : jL ls [some (jR B a0), some (jR B a1), some (jI 0), none] := L
    exact t_X1_copyFrom_l83 C   N a0 a1 0 (show jIn 0 from ⟨by decide, by decide⟩) m28 _ _ _ S (L.sub (jsub_s (jsub_s (jsub_s (jsub_n jsub_0))))) hyp
theorem t_X1_copyFrom_l30 {p : Program} {l : Launch} {e : Env} {s : State} {mi : MethodId} {args : Array Value} {below : List Frame} {meth : Method} {c : Code} {D : va_G} {cy : Nat → ClassId} {B sz : Nat} {sh : jm_S} {res : jm_M} {N : Nat} (C : jCx p s mi args meth c cX1_copyFrom 4 RX1 none D cy) : ∀ (n : Nat) (a0 : Nat) (a1 : Nat) (x2 : Int), jIn x2 → ∀ (m : jm_M) (H : Heap) (locs : List Loc) (ls : Array Slot), jHs D cy B sz sh (jA B sz) s.heap H locs m → jL ls [some (jR B a0), some (jR B a1), some (jI x2), none] → f_X1_copyFrom_l30 N sh n a0 a1 x2 m = some res → W p l e (jrm 3 0 0) s mi args below meth c H locs 0 0 (MQ below (jQc D cy B sz sh res none True) args s 0 0 (jA B sz)) (F0 mi 30 ls []) := by
  intro n
  induction n with
  | zero => intro a0 a1 x2 h_x2 m H locs ls S L hyp; cases hyp
  | succ n ih => intro a0 a1 x2 h_x2 m H locs ls S L hyp; exact t_X1_copyFrom_b30 (N := N) C  ih h_x2 S L hyp
set_option maxHeartbeats 4000000 in
set_option maxRecDepth 100000 in
theorem t_X1_copyFrom_b2 {p : Program} {l : Launch} {e : Env} {s : State} {mi : MethodId} {args : Array Value} {below : List Frame} {meth : Method} {c : Code} {D : va_G} {cy : Nat → ClassId} {B sz : Nat} {sh : jm_S} {res : jm_M} {N : Nat} {k2 : Nat → Nat → Int → jm_M → Option jm_M} (C : jCx p s mi args meth c cX1_copyFrom 4 RX1 none D cy) (K2 : ∀ (a0 : Nat) (a1 : Nat) (x2 : Int) , jIn x2 → ∀ (m : jm_M) (H : Heap) (locs : List Loc) (ls : Array Slot), jHs D cy B sz sh (jA B sz) s.heap H locs m → jL ls [some (jR B a0), some (jR B a1), some (jI x2), none] → k2 a0 a1 x2 m = some res → W p l e (jrm 3 0 0) s mi args below meth c H locs 0 0 (MQ below (jQc D cy B sz sh res none True) args s 0 0 (jA B sz)) (F0 mi 2 ls [])) {a0 : Nat} {a1 : Nat} {x2 : Int} (h_x2 : jIn x2) {m : jm_M} {H : Heap} {locs : List Loc} {ls : Array Slot} (S : jHs D cy B sz sh (jA B sz) s.heap H locs m) (L : jL ls [some (jR B a0), some (jR B a1), some (jI x2), none]) (hyp : f_X1_copyFrom_b2 N sh k2 a0 a1 x2 m = some res) : W p l e (jrm 3 0 0) s mi args below meth c H locs 0 0 (MQ below (jQc D cy B sz sh res none True) args s 0 0 (jA B sz)) (F0 mi 2 ls []) := by
  unfold f_X1_copyFrom_b2 at hyp
  refine jr_iload_n (pc := 2) C L dX1_copyFrom_2 rfl rfl ?_
  refine jr_aload_n (pc := 3) C L dX1_copyFrom_3 rfl rfl ?_
  obtain ⟨v29, hv29, hyp⟩ := jbind hyp
  refine jr_getR (pc := 4) C S lf_X1_9 rfl hv29 dX1_copyFrom_4 ?_
  obtain ⟨v30, hv30, hyp⟩ := jbind hyp
  refine jr_alen (pc := 7) C S hv30 dX1_copyFrom_7 ?_
  refine jr_icmp_ge (pc := 8) C h_x2 (jlen_in hv30) (tgt := 28) dX1_copyFrom_8 (by decide) (fun c31 => ?_) (fun c31 => ?_)
  · have hyp := (if_pos c31).symm.trans hyp
    refine jr_aload_n (pc := 11) C L dX1_copyFrom_11 rfl rfl ?_
    obtain ⟨v32, hv32, hyp⟩ := jbind hyp
    refine jr_getR (pc := 12) C S lf_X1_9 rfl hv32 dX1_copyFrom_12 ?_
    refine jr_iload_n (pc := 15) C L dX1_copyFrom_15 rfl rfl ?_
    refine jr_aload_n (pc := 16) C L dX1_copyFrom_16 rfl rfl ?_
    refine jr_iload_n (pc := 17) C L dX1_copyFrom_17 rfl rfl ?_
    obtain ⟨u33, hu33, hyp⟩ := jbind hyp
    obtain ⟨q34, hq34, hyp⟩ := jbind hyp
    refine jr_callV_I (pc := 18) C S L (As := [jI x2]) (rest := [jI x2, jR B v32.toNat]) (c_X1_setting (m0 := m) h_x2 hq34) mv_X1_setting ml_X1_64 rfl (jck_spec hu33) (by decide) rfl rfl rfl (by simp [jR_cat, jI_cat]) ⟨Nat.le_refl 0, Nat.le_refl 0⟩ dX1_copyFrom_18 (fun p35 H locs S => ?_)
    obtain ⟨m36, hm36, hyp⟩ := jbind hyp
    refine jr_ias (pc := 21) C S h_x2 p35 hm36 dX1_copyFrom_21 (fun H locs S => ?_)
    refine jr_iinc (pc := 22) C L dX1_copyFrom_22 rfl (Nat.le_of_ble_eq_true rfl) (fun ls L => ?_)
    have L : jL ls [some (jR B a0), some (jR B a1), some (jI (jw (x2 + 1))), none] := L
    refine jr_goto (pc := 25) C (tgt := 2) dX1_copyFrom_25 (by decide) ?_
    exact K2 a0 a1 (jw (x2 + 1)) (jIn_w _) m36 _ _ _ S (L.sub (jsub_s (jsub_s (jsub_s (jsub_n jsub_0))))) hyp
  · have hyp := (if_neg c31).symm.trans hyp
    refine jr_iconst (pc := 28) C dX1_copyFrom_28 ?_
    refine jr_istore_n (pc := 29) C L dX1_copyFrom_29 rfl (Nat.le_of_ble_eq_true rfl) (fun ls L => ?_)
    have L : jL ls [some (jR B a0), some (jR B a1), some (jI 0), none] := L
    exact t_X1_copyFrom_l30 C   N a0 a1 0 (show jIn 0 from ⟨by decide, by decide⟩) m _ _ _ S (L.sub (jsub_s (jsub_s (jsub_s (jsub_n jsub_0))))) hyp
theorem t_X1_copyFrom_l2 {p : Program} {l : Launch} {e : Env} {s : State} {mi : MethodId} {args : Array Value} {below : List Frame} {meth : Method} {c : Code} {D : va_G} {cy : Nat → ClassId} {B sz : Nat} {sh : jm_S} {res : jm_M} {N : Nat} (C : jCx p s mi args meth c cX1_copyFrom 4 RX1 none D cy) : ∀ (n : Nat) (a0 : Nat) (a1 : Nat) (x2 : Int), jIn x2 → ∀ (m : jm_M) (H : Heap) (locs : List Loc) (ls : Array Slot), jHs D cy B sz sh (jA B sz) s.heap H locs m → jL ls [some (jR B a0), some (jR B a1), some (jI x2), none] → f_X1_copyFrom_l2 N sh n a0 a1 x2 m = some res → W p l e (jrm 3 0 0) s mi args below meth c H locs 0 0 (MQ below (jQc D cy B sz sh res none True) args s 0 0 (jA B sz)) (F0 mi 2 ls []) := by
  intro n
  induction n with
  | zero => intro a0 a1 x2 h_x2 m H locs ls S L hyp; cases hyp
  | succ n ih => intro a0 a1 x2 h_x2 m H locs ls S L hyp; exact t_X1_copyFrom_b2 (N := N) C  ih h_x2 S L hyp
set_option maxHeartbeats 4000000 in
set_option maxRecDepth 100000 in
theorem t_X1_copyFrom_e {p : Program} {l : Launch} {e : Env} {s : State} {mi : MethodId} {args : Array Value} {below : List Frame} {meth : Method} {c : Code} {D : va_G} {cy : Nat → ClassId} {B sz : Nat} {sh : jm_S} {res : jm_M} {N : Nat} (C : jCx p s mi args meth c cX1_copyFrom 4 RX1 none D cy) {a0 : Nat} {a1 : Nat} {m : jm_M} {H : Heap} {locs : List Loc} {ls : Array Slot} (S : jHs D cy B sz sh (jA B sz) s.heap H locs m) (L : jL ls [some (jR B a0), some (jR B a1), none, none]) (hyp : f_X1_copyFrom N sh a0 a1 m = some res) : W p l e (jrm 3 0 0) s mi args below meth c H locs 0 0 (MQ below (jQc D cy B sz sh res none True) args s 0 0 (jA B sz)) (F0 mi 0 ls []) := by
  unfold f_X1_copyFrom at hyp
  refine jr_iconst (pc := 0) C dX1_copyFrom_0 ?_
  refine jr_istore_n (pc := 1) C L dX1_copyFrom_1 rfl (Nat.le_of_ble_eq_true rfl) (fun ls L => ?_)
  have L : jL ls [some (jR B a0), some (jR B a1), some (jI 0), none] := L
  exact t_X1_copyFrom_l2 C   N a0 a1 0 (show jIn 0 from ⟨by decide, by decide⟩) m _ _ _ S (L.sub (jsub_s (jsub_s (jsub_s (jsub_n jsub_0))))) hyp
theorem c_X1_copyFrom {l : Launch} {D : va_G} {cy : Nat → ClassId} {B sz : Nat} {sh : jm_S} {res : jm_M} {N : Nat} {m : jm_M} {a0 : Nat} {a1 : Nat} (hyp : f_X1_copyFrom N sh a0 a1 m = some res) : jCt l D cy B sz sh 3 yX1_copyFrom cX1_copyFrom 4 none [jR B a0, jR B a1] m none res True :=
  jc_of (by decide) (fun v h => by simp only [List.mem_cons, List.not_mem_nil, or_false] at h; rcases h with rfl | rfl <;> first | rfl | exact jR_cat _ _) (Nat.le_of_ble_eq_true rfl) (fun C S L => t_X1_copyFrom_e C   S L hyp)
set_option maxHeartbeats 4000000 in
set_option maxRecDepth 100000 in
theorem t_X10_isFetchAt_e {p : Program} {l : Launch} {e : Env} {s : State} {mi : MethodId} {args : Array Value} {below : List Frame} {meth : Method} {c : Code} {D : va_G} {cy : Nat → ClassId} {B sz : Nat} {sh : jm_S} {res : Int} {m0 : jm_M} (C : jCx p s mi args meth c cX10_isFetchAt 2 RX10 (some .boolean) D cy) {a0 : Nat} {x1 : Int} (h_x1 : jIn x1) {H : Heap} {locs : List Loc} {ls : Array Slot} (S : jHs D cy B sz sh (jA B sz) s.heap H locs m0) (L : jL ls [some (jR B a0), some (jI x1)]) (hyp : f_X10_isFetchAt sh a0 x1 m0 = some res) : W p l e (jrm 1 0 0) s mi args below meth c H locs 0 0 (MQ below (jQc D cy B sz sh m0 (some (jI res)) (jIn res)) args s 0 0 (jA B sz)) (F0 mi 0 ls []) := by
  unfold f_X10_isFetchAt at hyp
  refine jr_aload_n (pc := 0) C L dX10_isFetchAt_0 rfl rfl ?_
  refine jr_iload_n (pc := 1) C L dX10_isFetchAt_1 rfl rfl ?_
  obtain ⟨u1, hu1, hyp⟩ := jbind hyp
  obtain ⟨q2, hq2, hyp⟩ := jbind hyp
  refine jr_callV_I (pc := 2) C S L (As := [jI x1]) (rest := []) (c_X10_signAt (m0 := m0) h_x1 hq2) mv_X10_signAt ml_X10_48 rfl (jck_spec hu1) (by decide) rfl rfl rfl (Nat.le_of_ble_eq_true rfl) ⟨Nat.le_refl 0, Nat.le_refl 0⟩ dX10_isFetchAt_2 (fun p3 H locs S => ?_)
  obtain ⟨q4, hq4, hyp⟩ := jbind hyp
  refine jr_callSN_I (pc := 5) C S L (As := [jI q2]) (rest := []) (c_X11_isLineSign (m0 := m0) p3 hq4) ms_X11_isLineSign mn_X10_31 (by decide) rfl rfl rfl (Nat.le_of_ble_eq_true rfl) ⟨Nat.le_refl 0, Nat.le_refl 0⟩ dX10_isFetchAt_5 (fun p5 H locs S => ?_)
  obtain ⟨z6, hz6, hyp⟩ := jbind hyp
  cases hyp
  exact jr_zret C S (jzb_in hz6) hz6 dX10_isFetchAt_8
theorem c_X10_isFetchAt {l : Launch} {D : va_G} {cy : Nat → ClassId} {B sz : Nat} {sh : jm_S} {res : Int} {m0 : jm_M} {a0 : Nat} {x1 : Int} (h_x1 : jIn x1) (hyp : f_X10_isFetchAt sh a0 x1 m0 = some res) : jCt l D cy B sz sh 1 yX10_isFetchAt cX10_isFetchAt 2 (some .boolean) [jR B a0, jI x1] m0 (some (jI res)) m0 (jIn res) :=
  jc_of (by decide) (fun v h => by simp only [List.mem_cons, List.not_mem_nil, or_false] at h; rcases h with rfl | rfl <;> first | rfl | exact jR_cat _ _) (Nat.le_of_ble_eq_true rfl) (fun C S L => t_X10_isFetchAt_e C  h_x1 S L hyp)
set_option maxHeartbeats 4000000 in
set_option maxRecDepth 100000 in
theorem t_X10_timesAt_e {p : Program} {l : Launch} {e : Env} {s : State} {mi : MethodId} {args : Array Value} {below : List Frame} {meth : Method} {c : Code} {D : va_G} {cy : Nat → ClassId} {B sz : Nat} {sh : jm_S} {res : Int} {m0 : jm_M} (C : jCx p s mi args meth c cX10_timesAt 3 RX10 (some .int) D cy) {a0 : Nat} {x1 : Int} (h_x1 : jIn x1) {H : Heap} {locs : List Loc} {ls : Array Slot} (S : jHs D cy B sz sh (jA B sz) s.heap H locs m0) (L : jL ls [some (jR B a0), some (jI x1), none]) (hyp : f_X10_timesAt sh a0 x1 m0 = some res) : W p l e (jrm 1 0 0) s mi args below meth c H locs 0 0 (MQ below (jQc D cy B sz sh m0 (some (jI res)) (jIn res)) args s 0 0 (jA B sz)) (F0 mi 0 ls []) := by
  unfold f_X10_timesAt at hyp
  refine jr_aload_n (pc := 0) C L dX10_timesAt_0 rfl rfl ?_
  refine jr_iload_n (pc := 1) C L dX10_timesAt_1 rfl rfl ?_
  obtain ⟨u1, hu1, hyp⟩ := jbind hyp
  obtain ⟨q2, hq2, hyp⟩ := jbind hyp
  refine jr_callV_I (pc := 2) C S L (As := [jI x1]) (rest := []) (c_X10_signAt (m0 := m0) h_x1 hq2) mv_X10_signAt ml_X10_48 rfl (jck_spec hu1) (by decide) rfl rfl rfl (Nat.le_of_ble_eq_true rfl) ⟨Nat.le_refl 0, Nat.le_refl 0⟩ dX10_timesAt_2 (fun p3 H locs S => ?_)
  refine jr_istore_n (pc := 5) C L dX10_timesAt_5 rfl (Nat.le_of_ble_eq_true rfl) (fun ls L => ?_)
  have L : jL ls [some (jR B a0), some (jI x1), some (jI q2)] := L
  refine jr_iload_n (pc := 6) C L dX10_timesAt_6 rfl rfl ?_
  refine jr_bipush (pc := 7) C dX10_timesAt_7 (by decide) ?_
  refine jr_icmp_lt (pc := 9) C p3 (show jIn 98 from ⟨by decide, by decide⟩) (tgt := 27) dX10_timesAt_9 (by decide) (fun c4 => ?_) (fun c4 => ?_)
  · have hyp := (if_pos c4).symm.trans hyp
    refine jr_iconst (pc := 27) C dX10_timesAt_27 ?_
    cases hyp
    exact jr_iret C S (show jIn 0 from ⟨by decide, by decide⟩) dX10_timesAt_28
  · have hyp := (if_neg c4).symm.trans hyp
    refine jr_iload_n (pc := 12) C L dX10_timesAt_12 rfl rfl ?_
    refine jr_bipush (pc := 13) C dX10_timesAt_13 (by decide) ?_
    refine jr_icmp_gt (pc := 15) C p3 (show jIn 100 from ⟨by decide, by decide⟩) (tgt := 27) dX10_timesAt_15 (by decide) (fun c5 => ?_) (fun c5 => ?_)
    · have hyp := (if_pos c5).symm.trans hyp
      refine jr_iconst (pc := 27) C dX10_timesAt_27 ?_
      cases hyp
      exact jr_iret C S (show jIn 0 from ⟨by decide, by decide⟩) dX10_timesAt_28
    · have hyp := (if_neg c5).symm.trans hyp
      refine jr_iload_n (pc := 18) C L dX10_timesAt_18 rfl rfl ?_
      refine jr_bipush (pc := 19) C dX10_timesAt_19 (by decide) ?_
      refine jr_isub (pc := 21) C dX10_timesAt_21 ?_
      refine jr_iconst (pc := 22) C dX10_timesAt_22 ?_
      refine jr_iadd (pc := 23) C dX10_timesAt_23 ?_
      refine jr_goto (pc := 24) C (tgt := 28) dX10_timesAt_24 (by decide) ?_
      cases hyp
      exact jr_iret C S (jIn_w _) dX10_timesAt_28
theorem c_X10_timesAt {l : Launch} {D : va_G} {cy : Nat → ClassId} {B sz : Nat} {sh : jm_S} {res : Int} {m0 : jm_M} {a0 : Nat} {x1 : Int} (h_x1 : jIn x1) (hyp : f_X10_timesAt sh a0 x1 m0 = some res) : jCt l D cy B sz sh 1 yX10_timesAt cX10_timesAt 3 (some .int) [jR B a0, jI x1] m0 (some (jI res)) m0 (jIn res) :=
  jc_of (by decide) (fun v h => by simp only [List.mem_cons, List.not_mem_nil, or_false] at h; rcases h with rfl | rfl <;> first | rfl | exact jR_cat _ _) (Nat.le_of_ble_eq_true rfl) (fun C S L => t_X10_timesAt_e C  h_x1 S L hyp)
set_option maxHeartbeats 4000000 in
set_option maxRecDepth 100000 in
theorem t_X10_isLoopAround_e {p : Program} {l : Launch} {e : Env} {s : State} {mi : MethodId} {args : Array Value} {below : List Frame} {meth : Method} {c : Code} {D : va_G} {cy : Nat → ClassId} {B sz : Nat} {sh : jm_S} {res : Int} {m0 : jm_M} (C : jCx p s mi args meth c cX10_isLoopAround 3 RX10 (some .boolean) D cy) {a0 : Nat} {x1 : Int} (h_x1 : jIn x1) {x2 : Int} (h_x2 : jIn x2) {H : Heap} {locs : List Loc} {ls : Array Slot} (S : jHs D cy B sz sh (jA B sz) s.heap H locs m0) (L : jL ls [some (jR B a0), some (jI x1), some (jI x2)]) (hyp : f_X10_isLoopAround sh a0 x1 x2 m0 = some res) : W p l e (jrm 2 0 0) s mi args below meth c H locs 0 0 (MQ below (jQc D cy B sz sh m0 (some (jI res)) (jIn res)) args s 0 0 (jA B sz)) (F0 mi 0 ls []) := by
  unfold f_X10_isLoopAround at hyp
  refine jr_aload_n (pc := 0) C L dX10_isLoopAround_0 rfl rfl ?_
  refine jr_iload_n (pc := 1) C L dX10_isLoopAround_1 rfl rfl ?_
  obtain ⟨u1, hu1, hyp⟩ := jbind hyp
  obtain ⟨q2, hq2, hyp⟩ := jbind hyp
  refine jr_callV_I (pc := 2) C S L (As := [jI x1]) (rest := []) (c_X10_timesAt (m0 := m0) h_x1 hq2) mv_X10_timesAt ml_X10_51 rfl (jck_spec hu1) (by decide) rfl rfl rfl (Nat.le_of_ble_eq_true rfl) ⟨Nat.le_refl 0, Nat.le_refl 0⟩ dX10_isLoopAround_2 (fun p3 H locs S => ?_)
  refine jr_if_le (pc := 5) C p3 (tgt := 28) dX10_isLoopAround_5 (by decide) (fun c4 => ?_) (fun c4 => ?_)
  · have hyp := (if_pos c4).symm.trans hyp
    refine jr_iload_n (pc := 8) C L dX10_isLoopAround_8 rfl rfl ?_
    refine jr_iload_n (pc := 9) C L dX10_isLoopAround_9 rfl rfl ?_
    refine jr_icmp_ge (pc := 10) C h_x1 h_x2 (tgt := 28) dX10_isLoopAround_10 (by decide) (fun c5 => ?_) (fun c5 => ?_)
    · have hyp := (if_pos c5).symm.trans hyp
      refine jr_iload_n (pc := 13) C L dX10_isLoopAround_13 rfl rfl ?_
      refine jr_iload_n (pc := 14) C L dX10_isLoopAround_14 rfl rfl ?_
      refine jr_aload_n (pc := 15) C L dX10_isLoopAround_15 rfl rfl ?_
      refine jr_iload_n (pc := 16) C L dX10_isLoopAround_16 rfl rfl ?_
      obtain ⟨u6, hu6, hyp⟩ := jbind hyp
      obtain ⟨q7, hq7, hyp⟩ := jbind hyp
      refine jr_callV_I (pc := 17) C S L (As := [jI x1]) (rest := [jI x1, jI x2]) (c_X10_sizeAt (m0 := m0) h_x1 hq7) mv_X10_sizeAt ml_X10_42 rfl (jck_spec hu6) (by decide) rfl rfl rfl (Nat.le_of_ble_eq_true rfl) ⟨Nat.le_refl 0, Nat.le_refl 0⟩ dX10_isLoopAround_17 (fun p8 H locs S => ?_)
      refine jr_iadd (pc := 20) C dX10_isLoopAround_20 ?_
      refine jr_icmp_ge (pc := 21) C h_x2 (jIn_w _) (tgt := 28) dX10_isLoopAround_21 (by decide) (fun c9 => ?_) (fun c9 => ?_)
      · have hyp := (if_pos c9).symm.trans hyp
        refine jr_iconst (pc := 24) C dX10_isLoopAround_24 ?_
        refine jr_goto (pc := 25) C (tgt := 29) dX10_isLoopAround_25 (by decide) ?_
        cases hyp
        exact jr_zret C S (show jIn 1 from ⟨by decide, by decide⟩) rfl dX10_isLoopAround_29
      · have hyp := (if_neg c9).symm.trans hyp
        refine jr_iconst (pc := 28) C dX10_isLoopAround_28 ?_
        cases hyp
        exact jr_zret C S (show jIn 0 from ⟨by decide, by decide⟩) rfl dX10_isLoopAround_29
    · have hyp := (if_neg c5).symm.trans hyp
      refine jr_iconst (pc := 28) C dX10_isLoopAround_28 ?_
      cases hyp
      exact jr_zret C S (show jIn 0 from ⟨by decide, by decide⟩) rfl dX10_isLoopAround_29
  · have hyp := (if_neg c4).symm.trans hyp
    refine jr_iconst (pc := 28) C dX10_isLoopAround_28 ?_
    cases hyp
    exact jr_zret C S (show jIn 0 from ⟨by decide, by decide⟩) rfl dX10_isLoopAround_29
theorem c_X10_isLoopAround {l : Launch} {D : va_G} {cy : Nat → ClassId} {B sz : Nat} {sh : jm_S} {res : Int} {m0 : jm_M} {a0 : Nat} {x1 : Int} (h_x1 : jIn x1) {x2 : Int} (h_x2 : jIn x2) (hyp : f_X10_isLoopAround sh a0 x1 x2 m0 = some res) : jCt l D cy B sz sh 2 yX10_isLoopAround cX10_isLoopAround 3 (some .boolean) [jR B a0, jI x1, jI x2] m0 (some (jI res)) m0 (jIn res) :=
  jc_of (by decide) (fun v h => by simp only [List.mem_cons, List.not_mem_nil, or_false] at h; rcases h with rfl | rfl | rfl <;> first | rfl | exact jR_cat _ _) (Nat.le_of_ble_eq_true rfl) (fun C S L => t_X10_isLoopAround_e C  h_x1 h_x2 S L hyp)
set_option maxHeartbeats 4000000 in
set_option maxRecDepth 100000 in
theorem t_X2_loopThatKeeps_b75 {p : Program} {l : Launch} {e : Env} {s : State} {mi : MethodId} {args : Array Value} {below : List Frame} {meth : Method} {c : Code} {D : va_G} {cy : Nat → ClassId} {B sz : Nat} {sh : jm_S} {res : Int} {N : Nat} {m0 : jm_M} {k35 : Nat → Int → Int → Int → Int → Option Int} (C : jCx p s mi args meth c cX2_loopThatKeeps 5 RX2 (some .int) D cy) (K35 : ∀ (a0 : Nat) (x1 : Int) (x2 : Int) (x3 : Int) (x4 : Int) , jIn x1 → jIn x2 → jIn x3 → jIn x4 → ∀ (H : Heap) (locs : List Loc) (ls : Array Slot), jHs D cy B sz sh (jA B sz) s.heap H locs m0 → jL ls [some (jR B a0), some (jI x1), some (jI x2), some (jI x3), some (jI x4)] → k35 a0 x1 x2 x3 x4 = some res → W p l e (jrm 3 0 0) s mi args below meth c H locs 0 0 (MQ below (jQc D cy B sz sh m0 (some (jI res)) (jIn res)) args s 0 0 (jA B sz)) (F0 mi 35 ls [])) {a0 : Nat} {x1 : Int} (h_x1 : jIn x1) {x2 : Int} (h_x2 : jIn x2) {x3 : Int} (h_x3 : jIn x3) {x4 : Int} (h_x4 : jIn x4) {H : Heap} {locs : List Loc} {ls : Array Slot} (S : jHs D cy B sz sh (jA B sz) s.heap H locs m0) (L : jL ls [some (jR B a0), some (jI x1), some (jI x2), some (jI x3), some (jI x4)]) (hyp : f_X2_loopThatKeeps_b75 N sh k35 a0 x1 x2 x3 x4 m0 = some res) : W p l e (jrm 3 0 0) s mi args below meth c H locs 0 0 (MQ below (jQc D cy B sz sh m0 (some (jI res)) (jIn res)) args s 0 0 (jA B sz)) (F0 mi 75 ls []) := by
  unfold f_X2_loopThatKeeps_b75 at hyp
  refine jr_iinc (pc := 75) C L dX2_loopThatKeeps_75 rfl (Nat.le_of_ble_eq_true rfl) (fun ls L => ?_)
  have L : jL ls [some (jR B a0), some (jI x1), some (jI x2), some (jI x3), some (jI (jw (x4 + 1)))] := L
  refine jr_goto (pc := 78) C (tgt := 35) dX2_loopThatKeeps_78 (by decide) ?_
  exact K35 a0 x1 x2 x3 (jw (x4 + 1)) h_x1 h_x2 h_x3 (jIn_w _)  _ _ _ S (L.sub (jsub_s (jsub_s (jsub_s (jsub_s (jsub_s jsub_0)))))) hyp
set_option maxHeartbeats 4000000 in
set_option maxRecDepth 100000 in
theorem t_X2_loopThatKeeps_b35 {p : Program} {l : Launch} {e : Env} {s : State} {mi : MethodId} {args : Array Value} {below : List Frame} {meth : Method} {c : Code} {D : va_G} {cy : Nat → ClassId} {B sz : Nat} {sh : jm_S} {res : Int} {N : Nat} {m0 : jm_M} {k35 : Nat → Int → Int → Int → Int → Option Int} (C : jCx p s mi args meth c cX2_loopThatKeeps 5 RX2 (some .int) D cy) (K35 : ∀ (a0 : Nat) (x1 : Int) (x2 : Int) (x3 : Int) (x4 : Int) , jIn x1 → jIn x2 → jIn x3 → jIn x4 → ∀ (H : Heap) (locs : List Loc) (ls : Array Slot), jHs D cy B sz sh (jA B sz) s.heap H locs m0 → jL ls [some (jR B a0), some (jI x1), some (jI x2), some (jI x3), some (jI x4)] → k35 a0 x1 x2 x3 x4 = some res → W p l e (jrm 3 0 0) s mi args below meth c H locs 0 0 (MQ below (jQc D cy B sz sh m0 (some (jI res)) (jIn res)) args s 0 0 (jA B sz)) (F0 mi 35 ls [])) {a0 : Nat} {x1 : Int} (h_x1 : jIn x1) {x2 : Int} (h_x2 : jIn x2) {x3 : Int} (h_x3 : jIn x3) {x4 : Int} (h_x4 : jIn x4) {H : Heap} {locs : List Loc} {ls : Array Slot} (S : jHs D cy B sz sh (jA B sz) s.heap H locs m0) (L : jL ls [some (jR B a0), some (jI x1), some (jI x2), some (jI x3), some (jI x4)]) (hyp : f_X2_loopThatKeeps_b35 N sh k35 a0 x1 x2 x3 x4 m0 = some res) : W p l e (jrm 3 0 0) s mi args below meth c H locs 0 0 (MQ below (jQc D cy B sz sh m0 (some (jI res)) (jIn res)) args s 0 0 (jA B sz)) (F0 mi 35 ls []) := by
  unfold f_X2_loopThatKeeps_b35 at hyp
  refine jr_iload (pc := 35) C L dX2_loopThatKeeps_35 rfl ?_
  refine jr_iload_n (pc := 37) C L dX2_loopThatKeeps_37 rfl rfl ?_
  refine jr_icmp_ge (pc := 38) C h_x4 h_x1 (tgt := 81) dX2_loopThatKeeps_38 (by decide) (fun c1 => ?_) (fun c1 => ?_)
  · have hyp := (if_pos c1).symm.trans hyp
    refine jr_aload_n (pc := 41) C L dX2_loopThatKeeps_41 rfl rfl ?_
    obtain ⟨v2, hv2, hyp⟩ := jbind hyp
    refine jr_getR (pc := 42) C S lf_X2_32 rfl hv2 dX2_loopThatKeeps_42 ?_
    refine jr_iload (pc := 45) C L dX2_loopThatKeeps_45 rfl ?_
    refine jr_iload_n (pc := 47) C L dX2_loopThatKeeps_47 rfl rfl ?_
    obtain ⟨u3, hu3, hyp⟩ := jbind hyp
    obtain ⟨q4, hq4, hyp⟩ := jbind hyp
    refine jr_callV_I (pc := 48) C S L (As := [jI x4, jI x1]) (rest := []) (c_X10_isLoopAround (m0 := m0) h_x4 h_x1 hq4) mv_X10_isLoopAround ml_X2_95 rfl (jck_spec hu3) (by decide) rfl rfl rfl (Nat.le_of_ble_eq_true rfl) ⟨Nat.le_refl 0, Nat.le_refl 0⟩ dX2_loopThatKeeps_48 (fun p5 H locs S => ?_)
    refine jr_if_eq (pc := 51) C p5 (tgt := 75) dX2_loopThatKeeps_51 (by decide) (fun c6 => ?_) (fun c6 => ?_)
    · have hyp := (if_pos c6).symm.trans hyp
      exact t_X2_loopThatKeeps_b75 C  K35 h_x1 h_x2 h_x3 h_x4 S (L.sub (jsub_s (jsub_s (jsub_s (jsub_s (jsub_s jsub_0)))))) hyp
    · have hyp := (if_neg c6).symm.trans hyp
      refine jr_aload_n (pc := 54) C L dX2_loopThatKeeps_54 rfl rfl ?_
      obtain ⟨v7, hv7, hyp⟩ := jbind hyp
      refine jr_getR (pc := 55) C S lf_X2_32 rfl hv7 dX2_loopThatKeeps_55 ?_
      refine jr_iload (pc := 58) C L dX2_loopThatKeeps_58 rfl ?_
      obtain ⟨u8, hu8, hyp⟩ := jbind hyp
      obtain ⟨q9, hq9, hyp⟩ := jbind hyp
      refine jr_callV_I (pc := 60) C S L (As := [jI x4]) (rest := []) (c_X10_linesWithin (m0 := m0) h_x4 hq9) mv_X10_linesWithin ml_X2_99 rfl (jck_spec hu8) (by decide) rfl rfl rfl (Nat.le_of_ble_eq_true rfl) ⟨Nat.le_refl 0, Nat.le_refl 0⟩ dX2_loopThatKeeps_60 (fun p10 H locs S => ?_)
      refine jr_iload_n (pc := 63) C L dX2_loopThatKeeps_63 rfl rfl ?_
      refine jr_iand (pc := 64) C dX2_loopThatKeeps_64 ?_
      obtain ⟨q11, hq11, hyp⟩ := jbind hyp
      refine jr_callS_I (pc := 65) C S L (As := [jI (jand q9 x2)]) (rest := []) (c_J6_bitCount_0f7a4 (m0 := m0) (jIn_and _ _) hq11) ms_J6_bitCount_0f7a4 ml_X2_65 (by decide) rfl rfl rfl (Nat.le_of_ble_eq_true rfl) ⟨Nat.le_refl 0, Nat.le_refl 0⟩ dX2_loopThatKeeps_65 (fun p12 H locs S => ?_)
      refine jr_iload_n (pc := 68) C L dX2_loopThatKeeps_68 rfl rfl ?_
      refine jr_icmp_gt (pc := 69) C p12 h_x3 (tgt := 75) dX2_loopThatKeeps_69 (by decide) (fun c13 => ?_) (fun c13 => ?_)
      · have hyp := (if_pos c13).symm.trans hyp
        exact t_X2_loopThatKeeps_b75 C  K35 h_x1 h_x2 h_x3 h_x4 S (L.sub (jsub_s (jsub_s (jsub_s (jsub_s (jsub_s jsub_0)))))) hyp
      · have hyp := (if_neg c13).symm.trans hyp
        refine jr_iload (pc := 72) C L dX2_loopThatKeeps_72 rfl ?_
        cases hyp
        exact jr_iret C S h_x4 dX2_loopThatKeeps_74
  · have hyp := (if_neg c1).symm.trans hyp
    refine jr_iconst (pc := 81) C dX2_loopThatKeeps_81 ?_
    cases hyp
    exact jr_iret C S (show jIn (-1) from ⟨by decide, by decide⟩) dX2_loopThatKeeps_82
theorem t_X2_loopThatKeeps_l35 {p : Program} {l : Launch} {e : Env} {s : State} {mi : MethodId} {args : Array Value} {below : List Frame} {meth : Method} {c : Code} {D : va_G} {cy : Nat → ClassId} {B sz : Nat} {sh : jm_S} {res : Int} {N : Nat} {m0 : jm_M} (C : jCx p s mi args meth c cX2_loopThatKeeps 5 RX2 (some .int) D cy) : ∀ (n : Nat) (a0 : Nat) (x1 : Int) (x2 : Int) (x3 : Int) (x4 : Int), jIn x1 → jIn x2 → jIn x3 → jIn x4 → ∀ (H : Heap) (locs : List Loc) (ls : Array Slot), jHs D cy B sz sh (jA B sz) s.heap H locs m0 → jL ls [some (jR B a0), some (jI x1), some (jI x2), some (jI x3), some (jI x4)] → f_X2_loopThatKeeps_l35 N sh n a0 x1 x2 x3 x4 m0 = some res → W p l e (jrm 3 0 0) s mi args below meth c H locs 0 0 (MQ below (jQc D cy B sz sh m0 (some (jI res)) (jIn res)) args s 0 0 (jA B sz)) (F0 mi 35 ls []) := by
  intro n
  induction n with
  | zero => intro a0 x1 x2 x3 x4 h_x1 h_x2 h_x3 h_x4 H locs ls S L hyp; cases hyp
  | succ n ih => intro a0 x1 x2 x3 x4 h_x1 h_x2 h_x3 h_x4 H locs ls S L hyp; exact t_X2_loopThatKeeps_b35 (N := N) C  ih h_x1 h_x2 h_x3 h_x4 S L hyp
set_option maxHeartbeats 4000000 in
set_option maxRecDepth 100000 in
theorem t_X2_loopThatKeeps_e {p : Program} {l : Launch} {e : Env} {s : State} {mi : MethodId} {args : Array Value} {below : List Frame} {meth : Method} {c : Code} {D : va_G} {cy : Nat → ClassId} {B sz : Nat} {sh : jm_S} {res : Int} {N : Nat} {m0 : jm_M} (C : jCx p s mi args meth c cX2_loopThatKeeps 5 RX2 (some .int) D cy) {a0 : Nat} {x1 : Int} (h_x1 : jIn x1) {H : Heap} {locs : List Loc} {ls : Array Slot} (S : jHs D cy B sz sh (jA B sz) s.heap H locs m0) (L : jL ls [some (jR B a0), some (jI x1), none, none, none]) (hyp : f_X2_loopThatKeeps N sh a0 x1 m0 = some res) : W p l e (jrm 3 0 0) s mi args below meth c H locs 0 0 (MQ below (jQc D cy B sz sh m0 (some (jI res)) (jIn res)) args s 0 0 (jA B sz)) (F0 mi 0 ls []) := by
  unfold f_X2_loopThatKeeps at hyp
  refine jr_aload_n (pc := 0) C L dX2_loopThatKeeps_0 rfl rfl ?_
  obtain ⟨v14, hv14, hyp⟩ := jbind hyp
  refine jr_getR (pc := 1) C S lf_X2_18 rfl hv14 dX2_loopThatKeeps_1 ?_
  refine jr_aload_n (pc := 4) C L dX2_loopThatKeeps_4 rfl rfl ?_
  obtain ⟨v15, hv15, hyp⟩ := jbind hyp
  refine jr_getR (pc := 5) C S lf_X2_32 rfl hv15 dX2_loopThatKeeps_5 ?_
  refine jr_iload_n (pc := 8) C L dX2_loopThatKeeps_8 rfl rfl ?_
  obtain ⟨u16, hu16, hyp⟩ := jbind hyp
  obtain ⟨q17, hq17, hyp⟩ := jbind hyp
  refine jr_callV_I (pc := 9) C S L (As := [jI x1]) (rest := [jR B v14.toNat]) (c_X10_lineAt (m0 := m0) h_x1 hq17) mv_X10_lineAt ml_X2_73 rfl (jck_spec hu16) (by decide) rfl rfl rfl (by simp [jR_cat, jI_cat]) ⟨Nat.le_refl 0, Nat.le_refl 0⟩ dX2_loopThatKeeps_9 (fun p18 H locs S => ?_)
  obtain ⟨u19, hu19, hyp⟩ := jbind hyp
  obtain ⟨q20, hq20, hyp⟩ := jbind hyp
  refine jr_callV_I (pc := 12) C S L (As := [jI q17]) (rest := []) (c_X1_freeMates (m0 := m0) p18 hq20) mv_X1_freeMates ml_X2_92 rfl (jck_spec hu19) (by decide) rfl rfl rfl (Nat.le_of_ble_eq_true rfl) ⟨Nat.le_refl 0, Nat.le_refl 0⟩ dX2_loopThatKeeps_12 (fun p21 H locs S => ?_)
  refine jr_istore_n (pc := 15) C L dX2_loopThatKeeps_15 rfl (Nat.le_of_ble_eq_true rfl) (fun ls L => ?_)
  have L : jL ls [some (jR B a0), some (jI x1), some (jI q20), none, none] := L
  refine jr_aload_n (pc := 16) C L dX2_loopThatKeeps_16 rfl rfl ?_
  obtain ⟨v22, hv22, hyp⟩ := jbind hyp
  refine jr_getR (pc := 17) C S lf_X2_18 rfl hv22 dX2_loopThatKeeps_17 ?_
  refine jr_aload_n (pc := 20) C L dX2_loopThatKeeps_20 rfl rfl ?_
  obtain ⟨v23, hv23, hyp⟩ := jbind hyp
  refine jr_getR (pc := 21) C S lf_X2_32 rfl hv23 dX2_loopThatKeeps_21 ?_
  refine jr_iload_n (pc := 24) C L dX2_loopThatKeeps_24 rfl rfl ?_
  obtain ⟨u24, hu24, hyp⟩ := jbind hyp
  obtain ⟨q25, hq25, hyp⟩ := jbind hyp
  refine jr_callV_I (pc := 25) C S L (As := [jI x1]) (rest := [jR B v22.toNat]) (c_X10_lineAt (m0 := m0) h_x1 hq25) mv_X10_lineAt ml_X2_73 rfl (jck_spec hu24) (by decide) rfl rfl rfl (by simp [jR_cat, jI_cat]) ⟨Nat.le_refl 0, Nat.le_refl 0⟩ dX2_loopThatKeeps_25 (fun p26 H locs S => ?_)
  obtain ⟨u27, hu27, hyp⟩ := jbind hyp
  obtain ⟨q28, hq28, hyp⟩ := jbind hyp
  refine jr_callV_I (pc := 28) C S L (As := [jI q25]) (rest := []) (c_X1_roomFor (m0 := m0) p26 hq28) mv_X1_roomFor ml_X2_76 rfl (jck_spec hu27) (by decide) rfl rfl rfl (Nat.le_of_ble_eq_true rfl) ⟨Nat.le_refl 0, Nat.le_refl 0⟩ dX2_loopThatKeeps_28 (fun p29 H locs S => ?_)
  refine jr_istore_n (pc := 31) C L dX2_loopThatKeeps_31 rfl (Nat.le_of_ble_eq_true rfl) (fun ls L => ?_)
  have L : jL ls [some (jR B a0), some (jI x1), some (jI q20), some (jI q28), none] := L
  refine jr_iconst (pc := 32) C dX2_loopThatKeeps_32 ?_
  refine jr_istore (pc := 33) C L dX2_loopThatKeeps_33 (Nat.le_of_ble_eq_true rfl) (fun ls L => ?_)
  have L : jL ls [some (jR B a0), some (jI x1), some (jI q20), some (jI q28), some (jI 0)] := L
  exact t_X2_loopThatKeeps_l35 C   N a0 x1 q20 q28 0 h_x1 p21 p29 (show jIn 0 from ⟨by decide, by decide⟩)  _ _ _ S (L.sub (jsub_s (jsub_s (jsub_s (jsub_s (jsub_s jsub_0)))))) hyp
theorem c_X2_loopThatKeeps {l : Launch} {D : va_G} {cy : Nat → ClassId} {B sz : Nat} {sh : jm_S} {res : Int} {N : Nat} {m0 : jm_M} {a0 : Nat} {x1 : Int} (h_x1 : jIn x1) (hyp : f_X2_loopThatKeeps N sh a0 x1 m0 = some res) : jCt l D cy B sz sh 3 yX2_loopThatKeeps cX2_loopThatKeeps 5 (some .int) [jR B a0, jI x1] m0 (some (jI res)) m0 (jIn res) :=
  jc_of (by decide) (fun v h => by simp only [List.mem_cons, List.not_mem_nil, or_false] at h; rcases h with rfl | rfl <;> first | rfl | exact jR_cat _ _) (Nat.le_of_ble_eq_true rfl) (fun C S L => t_X2_loopThatKeeps_e C  h_x1 S L hyp)
set_option maxHeartbeats 4000000 in
set_option maxRecDepth 100000 in
theorem t_X2_sortOf_e {p : Program} {l : Launch} {e : Env} {s : State} {mi : MethodId} {args : Array Value} {below : List Frame} {meth : Method} {c : Code} {D : va_G} {cy : Nat → ClassId} {B sz : Nat} {sh : jm_S} {res : Int} {N : Nat} {m0 : jm_M} (C : jCx p s mi args meth c cX2_sortOf 4 RX2 (some .int) D cy) {a0 : Nat} {x1 : Int} (h_x1 : jIn x1) {H : Heap} {locs : List Loc} {ls : Array Slot} (S : jHs D cy B sz sh (jA B sz) s.heap H locs m0) (L : jL ls [some (jR B a0), some (jI x1), none, none]) (hyp : f_X2_sortOf N sh a0 x1 m0 = some res) : W p l e (jrm 4 0 0) s mi args below meth c H locs 0 0 (MQ below (jQc D cy B sz sh m0 (some (jI res)) (jIn res)) args s 0 0 (jA B sz)) (F0 mi 0 ls []) := by
  unfold f_X2_sortOf at hyp
  refine jr_aload_n (pc := 0) C L dX2_sortOf_0 rfl rfl ?_
  obtain ⟨v1, hv1, hyp⟩ := jbind hyp
  refine jr_getR (pc := 1) C S lf_X2_32 rfl hv1 dX2_sortOf_1 ?_
  refine jr_iload_n (pc := 4) C L dX2_sortOf_4 rfl rfl ?_
  obtain ⟨u2, hu2, hyp⟩ := jbind hyp
  obtain ⟨q3, hq3, hyp⟩ := jbind hyp
  refine jr_callV_I (pc := 5) C S L (As := [jI x1]) (rest := []) (c_X10_lineAt (m0 := m0) h_x1 hq3) mv_X10_lineAt ml_X2_73 rfl (jck_spec hu2) (by decide) rfl rfl rfl (Nat.le_of_ble_eq_true rfl) ⟨Nat.le_refl 0, Nat.le_refl 0⟩ dX2_sortOf_5 (fun p4 H locs S => ?_)
  refine jr_istore_n (pc := 8) C L dX2_sortOf_8 rfl (Nat.le_of_ble_eq_true rfl) (fun ls L => ?_)
  have L : jL ls [some (jR B a0), some (jI x1), some (jI q3), none] := L
  refine jr_aload_n (pc := 9) C L dX2_sortOf_9 rfl rfl ?_
  obtain ⟨v5, hv5, hyp⟩ := jbind hyp
  refine jr_getR (pc := 10) C S lf_X2_18 rfl hv5 dX2_sortOf_10 ?_
  refine jr_iload_n (pc := 13) C L dX2_sortOf_13 rfl rfl ?_
  obtain ⟨u6, hu6, hyp⟩ := jbind hyp
  obtain ⟨q7, hq7, hyp⟩ := jbind hyp
  refine jr_callV_I (pc := 14) C S L (As := [jI q3]) (rest := []) (c_X1_roomFor (m0 := m0) p4 hq7) mv_X1_roomFor ml_X2_76 rfl (jck_spec hu6) (by decide) rfl rfl rfl (Nat.le_of_ble_eq_true rfl) ⟨Nat.le_refl 0, Nat.le_refl 0⟩ dX2_sortOf_14 (fun p8 H locs S => ?_)
  refine jr_istore_n (pc := 17) C L dX2_sortOf_17 rfl (Nat.le_of_ble_eq_true rfl) (fun ls L => ?_)
  have L : jL ls [some (jR B a0), some (jI x1), some (jI q3), some (jI q7)] := L
  refine jr_aload_n (pc := 18) C L dX2_sortOf_18 rfl rfl ?_
  obtain ⟨v9, hv9, hyp⟩ := jbind hyp
  refine jr_getR (pc := 19) C S lf_X2_18 rfl hv9 dX2_sortOf_19 ?_
  refine jr_iload_n (pc := 22) C L dX2_sortOf_22 rfl rfl ?_
  obtain ⟨u10, hu10, hyp⟩ := jbind hyp
  obtain ⟨q11, hq11, hyp⟩ := jbind hyp
  refine jr_callV_I (pc := 23) C S L (As := [jI q3]) (rest := []) (c_X1_holds (m0 := m0) p4 hq11) mv_X1_holds ml_X2_79 rfl (jck_spec hu10) (by decide) rfl rfl rfl (Nat.le_of_ble_eq_true rfl) ⟨Nat.le_refl 0, Nat.le_refl 0⟩ dX2_sortOf_23 (fun p12 H locs S => ?_)
  refine jr_if_ne (pc := 26) C p12 (tgt := 42) dX2_sortOf_26 (by decide) (fun c13 => ?_) (fun c13 => ?_)
  · have hyp := (if_pos c13).symm.trans hyp
    refine jr_aload_n (pc := 29) C L dX2_sortOf_29 rfl rfl ?_
    obtain ⟨v14, hv14, hyp⟩ := jbind hyp
    refine jr_getR (pc := 30) C S lf_X2_22 rfl hv14 dX2_sortOf_30 ?_
    refine jr_iload_n (pc := 33) C L dX2_sortOf_33 rfl rfl ?_
    refine jr_iload_n (pc := 34) C L dX2_sortOf_34 rfl rfl ?_
    obtain ⟨u15, hu15, hyp⟩ := jbind hyp
    obtain ⟨q16, hq16, hyp⟩ := jbind hyp
    refine jr_callV_I (pc := 35) C S L (As := [jI x1, jI q3]) (rest := []) (c_X0_mustAt (m0 := m0) h_x1 p4 hq16) mv_X0_mustAt ml_X2_82 rfl (jck_spec hu15) (by decide) rfl rfl rfl (Nat.le_of_ble_eq_true rfl) ⟨Nat.le_refl 0, Nat.le_refl 0⟩ dX2_sortOf_35 (fun p17 H locs S => ?_)
    refine jr_iload_n (pc := 38) C L dX2_sortOf_38 rfl rfl ?_
    refine jr_icmp_ge (pc := 39) C p17 p8 (tgt := 44) dX2_sortOf_39 (by decide) (fun c18 => ?_) (fun c18 => ?_)
    · have hyp := (if_pos c18).symm.trans hyp
      refine jr_iconst (pc := 42) C dX2_sortOf_42 ?_
      cases hyp
      exact jr_iret C S (show jIn 0 from ⟨by decide, by decide⟩) dX2_sortOf_43
    · have hyp := (if_neg c18).symm.trans hyp
      refine jr_aload_n (pc := 44) C L dX2_sortOf_44 rfl rfl ?_
      obtain ⟨v19, hv19, hyp⟩ := jbind hyp
      refine jr_getR (pc := 45) C S lf_X2_22 rfl hv19 dX2_sortOf_45 ?_
      refine jr_iload_n (pc := 48) C L dX2_sortOf_48 rfl rfl ?_
      refine jr_iload_n (pc := 49) C L dX2_sortOf_49 rfl rfl ?_
      obtain ⟨u20, hu20, hyp⟩ := jbind hyp
      obtain ⟨q21, hq21, hyp⟩ := jbind hyp
      refine jr_callV_I (pc := 50) C S L (As := [jI x1, jI q3]) (rest := []) (c_X0_mayAt (m0 := m0) h_x1 p4 hq21) mv_X0_mayAt ml_X2_86 rfl (jck_spec hu20) (by decide) rfl rfl rfl (Nat.le_of_ble_eq_true rfl) ⟨Nat.le_refl 0, Nat.le_refl 0⟩ dX2_sortOf_50 (fun p22 H locs S => ?_)
      refine jr_iload_n (pc := 53) C L dX2_sortOf_53 rfl rfl ?_
      refine jr_icmp_ne (pc := 54) C p22 p8 (tgt := 59) dX2_sortOf_54 (by decide) (fun c23 => ?_) (fun c23 => ?_)
      · have hyp := (if_pos c23).symm.trans hyp
        refine jr_iconst (pc := 57) C dX2_sortOf_57 ?_
        cases hyp
        exact jr_iret C S (show jIn 1 from ⟨by decide, by decide⟩) dX2_sortOf_58
      · have hyp := (if_neg c23).symm.trans hyp
        refine jr_aload_n (pc := 59) C L dX2_sortOf_59 rfl rfl ?_
        refine jr_iload_n (pc := 60) C L dX2_sortOf_60 rfl rfl ?_
        obtain ⟨u24, hu24, hyp⟩ := jbind hyp
        obtain ⟨q25, hq25, hyp⟩ := jbind hyp
        refine jr_callV_I (pc := 61) C S L (As := [jI x1]) (rest := []) (c_X2_loopThatKeeps (m0 := m0) h_x1 hq25) mv_X2_loopThatKeeps ml_X2_89 rfl (jck_spec hu24) (by decide) rfl rfl rfl (Nat.le_of_ble_eq_true rfl) ⟨Nat.le_refl 0, Nat.le_refl 0⟩ dX2_sortOf_61 (fun p26 H locs S => ?_)
        refine jr_if_ge (pc := 64) C p26 (tgt := 71) dX2_sortOf_64 (by decide) (fun c27 => ?_) (fun c27 => ?_)
        · have hyp := (if_pos c27).symm.trans hyp
          refine jr_iconst (pc := 67) C dX2_sortOf_67 ?_
          refine jr_goto (pc := 68) C (tgt := 72) dX2_sortOf_68 (by decide) ?_
          cases hyp
          exact jr_iret C S (show jIn 3 from ⟨by decide, by decide⟩) dX2_sortOf_72
        · have hyp := (if_neg c27).symm.trans hyp
          refine jr_iconst (pc := 71) C dX2_sortOf_71 ?_
          cases hyp
          exact jr_iret C S (show jIn 2 from ⟨by decide, by decide⟩) dX2_sortOf_72
  · have hyp := (if_neg c13).symm.trans hyp
    refine jr_iconst (pc := 42) C dX2_sortOf_42 ?_
    cases hyp
    exact jr_iret C S (show jIn 0 from ⟨by decide, by decide⟩) dX2_sortOf_43
theorem c_X2_sortOf {l : Launch} {D : va_G} {cy : Nat → ClassId} {B sz : Nat} {sh : jm_S} {res : Int} {N : Nat} {m0 : jm_M} {a0 : Nat} {x1 : Int} (h_x1 : jIn x1) (hyp : f_X2_sortOf N sh a0 x1 m0 = some res) : jCt l D cy B sz sh 4 yX2_sortOf cX2_sortOf 4 (some .int) [jR B a0, jI x1] m0 (some (jI res)) m0 (jIn res) :=
  jc_of (by decide) (fun v h => by simp only [List.mem_cons, List.not_mem_nil, or_false] at h; rcases h with rfl | rfl <;> first | rfl | exact jR_cat _ _) (Nat.le_of_ble_eq_true rfl) (fun C S L => t_X2_sortOf_e C  h_x1 S L hyp)
set_option maxHeartbeats 4000000 in
set_option maxRecDepth 100000 in
theorem t_X2_study_b54 {p : Program} {l : Launch} {e : Env} {s : State} {mi : MethodId} {args : Array Value} {below : List Frame} {meth : Method} {c : Code} {D : va_G} {cy : Nat → ClassId} {B sz : Nat} {sh : jm_S} {res : jm_M} {N : Nat} {k15 : Nat → Nat → Int → jm_M → Option jm_M} (C : jCx p s mi args meth c cX2_study 3 RX2 none D cy) (K15 : ∀ (a0 : Nat) (a1 : Nat) (x2 : Int) , jIn x2 → ∀ (m : jm_M) (H : Heap) (locs : List Loc) (ls : Array Slot), jHs D cy B sz sh (jA B sz) s.heap H locs m → jL ls [some (jR B a0), some (jR B a1), some (jI x2)] → k15 a0 a1 x2 m = some res → W p l e (jrm 29 0 0) s mi args below meth c H locs 0 0 (MQ below (jQc D cy B sz sh res none True) args s 0 0 (jA B sz)) (F0 mi 15 ls [])) {a0 : Nat} {a1 : Nat} {x2 : Int} (h_x2 : jIn x2) {r0 : Nat} {s1 : Int} (h_s1 : jIn s1) {s2 : Int} (h_s2 : jIn s2) {m : jm_M} {H : Heap} {locs : List Loc} {ls : Array Slot} (S : jHs D cy B sz sh (jA B sz) s.heap H locs m) (L : jL ls [some (jR B a0), some (jR B a1), some (jI x2)]) (hyp : f_X2_study_b54 N sh k15 a0 a1 x2 r0 s1 s2 m = some res) : W p l e (jrm 29 0 0) s mi args below meth c H locs 0 0 (MQ below (jQc D cy B sz sh res none True) args s 0 0 (jA B sz)) (F0 mi 54 ls [jI s2, jI s1, jR B r0]) := by
  unfold f_X2_study_b54 at hyp
  obtain ⟨m1, hm1, hyp⟩ := jbind hyp
  refine jr_ias (pc := 54) C S h_s1 h_s2 hm1 dX2_study_54 (fun H locs S => ?_)
  refine jr_iinc (pc := 55) C L dX2_study_55 rfl (Nat.le_of_ble_eq_true rfl) (fun ls L => ?_)
  have L : jL ls [some (jR B a0), some (jR B a1), some (jI (jw (x2 + 1)))] := L
  refine jr_goto (pc := 58) C (tgt := 15) dX2_study_58 (by decide) ?_
  exact K15 a0 a1 (jw (x2 + 1)) (jIn_w _) m1 _ _ _ S (L.sub (jsub_s (jsub_s (jsub_s jsub_0)))) hyp
set_option maxHeartbeats 4000000 in
set_option maxRecDepth 100000 in
theorem t_X2_study_b15 {p : Program} {l : Launch} {e : Env} {s : State} {mi : MethodId} {args : Array Value} {below : List Frame} {meth : Method} {c : Code} {D : va_G} {cy : Nat → ClassId} {B sz : Nat} {sh : jm_S} {res : jm_M} {N : Nat} {k15 : Nat → Nat → Int → jm_M → Option jm_M} (C : jCx p s mi args meth c cX2_study 3 RX2 none D cy) (K15 : ∀ (a0 : Nat) (a1 : Nat) (x2 : Int) , jIn x2 → ∀ (m : jm_M) (H : Heap) (locs : List Loc) (ls : Array Slot), jHs D cy B sz sh (jA B sz) s.heap H locs m → jL ls [some (jR B a0), some (jR B a1), some (jI x2)] → k15 a0 a1 x2 m = some res → W p l e (jrm 29 0 0) s mi args below meth c H locs 0 0 (MQ below (jQc D cy B sz sh res none True) args s 0 0 (jA B sz)) (F0 mi 15 ls [])) {a0 : Nat} {a1 : Nat} {x2 : Int} (h_x2 : jIn x2) {m : jm_M} {H : Heap} {locs : List Loc} {ls : Array Slot} (S : jHs D cy B sz sh (jA B sz) s.heap H locs m) (L : jL ls [some (jR B a0), some (jR B a1), some (jI x2)]) (hyp : f_X2_study_b15 N sh k15 a0 a1 x2 m = some res) : W p l e (jrm 29 0 0) s mi args below meth c H locs 0 0 (MQ below (jQc D cy B sz sh res none True) args s 0 0 (jA B sz)) (F0 mi 15 ls []) := by
  unfold f_X2_study_b15 at hyp
  refine jr_iload_n (pc := 15) C L dX2_study_15 rfl rfl ?_
  refine jr_aload_n (pc := 16) C L dX2_study_16 rfl rfl ?_
  obtain ⟨v2, hv2, hyp⟩ := jbind hyp
  have iv2 := jrf_in S hv2
  refine jr_getI (pc := 17) C S lf_X2_42 rfl hv2 dX2_study_17 ?_
  refine jr_icmp_ge (pc := 20) C h_x2 iv2 (tgt := 61) dX2_study_20 (by decide) (fun c3 => ?_) (fun c3 => ?_)
  · have hyp := (if_pos c3).symm.trans hyp
    refine jr_iload_n (pc := 23) C L dX2_study_23 rfl rfl ?_
    refine jr_aload_n (pc := 24) C L dX2_study_24 rfl rfl ?_
    obtain ⟨v4, hv4, hyp⟩ := jbind hyp
    refine jr_getR (pc := 25) C S lf_X2_9 rfl hv4 dX2_study_25 ?_
    obtain ⟨v5, hv5, hyp⟩ := jbind hyp
    refine jr_alen (pc := 28) C S hv5 dX2_study_28 ?_
    refine jr_icmp_ge (pc := 29) C h_x2 (jlen_in hv5) (tgt := 61) dX2_study_29 (by decide) (fun c6 => ?_) (fun c6 => ?_)
    · have hyp := (if_pos c6).symm.trans hyp
      refine jr_aload_n (pc := 32) C L dX2_study_32 rfl rfl ?_
      obtain ⟨v7, hv7, hyp⟩ := jbind hyp
      refine jr_getR (pc := 33) C S lf_X2_9 rfl hv7 dX2_study_33 ?_
      refine jr_iload_n (pc := 36) C L dX2_study_36 rfl rfl ?_
      refine jr_aload_n (pc := 37) C L dX2_study_37 rfl rfl ?_
      refine jr_iload_n (pc := 38) C L dX2_study_38 rfl rfl ?_
      obtain ⟨u8, hu8, hyp⟩ := jbind hyp
      obtain ⟨q9, hq9, hyp⟩ := jbind hyp
      refine jr_callV_I (pc := 39) C S L (As := [jI x2]) (rest := [jI x2, jR B v7.toNat]) (c_X10_isFetchAt (m0 := m) h_x2 hq9) mv_X10_isFetchAt ml_X2_48 rfl (jck_spec hu8) (by decide) rfl rfl rfl (by simp [jR_cat, jI_cat]) ⟨Nat.le_refl 0, Nat.le_refl 0⟩ dX2_study_39 (fun p10 H locs S => ?_)
      refine jr_if_eq (pc := 42) C p10 (tgt := 53) dX2_study_42 (by decide) (fun c11 => ?_) (fun c11 => ?_)
      · have hyp := (if_pos c11).symm.trans hyp
        refine jr_iconst (pc := 53) C dX2_study_53 ?_
        exact t_X2_study_b54 C  K15 h_x2 h_x2 (show jIn 0 from ⟨by decide, by decide⟩) S (L.sub (jsub_s (jsub_s (jsub_s jsub_0)))) hyp
      · have hyp := (if_neg c11).symm.trans hyp
        refine jr_aload_n (pc := 45) C L dX2_study_45 rfl rfl ?_
        refine jr_iload_n (pc := 46) C L dX2_study_46 rfl rfl ?_
        obtain ⟨u12, hu12, hyp⟩ := jbind hyp
        obtain ⟨q13, hq13, hyp⟩ := jbind hyp
        refine jr_callV_I (pc := 47) C S L (As := [jI x2]) (rest := [jI x2, jR B v7.toNat]) (c_X2_sortOf (m0 := m) h_x2 hq13) mv_X2_sortOf ml_X2_52 rfl (jck_spec hu12) (by decide) rfl rfl rfl (by simp [jR_cat, jI_cat]) ⟨Nat.le_refl 0, Nat.le_refl 0⟩ dX2_study_47 (fun p14 H locs S => ?_)
        refine jr_goto (pc := 50) C (tgt := 54) dX2_study_50 (by decide) ?_
        exact t_X2_study_b54 C  K15 h_x2 h_x2 p14 S (L.sub (jsub_s (jsub_s (jsub_s jsub_0)))) hyp
    · have hyp := (if_neg c6).symm.trans hyp
      cases hyp
      exact jr_vret C S trivial dX2_study_61
  · have hyp := (if_neg c3).symm.trans hyp
    cases hyp
    exact jr_vret C S trivial dX2_study_61
theorem t_X2_study_l15 {p : Program} {l : Launch} {e : Env} {s : State} {mi : MethodId} {args : Array Value} {below : List Frame} {meth : Method} {c : Code} {D : va_G} {cy : Nat → ClassId} {B sz : Nat} {sh : jm_S} {res : jm_M} {N : Nat} (C : jCx p s mi args meth c cX2_study 3 RX2 none D cy) : ∀ (n : Nat) (a0 : Nat) (a1 : Nat) (x2 : Int), jIn x2 → ∀ (m : jm_M) (H : Heap) (locs : List Loc) (ls : Array Slot), jHs D cy B sz sh (jA B sz) s.heap H locs m → jL ls [some (jR B a0), some (jR B a1), some (jI x2)] → f_X2_study_l15 N sh n a0 a1 x2 m = some res → W p l e (jrm 29 0 0) s mi args below meth c H locs 0 0 (MQ below (jQc D cy B sz sh res none True) args s 0 0 (jA B sz)) (F0 mi 15 ls []) := by
  intro n
  induction n with
  | zero => intro a0 a1 x2 h_x2 m H locs ls S L hyp; cases hyp
  | succ n ih => intro a0 a1 x2 h_x2 m H locs ls S L hyp; exact t_X2_study_b15 (N := N) C  ih h_x2 S L hyp
set_option maxHeartbeats 4000000 in
set_option maxRecDepth 100000 in
theorem t_X2_study_e {p : Program} {l : Launch} {e : Env} {s : State} {mi : MethodId} {args : Array Value} {below : List Frame} {meth : Method} {c : Code} {D : va_G} {cy : Nat → ClassId} {B sz : Nat} {sh : jm_S} {res : jm_M} {N : Nat} (C : jCx p s mi args meth c cX2_study 3 RX2 none D cy) {a0 : Nat} {a1 : Nat} {m : jm_M} {H : Heap} {locs : List Loc} {ls : Array Slot} (S : jHs D cy B sz sh (jA B sz) s.heap H locs m) (L : jL ls [some (jR B a0), some (jR B a1), none]) (hyp : f_X2_study N sh a0 a1 m = some res) : W p l e (jrm 29 0 0) s mi args below meth c H locs 0 0 (MQ below (jQc D cy B sz sh res none True) args s 0 0 (jA B sz)) (F0 mi 0 ls []) := by
  unfold f_X2_study at hyp
  refine jr_aload_n (pc := 0) C L dX2_study_0 rfl rfl ?_
  refine jr_aload_n (pc := 1) C L dX2_study_1 rfl rfl ?_
  obtain ⟨m15, hm15, hyp⟩ := jbind hyp
  refine jr_putW (pc := 2) C S lf_X2_32 fp_X2_0 rfl hm15 dX2_study_2 (fun H locs S => ?_)
  refine jr_aload_n (pc := 5) C L dX2_study_5 rfl rfl ?_
  obtain ⟨v16, hv16, hyp⟩ := jbind hyp
  refine jr_getR (pc := 6) C S lf_X2_22 rfl hv16 dX2_study_6 ?_
  refine jr_aload_n (pc := 9) C L dX2_study_9 rfl rfl ?_
  obtain ⟨u17, hu17, hyp⟩ := jbind hyp
  obtain ⟨q18, hq18, hyp⟩ := jbind hyp
  refine jr_callV_N (pc := 10) C S L (As := [jR B a1]) (rest := []) (c_X0_trace  hq18) mv_X0_trace ml_X2_36 rfl (jck_spec hu17) (by decide) rfl rfl rfl (Nat.le_of_ble_eq_true rfl) ⟨Nat.le_refl 0, Nat.le_refl 0⟩ dX2_study_10 (fun p19 H locs S => ?_)
  refine jr_iconst (pc := 13) C dX2_study_13 ?_
  refine jr_istore_n (pc := 14) C L dX2_study_14 rfl (Nat.le_of_ble_eq_true rfl) (fun ls L => ?_)
  have L : jL ls [some (jR B a0), some (jR B a1), some (jI 0)] := L
  exact t_X2_study_l15 C   N a0 a1 0 (show jIn 0 from ⟨by decide, by decide⟩) q18 _ _ _ S (L.sub (jsub_s (jsub_s (jsub_s jsub_0)))) hyp
theorem c_X2_study {l : Launch} {D : va_G} {cy : Nat → ClassId} {B sz : Nat} {sh : jm_S} {res : jm_M} {N : Nat} {m : jm_M} {a0 : Nat} {a1 : Nat} (hyp : f_X2_study N sh a0 a1 m = some res) : jCt l D cy B sz sh 29 yX2_study cX2_study 3 none [jR B a0, jR B a1] m none res True :=
  jc_of (by decide) (fun v h => by simp only [List.mem_cons, List.not_mem_nil, or_false] at h; rcases h with rfl | rfl <;> first | rfl | exact jR_cat _ _) (Nat.le_of_ble_eq_true rfl) (fun C S L => t_X2_study_e C   S L hyp)
set_option maxHeartbeats 4000000 in
set_option maxRecDepth 100000 in
theorem t_X2_sortAt_e {p : Program} {l : Launch} {e : Env} {s : State} {mi : MethodId} {args : Array Value} {below : List Frame} {meth : Method} {c : Code} {D : va_G} {cy : Nat → ClassId} {B sz : Nat} {sh : jm_S} {res : Int} {m0 : jm_M} (C : jCx p s mi args meth c cX2_sortAt 2 RX2 (some .int) D cy) {a0 : Nat} {x1 : Int} (h_x1 : jIn x1) {H : Heap} {locs : List Loc} {ls : Array Slot} (S : jHs D cy B sz sh (jA B sz) s.heap H locs m0) (L : jL ls [some (jR B a0), some (jI x1)]) (hyp : f_X2_sortAt sh a0 x1 m0 = some res) : W p l e (jrm 0 0 0) s mi args below meth c H locs 0 0 (MQ below (jQc D cy B sz sh m0 (some (jI res)) (jIn res)) args s 0 0 (jA B sz)) (F0 mi 0 ls []) := by
  unfold f_X2_sortAt at hyp
  refine jr_iload_n (pc := 0) C L dX2_sortAt_0 rfl rfl ?_
  refine jr_if_lt (pc := 1) C h_x1 (tgt := 22) dX2_sortAt_1 (by decide) (fun c1 => ?_) (fun c1 => ?_)
  · have hyp := (if_pos c1).symm.trans hyp
    refine jr_iconst (pc := 22) C dX2_sortAt_22 ?_
    cases hyp
    exact jr_iret C S (show jIn 0 from ⟨by decide, by decide⟩) dX2_sortAt_23
  · have hyp := (if_neg c1).symm.trans hyp
    refine jr_iload_n (pc := 4) C L dX2_sortAt_4 rfl rfl ?_
    refine jr_aload_n (pc := 5) C L dX2_sortAt_5 rfl rfl ?_
    obtain ⟨v2, hv2, hyp⟩ := jbind hyp
    refine jr_getR (pc := 6) C S lf_X2_9 rfl hv2 dX2_sortAt_6 ?_
    obtain ⟨v3, hv3, hyp⟩ := jbind hyp
    refine jr_alen (pc := 9) C S hv3 dX2_sortAt_9 ?_
    refine jr_icmp_ge (pc := 10) C h_x1 (jlen_in hv3) (tgt := 22) dX2_sortAt_10 (by decide) (fun c4 => ?_) (fun c4 => ?_)
    · have hyp := (if_pos c4).symm.trans hyp
      refine jr_aload_n (pc := 13) C L dX2_sortAt_13 rfl rfl ?_
      obtain ⟨v5, hv5, hyp⟩ := jbind hyp
      refine jr_getR (pc := 14) C S lf_X2_9 rfl hv5 dX2_sortAt_14 ?_
      refine jr_iload_n (pc := 17) C L dX2_sortAt_17 rfl rfl ?_
      obtain ⟨v6, hv6, hyp⟩ := jbind hyp
      have iv6 := jra_in S hv6
      refine jr_ial (pc := 18) C S h_x1 hv6 dX2_sortAt_18 ?_
      refine jr_goto (pc := 19) C (tgt := 23) dX2_sortAt_19 (by decide) ?_
      cases hyp
      exact jr_iret C S iv6 dX2_sortAt_23
    · have hyp := (if_neg c4).symm.trans hyp
      refine jr_iconst (pc := 22) C dX2_sortAt_22 ?_
      cases hyp
      exact jr_iret C S (show jIn 0 from ⟨by decide, by decide⟩) dX2_sortAt_23
theorem c_X2_sortAt {l : Launch} {D : va_G} {cy : Nat → ClassId} {B sz : Nat} {sh : jm_S} {res : Int} {m0 : jm_M} {a0 : Nat} {x1 : Int} (h_x1 : jIn x1) (hyp : f_X2_sortAt sh a0 x1 m0 = some res) : jCt l D cy B sz sh 0 yX2_sortAt cX2_sortAt 2 (some .int) [jR B a0, jI x1] m0 (some (jI res)) m0 (jIn res) :=
  jc_of (by decide) (fun v h => by simp only [List.mem_cons, List.not_mem_nil, or_false] at h; rcases h with rfl | rfl <;> first | rfl | exact jR_cat _ _) (Nat.le_of_ble_eq_true rfl) (fun C S L => t_X2_sortAt_e C  h_x1 S L hyp)
set_option maxHeartbeats 4000000 in
set_option maxRecDepth 100000 in
theorem t_X10_has_e {p : Program} {l : Launch} {e : Env} {s : State} {mi : MethodId} {args : Array Value} {below : List Frame} {meth : Method} {c : Code} {D : va_G} {cy : Nat → ClassId} {B sz : Nat} {sh : jm_S} {res : Int} {m0 : jm_M} (C : jCx p s mi args meth c cX10_has 2 RX10 (some .boolean) D cy) {a0 : Nat} {x1 : Int} (h_x1 : jIn x1) {H : Heap} {locs : List Loc} {ls : Array Slot} (S : jHs D cy B sz sh (jA B sz) s.heap H locs m0) (L : jL ls [some (jR B a0), some (jI x1)]) (hyp : f_X10_has sh a0 x1 m0 = some res) : W p l e (jrm 0 0 0) s mi args below meth c H locs 0 0 (MQ below (jQc D cy B sz sh m0 (some (jI res)) (jIn res)) args s 0 0 (jA B sz)) (F0 mi 0 ls []) := by
  unfold f_X10_has at hyp
  refine jr_iload_n (pc := 0) C L dX10_has_0 rfl rfl ?_
  refine jr_if_lt (pc := 1) C h_x1 (tgt := 16) dX10_has_1 (by decide) (fun c1 => ?_) (fun c1 => ?_)
  · have hyp := (if_pos c1).symm.trans hyp
    refine jr_iconst (pc := 16) C dX10_has_16 ?_
    cases hyp
    exact jr_zret C S (show jIn 0 from ⟨by decide, by decide⟩) rfl dX10_has_17
  · have hyp := (if_neg c1).symm.trans hyp
    refine jr_iload_n (pc := 4) C L dX10_has_4 rfl rfl ?_
    refine jr_aload_n (pc := 5) C L dX10_has_5 rfl rfl ?_
    obtain ⟨v2, hv2, hyp⟩ := jbind hyp
    have iv2 := jrf_in S hv2
    refine jr_getI (pc := 6) C S lf_X10_9 rfl hv2 dX10_has_6 ?_
    refine jr_icmp_ge (pc := 9) C h_x1 iv2 (tgt := 16) dX10_has_9 (by decide) (fun c3 => ?_) (fun c3 => ?_)
    · have hyp := (if_pos c3).symm.trans hyp
      refine jr_iconst (pc := 12) C dX10_has_12 ?_
      refine jr_goto (pc := 13) C (tgt := 17) dX10_has_13 (by decide) ?_
      cases hyp
      exact jr_zret C S (show jIn 1 from ⟨by decide, by decide⟩) rfl dX10_has_17
    · have hyp := (if_neg c3).symm.trans hyp
      refine jr_iconst (pc := 16) C dX10_has_16 ?_
      cases hyp
      exact jr_zret C S (show jIn 0 from ⟨by decide, by decide⟩) rfl dX10_has_17
theorem c_X10_has {l : Launch} {D : va_G} {cy : Nat → ClassId} {B sz : Nat} {sh : jm_S} {res : Int} {m0 : jm_M} {a0 : Nat} {x1 : Int} (h_x1 : jIn x1) (hyp : f_X10_has sh a0 x1 m0 = some res) : jCt l D cy B sz sh 0 yX10_has cX10_has 2 (some .boolean) [jR B a0, jI x1] m0 (some (jI res)) m0 (jIn res) :=
  jc_of (by decide) (fun v h => by simp only [List.mem_cons, List.not_mem_nil, or_false] at h; rcases h with rfl | rfl <;> first | rfl | exact jR_cat _ _) (Nat.le_of_ble_eq_true rfl) (fun C S L => t_X10_has_e C  h_x1 S L hyp)
set_option maxHeartbeats 4000000 in
set_option maxRecDepth 100000 in
theorem t_X2_costAt_e {p : Program} {l : Launch} {e : Env} {s : State} {mi : MethodId} {args : Array Value} {below : List Frame} {meth : Method} {c : Code} {D : va_G} {cy : Nat → ClassId} {B sz : Nat} {sh : jm_S} {res : Int} {m0 : jm_M} (C : jCx p s mi args meth c cX2_costAt 2 RX2 (some .int) D cy) {a0 : Nat} {x1 : Int} (h_x1 : jIn x1) {H : Heap} {locs : List Loc} {ls : Array Slot} (S : jHs D cy B sz sh (jA B sz) s.heap H locs m0) (L : jL ls [some (jR B a0), some (jI x1)]) (hyp : f_X2_costAt sh a0 x1 m0 = some res) : W p l e (jrm 1 0 0) s mi args below meth c H locs 0 0 (MQ below (jQc D cy B sz sh m0 (some (jI res)) (jIn res)) args s 0 0 (jA B sz)) (F0 mi 0 ls []) := by
  unfold f_X2_costAt at hyp
  refine jr_aload_n (pc := 0) C L dX2_costAt_0 rfl rfl ?_
  obtain ⟨v1, hv1, hyp⟩ := jbind hyp
  refine jr_getR (pc := 1) C S lf_X2_32 rfl hv1 dX2_costAt_1 ?_
  refine jr_iload_n (pc := 4) C L dX2_costAt_4 rfl rfl ?_
  obtain ⟨u2, hu2, hyp⟩ := jbind hyp
  obtain ⟨q3, hq3, hyp⟩ := jbind hyp
  refine jr_callV_I (pc := 5) C S L (As := [jI x1]) (rest := []) (c_X10_has (m0 := m0) h_x1 hq3) mv_X10_has ml_X2_134 rfl (jck_spec hu2) (by decide) rfl rfl rfl (Nat.le_of_ble_eq_true rfl) ⟨Nat.le_refl 0, Nat.le_refl 0⟩ dX2_costAt_5 (fun p4 H locs S => ?_)
  refine jr_if_eq (pc := 8) C p4 (tgt := 29) dX2_costAt_8 (by decide) (fun c5 => ?_) (fun c5 => ?_)
  · have hyp := (if_pos c5).symm.trans hyp
    refine jr_iconst (pc := 29) C dX2_costAt_29 ?_
    cases hyp
    exact jr_iret C S (show jIn 0 from ⟨by decide, by decide⟩) dX2_costAt_30
  · have hyp := (if_neg c5).symm.trans hyp
    refine jr_iload_n (pc := 11) C L dX2_costAt_11 rfl rfl ?_
    refine jr_aload_n (pc := 12) C L dX2_costAt_12 rfl rfl ?_
    obtain ⟨v6, hv6, hyp⟩ := jbind hyp
    refine jr_getR (pc := 13) C S lf_X2_15 rfl hv6 dX2_costAt_13 ?_
    obtain ⟨v7, hv7, hyp⟩ := jbind hyp
    refine jr_alen (pc := 16) C S hv7 dX2_costAt_16 ?_
    refine jr_icmp_ge (pc := 17) C h_x1 (jlen_in hv7) (tgt := 29) dX2_costAt_17 (by decide) (fun c8 => ?_) (fun c8 => ?_)
    · have hyp := (if_pos c8).symm.trans hyp
      refine jr_aload_n (pc := 20) C L dX2_costAt_20 rfl rfl ?_
      obtain ⟨v9, hv9, hyp⟩ := jbind hyp
      refine jr_getR (pc := 21) C S lf_X2_15 rfl hv9 dX2_costAt_21 ?_
      refine jr_iload_n (pc := 24) C L dX2_costAt_24 rfl rfl ?_
      obtain ⟨v10, hv10, hyp⟩ := jbind hyp
      have iv10 := jra_in S hv10
      refine jr_ial (pc := 25) C S h_x1 hv10 dX2_costAt_25 ?_
      refine jr_goto (pc := 26) C (tgt := 30) dX2_costAt_26 (by decide) ?_
      cases hyp
      exact jr_iret C S iv10 dX2_costAt_30
    · have hyp := (if_neg c8).symm.trans hyp
      refine jr_iconst (pc := 29) C dX2_costAt_29 ?_
      cases hyp
      exact jr_iret C S (show jIn 0 from ⟨by decide, by decide⟩) dX2_costAt_30
theorem c_X2_costAt {l : Launch} {D : va_G} {cy : Nat → ClassId} {B sz : Nat} {sh : jm_S} {res : Int} {m0 : jm_M} {a0 : Nat} {x1 : Int} (h_x1 : jIn x1) (hyp : f_X2_costAt sh a0 x1 m0 = some res) : jCt l D cy B sz sh 1 yX2_costAt cX2_costAt 2 (some .int) [jR B a0, jI x1] m0 (some (jI res)) m0 (jIn res) :=
  jc_of (by decide) (fun v h => by simp only [List.mem_cons, List.not_mem_nil, or_false] at h; rcases h with rfl | rfl <;> first | rfl | exact jR_cat _ _) (Nat.le_of_ble_eq_true rfl) (fun C S L => t_X2_costAt_e C  h_x1 S L hyp)
set_option maxHeartbeats 4000000 in
set_option maxRecDepth 100000 in
theorem t_X2_costOfFetch_e {p : Program} {l : Launch} {e : Env} {s : State} {mi : MethodId} {args : Array Value} {below : List Frame} {meth : Method} {c : Code} {D : va_G} {cy : Nat → ClassId} {B sz : Nat} {sh : jm_S} {res : Int} {m0 : jm_M} (C : jCx p s mi args meth c cX2_costOfFetch 3 RX2 (some .int) D cy) {a0 : Nat} {x1 : Int} (h_x1 : jIn x1) {x2 : Int} (h_x2 : jIn x2) {H : Heap} {locs : List Loc} {ls : Array Slot} (S : jHs D cy B sz sh (jA B sz) s.heap H locs m0) (L : jL ls [some (jR B a0), some (jI x1), some (jI x2)]) (hyp : f_X2_costOfFetch sh a0 x1 x2 m0 = some res) : W p l e (jrm 1 0 0) s mi args below meth c H locs 0 0 (MQ below (jQc D cy B sz sh m0 (some (jI res)) (jIn res)) args s 0 0 (jA B sz)) (F0 mi 0 ls []) := by
  unfold f_X2_costOfFetch at hyp
  refine jr_iload_n (pc := 0) C L dX2_costOfFetch_0 rfl rfl ?_
  refine jr_if_ne (pc := 1) C h_x1 (tgt := 6) dX2_costOfFetch_1 (by decide) (fun c1 => ?_) (fun c1 => ?_)
  · have hyp := (if_pos c1).symm.trans hyp
    refine jr_iconst (pc := 4) C dX2_costOfFetch_4 ?_
    cases hyp
    exact jr_iret C S (show jIn 1 from ⟨by decide, by decide⟩) dX2_costOfFetch_5
  · have hyp := (if_neg c1).symm.trans hyp
    refine jr_iload_n (pc := 6) C L dX2_costOfFetch_6 rfl rfl ?_
    refine jr_iconst (pc := 7) C dX2_costOfFetch_7 ?_
    refine jr_icmp_ne (pc := 8) C h_x1 (show jIn 2 from ⟨by decide, by decide⟩) (tgt := 15) dX2_costOfFetch_8 (by decide) (fun c2 => ?_) (fun c2 => ?_)
    · have hyp := (if_pos c2).symm.trans hyp
      refine jr_iload_n (pc := 11) C L dX2_costOfFetch_11 rfl rfl ?_
      refine jr_goto (pc := 12) C (tgt := 23) dX2_costOfFetch_12 (by decide) ?_
      cases hyp
      exact jr_iret C S h_x2 dX2_costOfFetch_23
    · have hyp := (if_neg c2).symm.trans hyp
      refine jr_aload_n (pc := 15) C L dX2_costOfFetch_15 rfl rfl ?_
      obtain ⟨v3, hv3, hyp⟩ := jbind hyp
      refine jr_getR (pc := 16) C S lf_X2_18 rfl hv3 dX2_costOfFetch_16 ?_
      refine jr_iconst (pc := 19) C dX2_costOfFetch_19 ?_
      obtain ⟨u4, hu4, hyp⟩ := jbind hyp
      obtain ⟨q5, hq5, hyp⟩ := jbind hyp
      refine jr_callV_I (pc := 20) C S L (As := [jI 2]) (rest := []) (c_X1_setting (m0 := m0) (show jIn 2 from ⟨by decide, by decide⟩) hq5) mv_X1_setting ml_X2_56 rfl (jck_spec hu4) (by decide) rfl rfl rfl (Nat.le_of_ble_eq_true rfl) ⟨Nat.le_refl 0, Nat.le_refl 0⟩ dX2_costOfFetch_20 (fun p6 H locs S => ?_)
      cases hyp
      exact jr_iret C S p6 dX2_costOfFetch_23
theorem c_X2_costOfFetch {l : Launch} {D : va_G} {cy : Nat → ClassId} {B sz : Nat} {sh : jm_S} {res : Int} {m0 : jm_M} {a0 : Nat} {x1 : Int} (h_x1 : jIn x1) {x2 : Int} (h_x2 : jIn x2) (hyp : f_X2_costOfFetch sh a0 x1 x2 m0 = some res) : jCt l D cy B sz sh 1 yX2_costOfFetch cX2_costOfFetch 3 (some .int) [jR B a0, jI x1, jI x2] m0 (some (jI res)) m0 (jIn res) :=
  jc_of (by decide) (fun v h => by simp only [List.mem_cons, List.not_mem_nil, or_false] at h; rcases h with rfl | rfl | rfl <;> first | rfl | exact jR_cat _ _) (Nat.le_of_ble_eq_true rfl) (fun C S L => t_X2_costOfFetch_e C  h_x1 h_x2 S L hyp)
set_option maxHeartbeats 4000000 in
set_option maxRecDepth 100000 in
theorem t_X2_costOfNode_b104 {p : Program} {l : Launch} {e : Env} {s : State} {mi : MethodId} {args : Array Value} {below : List Frame} {meth : Method} {c : Code} {D : va_G} {cy : Nat → ClassId} {B sz : Nat} {sh : jm_S} {res : Int} {m0 : jm_M} (C : jCx p s mi args meth c cX2_costOfNode 5 RX2 (some .int) D cy) {a0 : Nat} {x1 : Int} (h_x1 : jIn x1) {x3 : Int} (h_x3 : jIn x3) {H : Heap} {locs : List Loc} {ls : Array Slot} (S : jHs D cy B sz sh (jA B sz) s.heap H locs m0) (L : jL ls [some (jR B a0), some (jI x1), none, some (jI x3), none]) (hyp : f_X2_costOfNode_b104 sh a0 x1 x3 m0 = some res) : W p l e (jrm 2 0 0) s mi args below meth c H locs 0 0 (MQ below (jQc D cy B sz sh m0 (some (jI res)) (jIn res)) args s 0 0 (jA B sz)) (F0 mi 104 ls []) := by
  unfold f_X2_costOfNode_b104 at hyp
  refine jr_aload_n (pc := 104) C L dX2_costOfNode_104 rfl rfl ?_
  obtain ⟨v1, hv1, hyp⟩ := jbind hyp
  refine jr_getR (pc := 105) C S lf_X2_32 rfl hv1 dX2_costOfNode_105 ?_
  refine jr_iload_n (pc := 108) C L dX2_costOfNode_108 rfl rfl ?_
  obtain ⟨u2, hu2, hyp⟩ := jbind hyp
  obtain ⟨q3, hq3, hyp⟩ := jbind hyp
  refine jr_callV_I (pc := 109) C S L (As := [jI x1]) (rest := []) (c_X10_timesAt (m0 := m0) h_x1 hq3) mv_X10_timesAt ml_X2_108 rfl (jck_spec hu2) (by decide) rfl rfl rfl (Nat.le_of_ble_eq_true rfl) ⟨Nat.le_refl 0, Nat.le_refl 0⟩ dX2_costOfNode_109 (fun p4 H locs S => ?_)
  refine jr_iload_n (pc := 112) C L dX2_costOfNode_112 rfl rfl ?_
  refine jr_imul (pc := 113) C dX2_costOfNode_113 ?_
  cases hyp
  exact jr_iret C S (jIn_w _) dX2_costOfNode_114
set_option maxHeartbeats 4000000 in
set_option maxRecDepth 100000 in
theorem t_X2_costOfNode_e {p : Program} {l : Launch} {e : Env} {s : State} {mi : MethodId} {args : Array Value} {below : List Frame} {meth : Method} {c : Code} {D : va_G} {cy : Nat → ClassId} {B sz : Nat} {sh : jm_S} {res : Int} {m0 : jm_M} (C : jCx p s mi args meth c cX2_costOfNode 5 RX2 (some .int) D cy) {a0 : Nat} {x1 : Int} (h_x1 : jIn x1) {x2 : Int} (h_x2 : jIn x2) {H : Heap} {locs : List Loc} {ls : Array Slot} (S : jHs D cy B sz sh (jA B sz) s.heap H locs m0) (L : jL ls [some (jR B a0), some (jI x1), some (jI x2), none, none]) (hyp : f_X2_costOfNode sh a0 x1 x2 m0 = some res) : W p l e (jrm 2 0 0) s mi args below meth c H locs 0 0 (MQ below (jQc D cy B sz sh m0 (some (jI res)) (jIn res)) args s 0 0 (jA B sz)) (F0 mi 0 ls []) := by
  unfold f_X2_costOfNode at hyp
  refine jr_aload_n (pc := 0) C L dX2_costOfNode_0 rfl rfl ?_
  refine jr_aload_n (pc := 1) C L dX2_costOfNode_1 rfl rfl ?_
  obtain ⟨v5, hv5, hyp⟩ := jbind hyp
  refine jr_getR (pc := 2) C S lf_X2_32 rfl hv5 dX2_costOfNode_2 ?_
  refine jr_iload_n (pc := 5) C L dX2_costOfNode_5 rfl rfl ?_
  obtain ⟨u6, hu6, hyp⟩ := jbind hyp
  obtain ⟨q7, hq7, hyp⟩ := jbind hyp
  refine jr_callV_I (pc := 6) C S L (As := [jI x1]) (rest := [jR B a0]) (c_X10_firstPart (m0 := m0) h_x1 hq7) mv_X10_firstPart ml_X2_117 rfl (jck_spec hu6) (by decide) rfl rfl rfl (by simp [jR_cat, jI_cat]) ⟨Nat.le_refl 0, Nat.le_refl 0⟩ dX2_costOfNode_6 (fun p8 H locs S => ?_)
  obtain ⟨u9, hu9, hyp⟩ := jbind hyp
  obtain ⟨q10, hq10, hyp⟩ := jbind hyp
  refine jr_callV_I (pc := 9) C S L (As := [jI q7]) (rest := []) (c_X2_costAt (m0 := m0) p8 hq10) mv_X2_costAt ml_X2_114 rfl (jck_spec hu9) (by decide) rfl rfl rfl (Nat.le_of_ble_eq_true rfl) ⟨Nat.le_refl 0, Nat.le_refl 0⟩ dX2_costOfNode_9 (fun p11 H locs S => ?_)
  refine jr_istore_n (pc := 12) C L dX2_costOfNode_12 rfl (Nat.le_of_ble_eq_true rfl) (fun ls L => ?_)
  have L : jL ls [some (jR B a0), some (jI x1), some (jI x2), some (jI q10), none] := L
  refine jr_aload_n (pc := 13) C L dX2_costOfNode_13 rfl rfl ?_
  refine jr_aload_n (pc := 14) C L dX2_costOfNode_14 rfl rfl ?_
  obtain ⟨v12, hv12, hyp⟩ := jbind hyp
  refine jr_getR (pc := 15) C S lf_X2_32 rfl hv12 dX2_costOfNode_15 ?_
  refine jr_iload_n (pc := 18) C L dX2_costOfNode_18 rfl rfl ?_
  obtain ⟨u13, hu13, hyp⟩ := jbind hyp
  obtain ⟨q14, hq14, hyp⟩ := jbind hyp
  refine jr_callV_I (pc := 19) C S L (As := [jI x1]) (rest := [jR B a0]) (c_X10_secondPart (m0 := m0) h_x1 hq14) mv_X10_secondPart ml_X2_120 rfl (jck_spec hu13) (by decide) rfl rfl rfl (by simp [jR_cat, jI_cat]) ⟨Nat.le_refl 0, Nat.le_refl 0⟩ dX2_costOfNode_19 (fun p15 H locs S => ?_)
  obtain ⟨u16, hu16, hyp⟩ := jbind hyp
  obtain ⟨q17, hq17, hyp⟩ := jbind hyp
  refine jr_callV_I (pc := 22) C S L (As := [jI q14]) (rest := []) (c_X2_costAt (m0 := m0) p15 hq17) mv_X2_costAt ml_X2_114 rfl (jck_spec hu16) (by decide) rfl rfl rfl (Nat.le_of_ble_eq_true rfl) ⟨Nat.le_refl 0, Nat.le_refl 0⟩ dX2_costOfNode_22 (fun p18 H locs S => ?_)
  refine jr_istore (pc := 25) C L dX2_costOfNode_25 (Nat.le_of_ble_eq_true rfl) (fun ls L => ?_)
  have L : jL ls [some (jR B a0), some (jI x1), some (jI x2), some (jI q10), some (jI q17)] := L
  refine jr_aload_n (pc := 27) C L dX2_costOfNode_27 rfl rfl ?_
  obtain ⟨v19, hv19, hyp⟩ := jbind hyp
  refine jr_getR (pc := 28) C S lf_X2_32 rfl hv19 dX2_costOfNode_28 ?_
  refine jr_iload_n (pc := 31) C L dX2_costOfNode_31 rfl rfl ?_
  obtain ⟨u20, hu20, hyp⟩ := jbind hyp
  obtain ⟨q21, hq21, hyp⟩ := jbind hyp
  refine jr_callV_I (pc := 32) C S L (As := [jI x1]) (rest := []) (c_X10_signAt (m0 := m0) h_x1 hq21) mv_X10_signAt ml_X2_123 rfl (jck_spec hu20) (by decide) rfl rfl rfl (Nat.le_of_ble_eq_true rfl) ⟨Nat.le_refl 0, Nat.le_refl 0⟩ dX2_costOfNode_32 (fun p22 H locs S => ?_)
  by_cases c23 : (45 : Int) = q21
  · have hyp := (if_pos c23).symm.trans hyp
    refine jr_lookup (pc := 35) C p22 (off := 80) (tgt := 115) dX2_costOfNode_35 rfl (if_pos c23) (by decide) ?_
    refine jr_iconst (pc := 115) C dX2_costOfNode_115 ?_
    cases hyp
    exact jr_iret C S (show jIn 0 from ⟨by decide, by decide⟩) dX2_costOfNode_116
  have hyp := (if_neg c23).symm.trans hyp
  by_cases c24 : (59 : Int) = q21
  · have hyp := (if_pos c24).symm.trans hyp
    refine jr_lookup (pc := 35) C p22 (off := 57) (tgt := 92) dX2_costOfNode_35 rfl ((if_neg c23).trans (if_pos c24)) (by decide) ?_
    refine jr_iload_n (pc := 92) C L dX2_costOfNode_92 rfl rfl ?_
    refine jr_iload (pc := 93) C L dX2_costOfNode_93 rfl ?_
    refine jr_iadd (pc := 95) C dX2_costOfNode_95 ?_
    cases hyp
    exact jr_iret C S (jIn_w _) dX2_costOfNode_96
  have hyp := (if_neg c24).symm.trans hyp
  by_cases c25 : (63 : Int) = q21
  · have hyp := (if_pos c25).symm.trans hyp
    refine jr_lookup (pc := 35) C p22 (off := 62) (tgt := 97) dX2_costOfNode_35 rfl ((if_neg c23).trans ((if_neg c24).trans (if_pos c25))) (by decide) ?_
    refine jr_iload_n (pc := 97) C L dX2_costOfNode_97 rfl rfl ?_
    refine jr_iload (pc := 98) C L dX2_costOfNode_98 rfl ?_
    obtain ⟨q26, hq26, hyp⟩ := jbind hyp
    refine jr_callS_I (pc := 100) C S L (As := [jI q10, jI q17]) (rest := []) (c_J9_max_7cf53 (m0 := m0) p11 p18 hq26) ms_J9_max_7cf53 ml_X2_126 (by decide) rfl rfl rfl (Nat.le_of_ble_eq_true rfl) ⟨Nat.le_refl 0, Nat.le_refl 0⟩ dX2_costOfNode_100 (fun p27 H locs S => ?_)
    cases hyp
    exact jr_iret C S p27 dX2_costOfNode_103
  have hyp := (if_neg c25).symm.trans hyp
  by_cases c28 : (98 : Int) = q21
  · have hyp := (if_pos c28).symm.trans hyp
    refine jr_lookup (pc := 35) C p22 (off := 69) (tgt := 104) dX2_costOfNode_35 rfl ((if_neg c23).trans ((if_neg c24).trans ((if_neg c25).trans (if_pos c28)))) (by decide) ?_
    exact t_X2_costOfNode_b104 C   h_x1 p11 S (L.sub (jsub_s (jsub_s (jsub_n (jsub_s (jsub_n jsub_0)))))) hyp
  have hyp := (if_neg c28).symm.trans hyp
  by_cases c29 : (99 : Int) = q21
  · have hyp := (if_pos c29).symm.trans hyp
    refine jr_lookup (pc := 35) C p22 (off := 69) (tgt := 104) dX2_costOfNode_35 rfl ((if_neg c23).trans ((if_neg c24).trans ((if_neg c25).trans ((if_neg c28).trans (if_pos c29))))) (by decide) ?_
    exact t_X2_costOfNode_b104 C   h_x1 p11 S (L.sub (jsub_s (jsub_s (jsub_n (jsub_s (jsub_n jsub_0)))))) hyp
  have hyp := (if_neg c29).symm.trans hyp
  by_cases c30 : (100 : Int) = q21
  · have hyp := (if_pos c30).symm.trans hyp
    refine jr_lookup (pc := 35) C p22 (off := 69) (tgt := 104) dX2_costOfNode_35 rfl ((if_neg c23).trans ((if_neg c24).trans ((if_neg c25).trans ((if_neg c28).trans ((if_neg c29).trans (if_pos c30)))))) (by decide) ?_
    exact t_X2_costOfNode_b104 C   h_x1 p11 S (L.sub (jsub_s (jsub_s (jsub_n (jsub_s (jsub_n jsub_0)))))) hyp
  have hyp := (if_neg c30).symm.trans hyp
  refine jr_lookup (pc := 35) C p22 (off := 82) (tgt := 117) dX2_costOfNode_35 rfl ((if_neg c23).trans ((if_neg c24).trans ((if_neg c25).trans ((if_neg c28).trans ((if_neg c29).trans ((if_neg c30).trans rfl)))))) (by decide) ?_
  refine jr_aload_n (pc := 117) C L dX2_costOfNode_117 rfl rfl ?_
  refine jr_aload_n (pc := 118) C L dX2_costOfNode_118 rfl rfl ?_
  refine jr_iload_n (pc := 119) C L dX2_costOfNode_119 rfl rfl ?_
  obtain ⟨u31, hu31, hyp⟩ := jbind hyp
  obtain ⟨q32, hq32, hyp⟩ := jbind hyp
  refine jr_callV_I (pc := 120) C S L (As := [jI x1]) (rest := [jR B a0]) (c_X2_sortAt (m0 := m0) h_x1 hq32) mv_X2_sortAt ml_X2_105 rfl (jck_spec hu31) (by decide) rfl rfl rfl (by simp [jR_cat, jI_cat]) ⟨Nat.le_refl 0, Nat.le_refl 0⟩ dX2_costOfNode_120 (fun p33 H locs S => ?_)
  refine jr_iload_n (pc := 123) C L dX2_costOfNode_123 rfl rfl ?_
  obtain ⟨u34, hu34, hyp⟩ := jbind hyp
  obtain ⟨q35, hq35, hyp⟩ := jbind hyp
  refine jr_callV_I (pc := 124) C S L (As := [jI q32, jI x2]) (rest := []) (c_X2_costOfFetch (m0 := m0) p33 h_x2 hq35) mv_X2_costOfFetch ml_X2_131 rfl (jck_spec hu34) (by decide) rfl rfl rfl (Nat.le_of_ble_eq_true rfl) ⟨Nat.le_refl 0, Nat.le_refl 0⟩ dX2_costOfNode_124 (fun p36 H locs S => ?_)
  cases hyp
  exact jr_iret C S p36 dX2_costOfNode_127
theorem c_X2_costOfNode {l : Launch} {D : va_G} {cy : Nat → ClassId} {B sz : Nat} {sh : jm_S} {res : Int} {m0 : jm_M} {a0 : Nat} {x1 : Int} (h_x1 : jIn x1) {x2 : Int} (h_x2 : jIn x2) (hyp : f_X2_costOfNode sh a0 x1 x2 m0 = some res) : jCt l D cy B sz sh 2 yX2_costOfNode cX2_costOfNode 5 (some .int) [jR B a0, jI x1, jI x2] m0 (some (jI res)) m0 (jIn res) :=
  jc_of (by decide) (fun v h => by simp only [List.mem_cons, List.not_mem_nil, or_false] at h; rcases h with rfl | rfl | rfl <;> first | rfl | exact jR_cat _ _) (Nat.le_of_ble_eq_true rfl) (fun C S L => t_X2_costOfNode_e C  h_x1 h_x2 S L hyp)
set_option maxHeartbeats 4000000 in
set_option maxRecDepth 100000 in
theorem t_X2_costOf_b35 {p : Program} {l : Launch} {e : Env} {s : State} {mi : MethodId} {args : Array Value} {below : List Frame} {meth : Method} {c : Code} {D : va_G} {cy : Nat → ClassId} {B sz : Nat} {sh : jm_S} {res : (Int × jm_M)} {N : Nat} {k10 : Nat → Int → Int → jm_M → Option (Int × jm_M)} (C : jCx p s mi args meth c cX2_costOf 3 RX2 (some .int) D cy) (K10 : ∀ (a0 : Nat) (x1 : Int) (x2 : Int) , jIn x1 → jIn x2 → ∀ (m : jm_M) (H : Heap) (locs : List Loc) (ls : Array Slot), jHs D cy B sz sh (jA B sz) s.heap H locs m → jL ls [some (jR B a0), some (jI x1), some (jI x2)] → k10 a0 x1 x2 m = some res → W p l e (jrm 3 0 0) s mi args below meth c H locs 0 0 (MQ below (jQc D cy B sz sh res.2 (some (jI res.1)) (jIn res.1)) args s 0 0 (jA B sz)) (F0 mi 10 ls [])) {a0 : Nat} {x1 : Int} (h_x1 : jIn x1) {x2 : Int} (h_x2 : jIn x2) {m : jm_M} {H : Heap} {locs : List Loc} {ls : Array Slot} (S : jHs D cy B sz sh (jA B sz) s.heap H locs m) (L : jL ls [some (jR B a0), some (jI x1), some (jI x2)]) (hyp : f_X2_costOf_b35 N sh k10 a0 x1 x2 m = some res) : W p l e (jrm 3 0 0) s mi args below meth c H locs 0 0 (MQ below (jQc D cy B sz sh res.2 (some (jI res.1)) (jIn res.1)) args s 0 0 (jA B sz)) (F0 mi 35 ls []) := by
  unfold f_X2_costOf_b35 at hyp
  refine jr_iinc (pc := 35) C L dX2_costOf_35 rfl (Nat.le_of_ble_eq_true rfl) (fun ls L => ?_)
  have L : jL ls [some (jR B a0), some (jI x1), some (jI (jw (x2 + (-1))))] := L
  refine jr_goto (pc := 38) C (tgt := 10) dX2_costOf_38 (by decide) ?_
  exact K10 a0 x1 (jw (x2 + (-1))) h_x1 (jIn_w _) m _ _ _ S (L.sub (jsub_s (jsub_s (jsub_s jsub_0)))) hyp
set_option maxHeartbeats 4000000 in
set_option maxRecDepth 100000 in
theorem t_X2_costOf_b10 {p : Program} {l : Launch} {e : Env} {s : State} {mi : MethodId} {args : Array Value} {below : List Frame} {meth : Method} {c : Code} {D : va_G} {cy : Nat → ClassId} {B sz : Nat} {sh : jm_S} {res : (Int × jm_M)} {N : Nat} {k10 : Nat → Int → Int → jm_M → Option (Int × jm_M)} (C : jCx p s mi args meth c cX2_costOf 3 RX2 (some .int) D cy) (K10 : ∀ (a0 : Nat) (x1 : Int) (x2 : Int) , jIn x1 → jIn x2 → ∀ (m : jm_M) (H : Heap) (locs : List Loc) (ls : Array Slot), jHs D cy B sz sh (jA B sz) s.heap H locs m → jL ls [some (jR B a0), some (jI x1), some (jI x2)] → k10 a0 x1 x2 m = some res → W p l e (jrm 3 0 0) s mi args below meth c H locs 0 0 (MQ below (jQc D cy B sz sh res.2 (some (jI res.1)) (jIn res.1)) args s 0 0 (jA B sz)) (F0 mi 10 ls [])) {a0 : Nat} {x1 : Int} (h_x1 : jIn x1) {x2 : Int} (h_x2 : jIn x2) {m : jm_M} {H : Heap} {locs : List Loc} {ls : Array Slot} (S : jHs D cy B sz sh (jA B sz) s.heap H locs m) (L : jL ls [some (jR B a0), some (jI x1), some (jI x2)]) (hyp : f_X2_costOf_b10 N sh k10 a0 x1 x2 m = some res) : W p l e (jrm 3 0 0) s mi args below meth c H locs 0 0 (MQ below (jQc D cy B sz sh res.2 (some (jI res.1)) (jIn res.1)) args s 0 0 (jA B sz)) (F0 mi 10 ls []) := by
  unfold f_X2_costOf_b10 at hyp
  refine jr_iload_n (pc := 10) C L dX2_costOf_10 rfl rfl ?_
  refine jr_if_lt (pc := 11) C h_x2 (tgt := 41) dX2_costOf_11 (by decide) (fun c1 => ?_) (fun c1 => ?_)
  · have hyp := (if_pos c1).symm.trans hyp
    refine jr_aload_n (pc := 41) C L dX2_costOf_41 rfl rfl ?_
    refine jr_iconst (pc := 42) C dX2_costOf_42 ?_
    obtain ⟨u2, hu2, hyp⟩ := jbind hyp
    obtain ⟨q3, hq3, hyp⟩ := jbind hyp
    refine jr_callV_I (pc := 43) C S L (As := [jI 0]) (rest := []) (c_X2_costAt (m0 := m) (show jIn 0 from ⟨by decide, by decide⟩) hq3) mv_X2_costAt ml_X2_114 rfl (jck_spec hu2) (by decide) rfl rfl rfl (Nat.le_of_ble_eq_true rfl) ⟨Nat.le_refl 0, Nat.le_refl 0⟩ dX2_costOf_43 (fun p4 H locs S => ?_)
    cases hyp
    exact jr_iret C S p4 dX2_costOf_46
  · have hyp := (if_neg c1).symm.trans hyp
    refine jr_iload_n (pc := 14) C L dX2_costOf_14 rfl rfl ?_
    refine jr_aload_n (pc := 15) C L dX2_costOf_15 rfl rfl ?_
    obtain ⟨v5, hv5, hyp⟩ := jbind hyp
    refine jr_getR (pc := 16) C S lf_X2_15 rfl hv5 dX2_costOf_16 ?_
    obtain ⟨v6, hv6, hyp⟩ := jbind hyp
    refine jr_alen (pc := 19) C S hv6 dX2_costOf_19 ?_
    refine jr_icmp_ge (pc := 20) C h_x2 (jlen_in hv6) (tgt := 35) dX2_costOf_20 (by decide) (fun c7 => ?_) (fun c7 => ?_)
    · have hyp := (if_pos c7).symm.trans hyp
      refine jr_aload_n (pc := 23) C L dX2_costOf_23 rfl rfl ?_
      obtain ⟨v8, hv8, hyp⟩ := jbind hyp
      refine jr_getR (pc := 24) C S lf_X2_15 rfl hv8 dX2_costOf_24 ?_
      refine jr_iload_n (pc := 27) C L dX2_costOf_27 rfl rfl ?_
      refine jr_aload_n (pc := 28) C L dX2_costOf_28 rfl rfl ?_
      refine jr_iload_n (pc := 29) C L dX2_costOf_29 rfl rfl ?_
      refine jr_iload_n (pc := 30) C L dX2_costOf_30 rfl rfl ?_
      obtain ⟨u9, hu9, hyp⟩ := jbind hyp
      obtain ⟨q10, hq10, hyp⟩ := jbind hyp
      refine jr_callV_I (pc := 31) C S L (As := [jI x2, jI x1]) (rest := [jI x2, jR B v8.toNat]) (c_X2_costOfNode (m0 := m) h_x2 h_x1 hq10) mv_X2_costOfNode ml_X2_111 rfl (jck_spec hu9) (by decide) rfl rfl rfl (by simp [jR_cat, jI_cat]) ⟨Nat.le_refl 0, Nat.le_refl 0⟩ dX2_costOf_31 (fun p11 H locs S => ?_)
      obtain ⟨m12, hm12, hyp⟩ := jbind hyp
      refine jr_ias (pc := 34) C S h_x2 p11 hm12 dX2_costOf_34 (fun H locs S => ?_)
      exact t_X2_costOf_b35 C  K10 h_x1 h_x2 S (L.sub (jsub_s (jsub_s (jsub_s jsub_0)))) hyp
    · have hyp := (if_neg c7).symm.trans hyp
      exact t_X2_costOf_b35 C  K10 h_x1 h_x2 S (L.sub (jsub_s (jsub_s (jsub_s jsub_0)))) hyp
theorem t_X2_costOf_l10 {p : Program} {l : Launch} {e : Env} {s : State} {mi : MethodId} {args : Array Value} {below : List Frame} {meth : Method} {c : Code} {D : va_G} {cy : Nat → ClassId} {B sz : Nat} {sh : jm_S} {res : (Int × jm_M)} {N : Nat} (C : jCx p s mi args meth c cX2_costOf 3 RX2 (some .int) D cy) : ∀ (n : Nat) (a0 : Nat) (x1 : Int) (x2 : Int), jIn x1 → jIn x2 → ∀ (m : jm_M) (H : Heap) (locs : List Loc) (ls : Array Slot), jHs D cy B sz sh (jA B sz) s.heap H locs m → jL ls [some (jR B a0), some (jI x1), some (jI x2)] → f_X2_costOf_l10 N sh n a0 x1 x2 m = some res → W p l e (jrm 3 0 0) s mi args below meth c H locs 0 0 (MQ below (jQc D cy B sz sh res.2 (some (jI res.1)) (jIn res.1)) args s 0 0 (jA B sz)) (F0 mi 10 ls []) := by
  intro n
  induction n with
  | zero => intro a0 x1 x2 h_x1 h_x2 m H locs ls S L hyp; cases hyp
  | succ n ih => intro a0 x1 x2 h_x1 h_x2 m H locs ls S L hyp; exact t_X2_costOf_b10 (N := N) C  ih h_x1 h_x2 S L hyp
set_option maxHeartbeats 4000000 in
set_option maxRecDepth 100000 in
theorem t_X2_costOf_e {p : Program} {l : Launch} {e : Env} {s : State} {mi : MethodId} {args : Array Value} {below : List Frame} {meth : Method} {c : Code} {D : va_G} {cy : Nat → ClassId} {B sz : Nat} {sh : jm_S} {res : (Int × jm_M)} {N : Nat} (C : jCx p s mi args meth c cX2_costOf 3 RX2 (some .int) D cy) {a0 : Nat} {x1 : Int} (h_x1 : jIn x1) {m : jm_M} {H : Heap} {locs : List Loc} {ls : Array Slot} (S : jHs D cy B sz sh (jA B sz) s.heap H locs m) (L : jL ls [some (jR B a0), some (jI x1), none]) (hyp : f_X2_costOf N sh a0 x1 m = some res) : W p l e (jrm 3 0 0) s mi args below meth c H locs 0 0 (MQ below (jQc D cy B sz sh res.2 (some (jI res.1)) (jIn res.1)) args s 0 0 (jA B sz)) (F0 mi 0 ls []) := by
  unfold f_X2_costOf at hyp
  refine jr_aload_n (pc := 0) C L dX2_costOf_0 rfl rfl ?_
  obtain ⟨v13, hv13, hyp⟩ := jbind hyp
  refine jr_getR (pc := 1) C S lf_X2_32 rfl hv13 dX2_costOf_1 ?_
  obtain ⟨v14, hv14, hyp⟩ := jbind hyp
  have iv14 := jrf_in S hv14
  refine jr_getI (pc := 4) C S lf_X2_42 rfl hv14 dX2_costOf_4 ?_
  refine jr_iconst (pc := 7) C dX2_costOf_7 ?_
  refine jr_isub (pc := 8) C dX2_costOf_8 ?_
  refine jr_istore_n (pc := 9) C L dX2_costOf_9 rfl (Nat.le_of_ble_eq_true rfl) (fun ls L => ?_)
  have L : jL ls [some (jR B a0), some (jI x1), some (jI (jw (v14 - 1)))] := L
  exact t_X2_costOf_l10 C   N a0 x1 (jw (v14 - 1)) h_x1 (jIn_w _) m _ _ _ S (L.sub (jsub_s (jsub_s (jsub_s jsub_0)))) hyp
theorem c_X2_costOf {l : Launch} {D : va_G} {cy : Nat → ClassId} {B sz : Nat} {sh : jm_S} {res : (Int × jm_M)} {N : Nat} {m : jm_M} {a0 : Nat} {x1 : Int} (h_x1 : jIn x1) (hyp : f_X2_costOf N sh a0 x1 m = some res) : jCt l D cy B sz sh 3 yX2_costOf cX2_costOf 3 (some .int) [jR B a0, jI x1] m (some (jI res.1)) res.2 (jIn res.1) :=
  jc_of (by decide) (fun v h => by simp only [List.mem_cons, List.not_mem_nil, or_false] at h; rcases h with rfl | rfl <;> first | rfl | exact jR_cat _ _) (Nat.le_of_ble_eq_true rfl) (fun C S L => t_X2_costOf_e C  h_x1 S L hyp)
set_option maxHeartbeats 4000000 in
set_option maxRecDepth 100000 in
theorem t_X2_plain_e {p : Program} {l : Launch} {e : Env} {s : State} {mi : MethodId} {args : Array Value} {below : List Frame} {meth : Method} {c : Code} {D : va_G} {cy : Nat → ClassId} {B sz : Nat} {sh : jm_S} {res : (Int × jm_M)} {N : Nat} (C : jCx p s mi args meth c cX2_plain 1 RX2 (some .int) D cy) {a0 : Nat} {m : jm_M} {H : Heap} {locs : List Loc} {ls : Array Slot} (S : jHs D cy B sz sh (jA B sz) s.heap H locs m) (L : jL ls [some (jR B a0)]) (hyp : f_X2_plain N sh a0 m = some res) : W p l e (jrm 4 0 0) s mi args below meth c H locs 0 0 (MQ below (jQc D cy B sz sh res.2 (some (jI res.1)) (jIn res.1)) args s 0 0 (jA B sz)) (F0 mi 0 ls []) := by
  unfold f_X2_plain at hyp
  refine jr_aload_n (pc := 0) C L dX2_plain_0 rfl rfl ?_
  refine jr_aload_n (pc := 1) C L dX2_plain_1 rfl rfl ?_
  obtain ⟨v1, hv1, hyp⟩ := jbind hyp
  refine jr_getR (pc := 2) C S lf_X2_18 rfl hv1 dX2_plain_2 ?_
  refine jr_iconst (pc := 5) C dX2_plain_5 ?_
  obtain ⟨u2, hu2, hyp⟩ := jbind hyp
  obtain ⟨q3, hq3, hyp⟩ := jbind hyp
  refine jr_callV_I (pc := 6) C S L (As := [jI 2]) (rest := [jR B a0]) (c_X1_setting (m0 := m) (show jIn 2 from ⟨by decide, by decide⟩) hq3) mv_X1_setting ml_X2_56 rfl (jck_spec hu2) (by decide) rfl rfl rfl (by simp [jR_cat, jI_cat]) ⟨Nat.le_refl 0, Nat.le_refl 0⟩ dX2_plain_6 (fun p4 H locs S => ?_)
  obtain ⟨u5, hu5, hyp⟩ := jbind hyp
  obtain ⟨q6, hq6, hyp⟩ := jbind hyp
  refine jr_callV_I (pc := 9) C S L (As := [jI q3]) (rest := []) (c_X2_costOf p4 hq6) mv_X2_costOf ml_X2_59 rfl (jck_spec hu5) (by decide) rfl rfl rfl (Nat.le_of_ble_eq_true rfl) ⟨Nat.le_refl 0, Nat.le_refl 0⟩ dX2_plain_9 (fun p7 H locs S => ?_)
  cases hyp
  exact jr_iret C S p7 dX2_plain_12
theorem c_X2_plain {l : Launch} {D : va_G} {cy : Nat → ClassId} {B sz : Nat} {sh : jm_S} {res : (Int × jm_M)} {N : Nat} {m : jm_M} {a0 : Nat} (hyp : f_X2_plain N sh a0 m = some res) : jCt l D cy B sz sh 4 yX2_plain cX2_plain 1 (some .int) [jR B a0] m (some (jI res.1)) res.2 (jIn res.1) :=
  jc_of (by decide) (fun v h => by rw [List.mem_singleton.mp h]; first | rfl | exact jR_cat _ _) (Nat.le_of_ble_eq_true rfl) (fun C S L => t_X2_plain_e C   S L hyp)
set_option maxHeartbeats 4000000 in
set_option maxRecDepth 100000 in
theorem t_X2_onceLinesOf_b58 {p : Program} {l : Launch} {e : Env} {s : State} {mi : MethodId} {args : Array Value} {below : List Frame} {meth : Method} {c : Code} {D : va_G} {cy : Nat → ClassId} {B sz : Nat} {sh : jm_S} {res : Int} {N : Nat} {m0 : jm_M} {k18 : Nat → Int → Int → Int → Int → Option Int} (C : jCx p s mi args meth c cX2_onceLinesOf 5 RX2 (some .int) D cy) (K18 : ∀ (a0 : Nat) (x1 : Int) (x2 : Int) (x3 : Int) (x4 : Int) , jIn x1 → jIn x2 → jIn x3 → jIn x4 → ∀ (H : Heap) (locs : List Loc) (ls : Array Slot), jHs D cy B sz sh (jA B sz) s.heap H locs m0 → jL ls [some (jR B a0), some (jI x1), some (jI x2), some (jI x3), some (jI x4)] → k18 a0 x1 x2 x3 x4 = some res → W p l e (jrm 4 0 0) s mi args below meth c H locs 0 0 (MQ below (jQc D cy B sz sh m0 (some (jI res)) (jIn res)) args s 0 0 (jA B sz)) (F0 mi 18 ls [])) {a0 : Nat} {x1 : Int} (h_x1 : jIn x1) {x2 : Int} (h_x2 : jIn x2) {x3 : Int} (h_x3 : jIn x3) {x4 : Int} (h_x4 : jIn x4) {H : Heap} {locs : List Loc} {ls : Array Slot} (S : jHs D cy B sz sh (jA B sz) s.heap H locs m0) (L : jL ls [some (jR B a0), some (jI x1), some (jI x2), some (jI x3), some (jI x4)]) (hyp : f_X2_onceLinesOf_b58 N sh k18 a0 x1 x2 x3 x4 m0 = some res) : W p l e (jrm 4 0 0) s mi args below meth c H locs 0 0 (MQ below (jQc D cy B sz sh m0 (some (jI res)) (jIn res)) args s 0 0 (jA B sz)) (F0 mi 58 ls []) := by
  unfold f_X2_onceLinesOf_b58 at hyp
  refine jr_iinc (pc := 58) C L dX2_onceLinesOf_58 rfl (Nat.le_of_ble_eq_true rfl) (fun ls L => ?_)
  have L : jL ls [some (jR B a0), some (jI x1), some (jI x2), some (jI x3), some (jI (jw (x4 + 1)))] := L
  refine jr_goto (pc := 61) C (tgt := 18) dX2_onceLinesOf_61 (by decide) ?_
  exact K18 a0 x1 x2 x3 (jw (x4 + 1)) h_x1 h_x2 h_x3 (jIn_w _)  _ _ _ S (L.sub (jsub_s (jsub_s (jsub_s (jsub_s (jsub_s jsub_0)))))) hyp
set_option maxHeartbeats 4000000 in
set_option maxRecDepth 100000 in
theorem t_X2_onceLinesOf_b18 {p : Program} {l : Launch} {e : Env} {s : State} {mi : MethodId} {args : Array Value} {below : List Frame} {meth : Method} {c : Code} {D : va_G} {cy : Nat → ClassId} {B sz : Nat} {sh : jm_S} {res : Int} {N : Nat} {m0 : jm_M} {k18 : Nat → Int → Int → Int → Int → Option Int} (C : jCx p s mi args meth c cX2_onceLinesOf 5 RX2 (some .int) D cy) (K18 : ∀ (a0 : Nat) (x1 : Int) (x2 : Int) (x3 : Int) (x4 : Int) , jIn x1 → jIn x2 → jIn x3 → jIn x4 → ∀ (H : Heap) (locs : List Loc) (ls : Array Slot), jHs D cy B sz sh (jA B sz) s.heap H locs m0 → jL ls [some (jR B a0), some (jI x1), some (jI x2), some (jI x3), some (jI x4)] → k18 a0 x1 x2 x3 x4 = some res → W p l e (jrm 4 0 0) s mi args below meth c H locs 0 0 (MQ below (jQc D cy B sz sh m0 (some (jI res)) (jIn res)) args s 0 0 (jA B sz)) (F0 mi 18 ls [])) {a0 : Nat} {x1 : Int} (h_x1 : jIn x1) {x2 : Int} (h_x2 : jIn x2) {x3 : Int} (h_x3 : jIn x3) {x4 : Int} (h_x4 : jIn x4) {H : Heap} {locs : List Loc} {ls : Array Slot} (S : jHs D cy B sz sh (jA B sz) s.heap H locs m0) (L : jL ls [some (jR B a0), some (jI x1), some (jI x2), some (jI x3), some (jI x4)]) (hyp : f_X2_onceLinesOf_b18 N sh k18 a0 x1 x2 x3 x4 m0 = some res) : W p l e (jrm 4 0 0) s mi args below meth c H locs 0 0 (MQ below (jQc D cy B sz sh m0 (some (jI res)) (jIn res)) args s 0 0 (jA B sz)) (F0 mi 18 ls []) := by
  unfold f_X2_onceLinesOf_b18 at hyp
  refine jr_iload (pc := 18) C L dX2_onceLinesOf_18 rfl ?_
  refine jr_iload_n (pc := 20) C L dX2_onceLinesOf_20 rfl rfl ?_
  refine jr_icmp_ge (pc := 21) C h_x4 h_x3 (tgt := 64) dX2_onceLinesOf_21 (by decide) (fun c1 => ?_) (fun c1 => ?_)
  · have hyp := (if_pos c1).symm.trans hyp
    refine jr_aload_n (pc := 24) C L dX2_onceLinesOf_24 rfl rfl ?_
    refine jr_iload (pc := 25) C L dX2_onceLinesOf_25 rfl ?_
    obtain ⟨u2, hu2, hyp⟩ := jbind hyp
    obtain ⟨q3, hq3, hyp⟩ := jbind hyp
    refine jr_callV_I (pc := 27) C S L (As := [jI x4]) (rest := []) (c_X2_sortAt (m0 := m0) h_x4 hq3) mv_X2_sortAt ml_X2_105 rfl (jck_spec hu2) (by decide) rfl rfl rfl (Nat.le_of_ble_eq_true rfl) ⟨Nat.le_refl 0, Nat.le_refl 0⟩ dX2_onceLinesOf_27 (fun p4 H locs S => ?_)
    refine jr_iconst (pc := 30) C dX2_onceLinesOf_30 ?_
    refine jr_icmp_ne (pc := 31) C p4 (show jIn 2 from ⟨by decide, by decide⟩) (tgt := 58) dX2_onceLinesOf_31 (by decide) (fun c5 => ?_) (fun c5 => ?_)
    · have hyp := (if_pos c5).symm.trans hyp
      refine jr_aload_n (pc := 34) C L dX2_onceLinesOf_34 rfl rfl ?_
      refine jr_iload (pc := 35) C L dX2_onceLinesOf_35 rfl ?_
      obtain ⟨u6, hu6, hyp⟩ := jbind hyp
      obtain ⟨q7, hq7, hyp⟩ := jbind hyp
      refine jr_callV_I (pc := 37) C S L (As := [jI x4]) (rest := []) (c_X2_loopThatKeeps (m0 := m0) h_x4 hq7) mv_X2_loopThatKeeps ml_X2_89 rfl (jck_spec hu6) (by decide) rfl rfl rfl (Nat.le_of_ble_eq_true rfl) ⟨Nat.le_refl 0, Nat.le_refl 0⟩ dX2_onceLinesOf_37 (fun p8 H locs S => ?_)
      refine jr_iload_n (pc := 40) C L dX2_onceLinesOf_40 rfl rfl ?_
      refine jr_icmp_ne (pc := 41) C p8 h_x1 (tgt := 58) dX2_onceLinesOf_41 (by decide) (fun c9 => ?_) (fun c9 => ?_)
      · have hyp := (if_pos c9).symm.trans hyp
        refine jr_iload_n (pc := 44) C L dX2_onceLinesOf_44 rfl rfl ?_
        refine jr_iconst (pc := 45) C dX2_onceLinesOf_45 ?_
        refine jr_aload_n (pc := 46) C L dX2_onceLinesOf_46 rfl rfl ?_
        obtain ⟨v10, hv10, hyp⟩ := jbind hyp
        refine jr_getR (pc := 47) C S lf_X2_32 rfl hv10 dX2_onceLinesOf_47 ?_
        refine jr_iload (pc := 50) C L dX2_onceLinesOf_50 rfl ?_
        obtain ⟨u11, hu11, hyp⟩ := jbind hyp
        obtain ⟨q12, hq12, hyp⟩ := jbind hyp
        refine jr_callV_I (pc := 52) C S L (As := [jI x4]) (rest := [jI 1, jI x2]) (c_X10_lineAt (m0 := m0) h_x4 hq12) mv_X10_lineAt ml_X2_73 rfl (jck_spec hu11) (by decide) rfl rfl rfl (Nat.le_of_ble_eq_true rfl) ⟨Nat.le_refl 0, Nat.le_refl 0⟩ dX2_onceLinesOf_52 (fun p13 H locs S => ?_)
        refine jr_ishl (pc := 55) C dX2_onceLinesOf_55 ?_
        refine jr_ior (pc := 56) C dX2_onceLinesOf_56 ?_
        refine jr_istore_n (pc := 57) C L dX2_onceLinesOf_57 rfl (Nat.le_of_ble_eq_true rfl) (fun ls L => ?_)
        have L : jL ls [some (jR B a0), some (jI x1), some (jI (jor x2 (jshl 1 q12))), some (jI x3), some (jI x4)] := L
        exact t_X2_onceLinesOf_b58 C  K18 h_x1 (jIn_or _ _) h_x3 h_x4 S (L.sub (jsub_s (jsub_s (jsub_s (jsub_s (jsub_s jsub_0)))))) hyp
      · have hyp := (if_neg c9).symm.trans hyp
        exact t_X2_onceLinesOf_b58 C  K18 h_x1 h_x2 h_x3 h_x4 S (L.sub (jsub_s (jsub_s (jsub_s (jsub_s (jsub_s jsub_0)))))) hyp
    · have hyp := (if_neg c5).symm.trans hyp
      exact t_X2_onceLinesOf_b58 C  K18 h_x1 h_x2 h_x3 h_x4 S (L.sub (jsub_s (jsub_s (jsub_s (jsub_s (jsub_s jsub_0)))))) hyp
  · have hyp := (if_neg c1).symm.trans hyp
    refine jr_iload_n (pc := 64) C L dX2_onceLinesOf_64 rfl rfl ?_
    cases hyp
    exact jr_iret C S h_x2 dX2_onceLinesOf_65
theorem t_X2_onceLinesOf_l18 {p : Program} {l : Launch} {e : Env} {s : State} {mi : MethodId} {args : Array Value} {below : List Frame} {meth : Method} {c : Code} {D : va_G} {cy : Nat → ClassId} {B sz : Nat} {sh : jm_S} {res : Int} {N : Nat} {m0 : jm_M} (C : jCx p s mi args meth c cX2_onceLinesOf 5 RX2 (some .int) D cy) : ∀ (n : Nat) (a0 : Nat) (x1 : Int) (x2 : Int) (x3 : Int) (x4 : Int), jIn x1 → jIn x2 → jIn x3 → jIn x4 → ∀ (H : Heap) (locs : List Loc) (ls : Array Slot), jHs D cy B sz sh (jA B sz) s.heap H locs m0 → jL ls [some (jR B a0), some (jI x1), some (jI x2), some (jI x3), some (jI x4)] → f_X2_onceLinesOf_l18 N sh n a0 x1 x2 x3 x4 m0 = some res → W p l e (jrm 4 0 0) s mi args below meth c H locs 0 0 (MQ below (jQc D cy B sz sh m0 (some (jI res)) (jIn res)) args s 0 0 (jA B sz)) (F0 mi 18 ls []) := by
  intro n
  induction n with
  | zero => intro a0 x1 x2 x3 x4 h_x1 h_x2 h_x3 h_x4 H locs ls S L hyp; cases hyp
  | succ n ih => intro a0 x1 x2 x3 x4 h_x1 h_x2 h_x3 h_x4 H locs ls S L hyp; exact t_X2_onceLinesOf_b18 (N := N) C  ih h_x1 h_x2 h_x3 h_x4 S L hyp
set_option maxHeartbeats 4000000 in
set_option maxRecDepth 100000 in
theorem t_X2_onceLinesOf_e {p : Program} {l : Launch} {e : Env} {s : State} {mi : MethodId} {args : Array Value} {below : List Frame} {meth : Method} {c : Code} {D : va_G} {cy : Nat → ClassId} {B sz : Nat} {sh : jm_S} {res : Int} {N : Nat} {m0 : jm_M} (C : jCx p s mi args meth c cX2_onceLinesOf 5 RX2 (some .int) D cy) {a0 : Nat} {x1 : Int} (h_x1 : jIn x1) {H : Heap} {locs : List Loc} {ls : Array Slot} (S : jHs D cy B sz sh (jA B sz) s.heap H locs m0) (L : jL ls [some (jR B a0), some (jI x1), none, none, none]) (hyp : f_X2_onceLinesOf N sh a0 x1 m0 = some res) : W p l e (jrm 4 0 0) s mi args below meth c H locs 0 0 (MQ below (jQc D cy B sz sh m0 (some (jI res)) (jIn res)) args s 0 0 (jA B sz)) (F0 mi 0 ls []) := by
  unfold f_X2_onceLinesOf at hyp
  refine jr_iconst (pc := 0) C dX2_onceLinesOf_0 ?_
  refine jr_istore_n (pc := 1) C L dX2_onceLinesOf_1 rfl (Nat.le_of_ble_eq_true rfl) (fun ls L => ?_)
  have L : jL ls [some (jR B a0), some (jI x1), some (jI 0), none, none] := L
  refine jr_iload_n (pc := 2) C L dX2_onceLinesOf_2 rfl rfl ?_
  refine jr_aload_n (pc := 3) C L dX2_onceLinesOf_3 rfl rfl ?_
  obtain ⟨v14, hv14, hyp⟩ := jbind hyp
  refine jr_getR (pc := 4) C S lf_X2_32 rfl hv14 dX2_onceLinesOf_4 ?_
  refine jr_iload_n (pc := 7) C L dX2_onceLinesOf_7 rfl rfl ?_
  obtain ⟨u15, hu15, hyp⟩ := jbind hyp
  obtain ⟨q16, hq16, hyp⟩ := jbind hyp
  refine jr_callV_I (pc := 8) C S L (As := [jI x1]) (rest := [jI x1]) (c_X10_sizeAt (m0 := m0) h_x1 hq16) mv_X10_sizeAt ml_X2_102 rfl (jck_spec hu15) (by decide) rfl rfl rfl (Nat.le_of_ble_eq_true rfl) ⟨Nat.le_refl 0, Nat.le_refl 0⟩ dX2_onceLinesOf_8 (fun p17 H locs S => ?_)
  refine jr_iadd (pc := 11) C dX2_onceLinesOf_11 ?_
  refine jr_istore_n (pc := 12) C L dX2_onceLinesOf_12 rfl (Nat.le_of_ble_eq_true rfl) (fun ls L => ?_)
  have L : jL ls [some (jR B a0), some (jI x1), some (jI 0), some (jI (jw (x1 + q16))), none] := L
  refine jr_iload_n (pc := 13) C L dX2_onceLinesOf_13 rfl rfl ?_
  refine jr_iconst (pc := 14) C dX2_onceLinesOf_14 ?_
  refine jr_iadd (pc := 15) C dX2_onceLinesOf_15 ?_
  refine jr_istore (pc := 16) C L dX2_onceLinesOf_16 (Nat.le_of_ble_eq_true rfl) (fun ls L => ?_)
  have L : jL ls [some (jR B a0), some (jI x1), some (jI 0), some (jI (jw (x1 + q16))), some (jI (jw (x1 + 1)))] := L
  exact t_X2_onceLinesOf_l18 C   N a0 x1 0 (jw (x1 + q16)) (jw (x1 + 1)) h_x1 (show jIn 0 from ⟨by decide, by decide⟩) (jIn_w _) (jIn_w _)  _ _ _ S (L.sub (jsub_s (jsub_s (jsub_s (jsub_s (jsub_s jsub_0)))))) hyp
theorem c_X2_onceLinesOf {l : Launch} {D : va_G} {cy : Nat → ClassId} {B sz : Nat} {sh : jm_S} {res : Int} {N : Nat} {m0 : jm_M} {a0 : Nat} {x1 : Int} (h_x1 : jIn x1) (hyp : f_X2_onceLinesOf N sh a0 x1 m0 = some res) : jCt l D cy B sz sh 4 yX2_onceLinesOf cX2_onceLinesOf 5 (some .int) [jR B a0, jI x1] m0 (some (jI res)) m0 (jIn res) :=
  jc_of (by decide) (fun v h => by simp only [List.mem_cons, List.not_mem_nil, or_false] at h; rcases h with rfl | rfl <;> first | rfl | exact jR_cat _ _) (Nat.le_of_ble_eq_true rfl) (fun C S L => t_X2_onceLinesOf_e C  h_x1 S L hyp)
set_option maxHeartbeats 4000000 in
set_option maxRecDepth 100000 in
theorem t_X2_timesComeTo_b32 {p : Program} {l : Launch} {e : Env} {s : State} {mi : MethodId} {args : Array Value} {below : List Frame} {meth : Method} {c : Code} {D : va_G} {cy : Nat → ClassId} {B sz : Nat} {sh : jm_S} {res : Int} {N : Nat} {m0 : jm_M} {k4 : Nat → Int → Int → Int → Option Int} (C : jCx p s mi args meth c cX2_timesComeTo 4 RX2 (some .int) D cy) (K4 : ∀ (a0 : Nat) (x1 : Int) (x2 : Int) (x3 : Int) , jIn x1 → jIn x2 → jIn x3 → ∀ (H : Heap) (locs : List Loc) (ls : Array Slot), jHs D cy B sz sh (jA B sz) s.heap H locs m0 → jL ls [some (jR B a0), some (jI x1), some (jI x2), some (jI x3)] → k4 a0 x1 x2 x3 = some res → W p l e (jrm 3 0 0) s mi args below meth c H locs 0 0 (MQ below (jQc D cy B sz sh m0 (some (jI res)) (jIn res)) args s 0 0 (jA B sz)) (F0 mi 4 ls [])) {a0 : Nat} {x1 : Int} (h_x1 : jIn x1) {x2 : Int} (h_x2 : jIn x2) {x3 : Int} (h_x3 : jIn x3) {H : Heap} {locs : List Loc} {ls : Array Slot} (S : jHs D cy B sz sh (jA B sz) s.heap H locs m0) (L : jL ls [some (jR B a0), some (jI x1), some (jI x2), some (jI x3)]) (hyp : f_X2_timesComeTo_b32 N sh k4 a0 x1 x2 x3 m0 = some res) : W p l e (jrm 3 0 0) s mi args below meth c H locs 0 0 (MQ below (jQc D cy B sz sh m0 (some (jI res)) (jIn res)) args s 0 0 (jA B sz)) (F0 mi 32 ls []) := by
  unfold f_X2_timesComeTo_b32 at hyp
  refine jr_iinc (pc := 32) C L dX2_timesComeTo_32 rfl (Nat.le_of_ble_eq_true rfl) (fun ls L => ?_)
  have L : jL ls [some (jR B a0), some (jI x1), some (jI x2), some (jI (jw (x3 + 1)))] := L
  refine jr_goto (pc := 35) C (tgt := 4) dX2_timesComeTo_35 (by decide) ?_
  exact K4 a0 x1 x2 (jw (x3 + 1)) h_x1 h_x2 (jIn_w _)  _ _ _ S (L.sub (jsub_s (jsub_s (jsub_s (jsub_s jsub_0))))) hyp
set_option maxHeartbeats 4000000 in
set_option maxRecDepth 100000 in
theorem t_X2_timesComeTo_b4 {p : Program} {l : Launch} {e : Env} {s : State} {mi : MethodId} {args : Array Value} {below : List Frame} {meth : Method} {c : Code} {D : va_G} {cy : Nat → ClassId} {B sz : Nat} {sh : jm_S} {res : Int} {N : Nat} {m0 : jm_M} {k4 : Nat → Int → Int → Int → Option Int} (C : jCx p s mi args meth c cX2_timesComeTo 4 RX2 (some .int) D cy) (K4 : ∀ (a0 : Nat) (x1 : Int) (x2 : Int) (x3 : Int) , jIn x1 → jIn x2 → jIn x3 → ∀ (H : Heap) (locs : List Loc) (ls : Array Slot), jHs D cy B sz sh (jA B sz) s.heap H locs m0 → jL ls [some (jR B a0), some (jI x1), some (jI x2), some (jI x3)] → k4 a0 x1 x2 x3 = some res → W p l e (jrm 3 0 0) s mi args below meth c H locs 0 0 (MQ below (jQc D cy B sz sh m0 (some (jI res)) (jIn res)) args s 0 0 (jA B sz)) (F0 mi 4 ls [])) {a0 : Nat} {x1 : Int} (h_x1 : jIn x1) {x2 : Int} (h_x2 : jIn x2) {x3 : Int} (h_x3 : jIn x3) {H : Heap} {locs : List Loc} {ls : Array Slot} (S : jHs D cy B sz sh (jA B sz) s.heap H locs m0) (L : jL ls [some (jR B a0), some (jI x1), some (jI x2), some (jI x3)]) (hyp : f_X2_timesComeTo_b4 N sh k4 a0 x1 x2 x3 m0 = some res) : W p l e (jrm 3 0 0) s mi args below meth c H locs 0 0 (MQ below (jQc D cy B sz sh m0 (some (jI res)) (jIn res)) args s 0 0 (jA B sz)) (F0 mi 4 ls []) := by
  unfold f_X2_timesComeTo_b4 at hyp
  refine jr_iload_n (pc := 4) C L dX2_timesComeTo_4 rfl rfl ?_
  refine jr_iload_n (pc := 5) C L dX2_timesComeTo_5 rfl rfl ?_
  refine jr_icmp_ge (pc := 6) C h_x3 h_x1 (tgt := 38) dX2_timesComeTo_6 (by decide) (fun c1 => ?_) (fun c1 => ?_)
  · have hyp := (if_pos c1).symm.trans hyp
    refine jr_aload_n (pc := 9) C L dX2_timesComeTo_9 rfl rfl ?_
    obtain ⟨v2, hv2, hyp⟩ := jbind hyp
    refine jr_getR (pc := 10) C S lf_X2_32 rfl hv2 dX2_timesComeTo_10 ?_
    refine jr_iload_n (pc := 13) C L dX2_timesComeTo_13 rfl rfl ?_
    refine jr_iload_n (pc := 14) C L dX2_timesComeTo_14 rfl rfl ?_
    obtain ⟨u3, hu3, hyp⟩ := jbind hyp
    obtain ⟨q4, hq4, hyp⟩ := jbind hyp
    refine jr_callV_I (pc := 15) C S L (As := [jI x3, jI x1]) (rest := []) (c_X10_isLoopAround (m0 := m0) h_x3 h_x1 hq4) mv_X10_isLoopAround ml_X2_95 rfl (jck_spec hu3) (by decide) rfl rfl rfl (Nat.le_of_ble_eq_true rfl) ⟨Nat.le_refl 0, Nat.le_refl 0⟩ dX2_timesComeTo_15 (fun p5 H locs S => ?_)
    refine jr_if_eq (pc := 18) C p5 (tgt := 32) dX2_timesComeTo_18 (by decide) (fun c6 => ?_) (fun c6 => ?_)
    · have hyp := (if_pos c6).symm.trans hyp
      exact t_X2_timesComeTo_b32 C  K4 h_x1 h_x2 h_x3 S (L.sub (jsub_s (jsub_s (jsub_s (jsub_s jsub_0))))) hyp
    · have hyp := (if_neg c6).symm.trans hyp
      refine jr_iload_n (pc := 21) C L dX2_timesComeTo_21 rfl rfl ?_
      refine jr_aload_n (pc := 22) C L dX2_timesComeTo_22 rfl rfl ?_
      obtain ⟨v7, hv7, hyp⟩ := jbind hyp
      refine jr_getR (pc := 23) C S lf_X2_32 rfl hv7 dX2_timesComeTo_23 ?_
      refine jr_iload_n (pc := 26) C L dX2_timesComeTo_26 rfl rfl ?_
      obtain ⟨u8, hu8, hyp⟩ := jbind hyp
      obtain ⟨q9, hq9, hyp⟩ := jbind hyp
      refine jr_callV_I (pc := 27) C S L (As := [jI x3]) (rest := [jI x2]) (c_X10_timesAt (m0 := m0) h_x3 hq9) mv_X10_timesAt ml_X2_108 rfl (jck_spec hu8) (by decide) rfl rfl rfl (Nat.le_of_ble_eq_true rfl) ⟨Nat.le_refl 0, Nat.le_refl 0⟩ dX2_timesComeTo_27 (fun p10 H locs S => ?_)
      refine jr_imul (pc := 30) C dX2_timesComeTo_30 ?_
      refine jr_istore_n (pc := 31) C L dX2_timesComeTo_31 rfl (Nat.le_of_ble_eq_true rfl) (fun ls L => ?_)
      have L : jL ls [some (jR B a0), some (jI x1), some (jI (jw (x2 * q9))), some (jI x3)] := L
      exact t_X2_timesComeTo_b32 C  K4 h_x1 (jIn_w _) h_x3 S (L.sub (jsub_s (jsub_s (jsub_s (jsub_s jsub_0))))) hyp
  · have hyp := (if_neg c1).symm.trans hyp
    refine jr_iload_n (pc := 38) C L dX2_timesComeTo_38 rfl rfl ?_
    cases hyp
    exact jr_iret C S h_x2 dX2_timesComeTo_39
theorem t_X2_timesComeTo_l4 {p : Program} {l : Launch} {e : Env} {s : State} {mi : MethodId} {args : Array Value} {below : List Frame} {meth : Method} {c : Code} {D : va_G} {cy : Nat → ClassId} {B sz : Nat} {sh : jm_S} {res : Int} {N : Nat} {m0 : jm_M} (C : jCx p s mi args meth c cX2_timesComeTo 4 RX2 (some .int) D cy) : ∀ (n : Nat) (a0 : Nat) (x1 : Int) (x2 : Int) (x3 : Int), jIn x1 → jIn x2 → jIn x3 → ∀ (H : Heap) (locs : List Loc) (ls : Array Slot), jHs D cy B sz sh (jA B sz) s.heap H locs m0 → jL ls [some (jR B a0), some (jI x1), some (jI x2), some (jI x3)] → f_X2_timesComeTo_l4 N sh n a0 x1 x2 x3 m0 = some res → W p l e (jrm 3 0 0) s mi args below meth c H locs 0 0 (MQ below (jQc D cy B sz sh m0 (some (jI res)) (jIn res)) args s 0 0 (jA B sz)) (F0 mi 4 ls []) := by
  intro n
  induction n with
  | zero => intro a0 x1 x2 x3 h_x1 h_x2 h_x3 H locs ls S L hyp; cases hyp
  | succ n ih => intro a0 x1 x2 x3 h_x1 h_x2 h_x3 H locs ls S L hyp; exact t_X2_timesComeTo_b4 (N := N) C  ih h_x1 h_x2 h_x3 S L hyp
set_option maxHeartbeats 4000000 in
set_option maxRecDepth 100000 in
theorem t_X2_timesComeTo_e {p : Program} {l : Launch} {e : Env} {s : State} {mi : MethodId} {args : Array Value} {below : List Frame} {meth : Method} {c : Code} {D : va_G} {cy : Nat → ClassId} {B sz : Nat} {sh : jm_S} {res : Int} {N : Nat} {m0 : jm_M} (C : jCx p s mi args meth c cX2_timesComeTo 4 RX2 (some .int) D cy) {a0 : Nat} {x1 : Int} (h_x1 : jIn x1) {H : Heap} {locs : List Loc} {ls : Array Slot} (S : jHs D cy B sz sh (jA B sz) s.heap H locs m0) (L : jL ls [some (jR B a0), some (jI x1), none, none]) (hyp : f_X2_timesComeTo N sh a0 x1 m0 = some res) : W p l e (jrm 3 0 0) s mi args below meth c H locs 0 0 (MQ below (jQc D cy B sz sh m0 (some (jI res)) (jIn res)) args s 0 0 (jA B sz)) (F0 mi 0 ls []) := by
  unfold f_X2_timesComeTo at hyp
  refine jr_iconst (pc := 0) C dX2_timesComeTo_0 ?_
  refine jr_istore_n (pc := 1) C L dX2_timesComeTo_1 rfl (Nat.le_of_ble_eq_true rfl) (fun ls L => ?_)
  have L : jL ls [some (jR B a0), some (jI x1), some (jI 1), none] := L
  refine jr_iconst (pc := 2) C dX2_timesComeTo_2 ?_
  refine jr_istore_n (pc := 3) C L dX2_timesComeTo_3 rfl (Nat.le_of_ble_eq_true rfl) (fun ls L => ?_)
  have L : jL ls [some (jR B a0), some (jI x1), some (jI 1), some (jI 0)] := L
  exact t_X2_timesComeTo_l4 C   N a0 x1 1 0 h_x1 (show jIn 1 from ⟨by decide, by decide⟩) (show jIn 0 from ⟨by decide, by decide⟩)  _ _ _ S (L.sub (jsub_s (jsub_s (jsub_s (jsub_s jsub_0))))) hyp
theorem c_X2_timesComeTo {l : Launch} {D : va_G} {cy : Nat → ClassId} {B sz : Nat} {sh : jm_S} {res : Int} {N : Nat} {m0 : jm_M} {a0 : Nat} {x1 : Int} (h_x1 : jIn x1) (hyp : f_X2_timesComeTo N sh a0 x1 m0 = some res) : jCt l D cy B sz sh 3 yX2_timesComeTo cX2_timesComeTo 4 (some .int) [jR B a0, jI x1] m0 (some (jI res)) m0 (jIn res) :=
  jc_of (by decide) (fun v h => by simp only [List.mem_cons, List.not_mem_nil, or_false] at h; rcases h with rfl | rfl <;> first | rfl | exact jR_cat _ _) (Nat.le_of_ble_eq_true rfl) (fun C S L => t_X2_timesComeTo_e C  h_x1 S L hyp)
