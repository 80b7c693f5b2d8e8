set_option maxHeartbeats 4000000 in
set_option maxRecDepth 100000 in
theorem t_X6_nextDigit_e {p : Program} {l : Launch} {e : Env} {s : State} {mi : MethodId} {args : Array Value} {below : List Frame} {meth : Method} {c : Code} {D : va_G} {cy : Nat → ClassId} {B sz : Nat} {sh : jm_S} {res : (Int × jm_M)} (C : jCx p s mi args meth c cX6_nextDigit 2 RX6 (some .int) D cy) {a0 : Nat} {m : jm_M} {H : Heap} {locs : List Loc} {ls : Array Slot} (S : jHs D cy B sz sh (jA B sz) s.heap H locs m) (L : jL ls [some (jR B a0), none]) (hyp : f_X6_nextDigit sh a0 m = some res) : W p l e (jrm 1 0 0) s mi args below meth c H locs 0 0 (MQ below (jQc D cy B sz sh res.2 (some (jI res.1)) (jIn res.1)) args s 0 0 (jA B sz)) (F0 mi 0 ls []) := by
  unfold f_X6_nextDigit at hyp
  refine jr_aload_n (pc := 0) C L dX6_nextDigit_0 rfl rfl ?_
  obtain ⟨v1, hv1, hyp⟩ := jbind hyp
  refine jr_getR (pc := 1) C S lf_X6_9 rfl hv1 dX6_nextDigit_1 ?_
  refine jr_aload_n (pc := 4) C L dX6_nextDigit_4 rfl rfl ?_
  obtain ⟨v2, hv2, hyp⟩ := jbind hyp
  have iv2 := jrf_in S hv2
  refine jr_getI (pc := 5) C S lf_X6_39 rfl hv2 dX6_nextDigit_5 ?_
  obtain ⟨u3, hu3, hyp⟩ := jbind hyp
  obtain ⟨q4, hq4, hyp⟩ := jbind hyp
  refine jr_callV_I (pc := 8) C S L (As := [jI v2]) (rest := []) (c_X1_digitAt (m0 := m) iv2 hq4) mv_X1_digitAt ml_X6_100 rfl (jck_spec hu3) (by decide) rfl rfl rfl (Nat.le_of_ble_eq_true rfl) ⟨Nat.le_refl 0, Nat.le_refl 0⟩ dX6_nextDigit_8 (fun p5 H locs S => ?_)
  refine jr_istore_n (pc := 11) C L dX6_nextDigit_11 rfl (Nat.le_of_ble_eq_true rfl) (fun ls L => ?_)
  have L : jL ls [some (jR B a0), some (jI q4)] := L
  refine jr_aload_n (pc := 12) C L dX6_nextDigit_12 rfl rfl ?_
  refine jr_dupR (pc := 13) C dX6_nextDigit_13 ?_
  obtain ⟨v6, hv6, hyp⟩ := jbind hyp
  have iv6 := jrf_in S hv6
  refine jr_getI (pc := 14) C S lf_X6_39 rfl hv6 dX6_nextDigit_14 ?_
  refine jr_iconst (pc := 17) C dX6_nextDigit_17 ?_
  refine jr_iadd (pc := 18) C dX6_nextDigit_18 ?_
  obtain ⟨m7, hm7, hyp⟩ := jbind hyp
  refine jr_putI (pc := 19) C S lf_X6_39 fp_X6_3 rfl (jIn_w _) hm7 dX6_nextDigit_19 (fun H locs S => ?_)
  refine jr_iload_n (pc := 22) C L dX6_nextDigit_22 rfl rfl ?_
  cases hyp
  exact jr_iret C S p5 dX6_nextDigit_23
theorem c_X6_nextDigit {l : Launch} {D : va_G} {cy : Nat → ClassId} {B sz : Nat} {sh : jm_S} {res : (Int × jm_M)} {m : jm_M} {a0 : Nat} (hyp : f_X6_nextDigit sh a0 m = some res) : jCt l D cy B sz sh 1 yX6_nextDigit cX6_nextDigit 2 (some .int) [jR B a0] m (some (jI res.1)) res.2 (jIn res.1) :=
  jc_of (by decide) (fun v h => by rw [List.mem_singleton.mp h]; first | rfl | exact jR_cat _ _) (Nat.le_of_ble_eq_true rfl) (fun C S L => t_X6_nextDigit_e C   S L hyp)
set_option maxHeartbeats 4000000 in
set_option maxRecDepth 100000 in
theorem t_X6_howOften_e {p : Program} {l : Launch} {e : Env} {s : State} {mi : MethodId} {args : Array Value} {below : List Frame} {meth : Method} {c : Code} {D : va_G} {cy : Nat → ClassId} {B sz : Nat} {sh : jm_S} {res : (Int × jm_M)} (C : jCx p s mi args meth c cX6_howOften 3 RX6 (some .int) D cy) {a0 : Nat} {x1 : Int} (h_x1 : jIn x1) {m : jm_M} {H : Heap} {locs : List Loc} {ls : Array Slot} (S : jHs D cy B sz sh (jA B sz) s.heap H locs m) (L : jL ls [some (jR B a0), some (jI x1), none]) (hyp : f_X6_howOften sh a0 x1 m = some res) : W p l e (jrm 2 0 0) s mi args below meth c H locs 0 0 (MQ below (jQc D cy B sz sh res.2 (some (jI res.1)) (jIn res.1)) args s 0 0 (jA B sz)) (F0 mi 0 ls []) := by
  unfold f_X6_howOften at hyp
  refine jr_aload_n (pc := 0) C L dX6_howOften_0 rfl rfl ?_
  obtain ⟨u1, hu1, hyp⟩ := jbind hyp
  obtain ⟨q2, hq2, hyp⟩ := jbind hyp
  refine jr_callV_I (pc := 1) C S L (As := []) (rest := []) (c_X6_nextDigit  hq2) mv_X6_nextDigit ml_X6_86 rfl (jck_spec hu1) (by decide) rfl rfl rfl (Nat.le_of_ble_eq_true rfl) ⟨Nat.le_refl 0, Nat.le_refl 0⟩ dX6_howOften_1 (fun p3 H locs S => ?_)
  refine jr_istore_n (pc := 4) C L dX6_howOften_4 rfl (Nat.le_of_ble_eq_true rfl) (fun ls L => ?_)
  have L : jL ls [some (jR B a0), some (jI x1), some (jI q2.1)] := L
  refine jr_iload_n (pc := 5) C L dX6_howOften_5 rfl rfl ?_
  refine jr_if_le (pc := 6) C h_x1 (tgt := 15) dX6_howOften_6 (by decide) (fun c4 => ?_) (fun c4 => ?_)
  · have hyp := (if_pos c4).symm.trans hyp
    refine jr_iload_n (pc := 9) C L dX6_howOften_9 rfl rfl ?_
    refine jr_iload_n (pc := 10) C L dX6_howOften_10 rfl rfl ?_
    by_cases c5 : x1 = 0
    · exact absurd ((if_pos c5).symm.trans hyp) (by intro h; cases h)
    have hyp := (if_neg c5).symm.trans hyp
    refine jr_irem (pc := 11) C p3 h_x1 c5 dX6_howOften_11 ?_
    refine jr_goto (pc := 12) C (tgt := 16) dX6_howOften_12 (by decide) ?_
    cases hyp
    exact jr_iret C S (jIn_rem _ p3) dX6_howOften_16
  · have hyp := (if_neg c4).symm.trans hyp
    refine jr_iconst (pc := 15) C dX6_howOften_15 ?_
    cases hyp
    exact jr_iret C S (show jIn 0 from ⟨by decide, by decide⟩) dX6_howOften_16
theorem c_X6_howOften {l : Launch} {D : va_G} {cy : Nat → ClassId} {B sz : Nat} {sh : jm_S} {res : (Int × jm_M)} {m : jm_M} {a0 : Nat} {x1 : Int} (h_x1 : jIn x1) (hyp : f_X6_howOften sh a0 x1 m = some res) : jCt l D cy B sz sh 2 yX6_howOften cX6_howOften 3 (some .int) [jR B a0, jI x1] m (some (jI res.1)) res.2 (jIn res.1) :=
  jc_of (by decide) (fun v h => by simp only [List.mem_cons, List.not_mem_nil, or_false] at h; rcases h with rfl | rfl <;> first | rfl | exact jR_cat _ _) (Nat.le_of_ble_eq_true rfl) (fun C S L => t_X6_howOften_e C  h_x1 S L hyp)
set_option maxHeartbeats 4000000 in
set_option maxRecDepth 100000 in
theorem t_X6_fetch_b75 {p : Program} {l : Launch} {e : Env} {s : State} {mi : MethodId} {args : Array Value} {below : List Frame} {meth : Method} {c : Code} {D : va_G} {cy : Nat → ClassId} {B sz : Nat} {sh : jm_S} {res : jm_M} (C : jCx p s mi args meth c cX6_fetch 4 RX6 none D cy) {a0 : Nat} {x2 : Int} (h_x2 : jIn x2) {r0 : Nat} {s1 : Int} (h_s1 : jIn s1) {s2 : Int} (h_s2 : jIn s2) {m : jm_M} {H : Heap} {locs : List Loc} {ls : Array Slot} (S : jHs D cy B sz sh (jA B sz) s.heap H locs m) (L : jL ls [some (jR B a0), none, some (jI x2), none]) (hyp : f_X6_fetch_b75 sh a0 x2 r0 s1 s2 m = some res) : W p l e (jrm 1 0 0) s mi args below meth c H locs 0 0 (MQ below (jQc D cy B sz sh res none True) args s 0 0 (jA B sz)) (F0 mi 75 ls [jI s2, jI s1, jR B r0]) := by
  unfold f_X6_fetch_b75 at hyp
  refine jr_iadd (pc := 75) C dX6_fetch_75 ?_
  obtain ⟨m1, hm1, hyp⟩ := jbind hyp
  refine jr_putI (pc := 76) C S lf_X6_29 fp_X6_0 rfl (jIn_w _) hm1 dX6_fetch_76 (fun H locs S => ?_)
  refine jr_aload_n (pc := 79) C L dX6_fetch_79 rfl rfl ?_
  refine jr_iload_n (pc := 80) C L dX6_fetch_80 rfl rfl ?_
  refine jr_iconst (pc := 81) C dX6_fetch_81 ?_
  refine jr_ishr (pc := 82) C dX6_fetch_82 ?_
  obtain ⟨m2, hm2, hyp⟩ := jbind hyp
  refine jr_putI (pc := 83) C S lf_X6_42 fp_X6_4 rfl (jIn_shr _ _) hm2 dX6_fetch_83 (fun H locs S => ?_)
  cases hyp
  exact jr_vret C S trivial dX6_fetch_86
set_option maxHeartbeats 4000000 in
set_option maxRecDepth 100000 in
theorem t_X6_fetch_b50 {p : Program} {l : Launch} {e : Env} {s : State} {mi : MethodId} {args : Array Value} {below : List Frame} {meth : Method} {c : Code} {D : va_G} {cy : Nat → ClassId} {B sz : Nat} {sh : jm_S} {res : jm_M} (C : jCx p s mi args meth c cX6_fetch 4 RX6 none D cy) {a0 : Nat} {x2 : Int} (h_x2 : jIn x2) {x3 : Int} (h_x3 : jIn x3) {r0 : Nat} {s1 : Int} (h_s1 : jIn s1) {s2 : Int} (h_s2 : jIn s2) {m : jm_M} {H : Heap} {locs : List Loc} {ls : Array Slot} (S : jHs D cy B sz sh (jA B sz) s.heap H locs m) (L : jL ls [some (jR B a0), none, some (jI x2), some (jI x3)]) (hyp : f_X6_fetch_b50 sh a0 x2 x3 r0 s1 s2 m = some res) : W p l e (jrm 1 0 0) s mi args below meth c H locs 0 0 (MQ below (jQc D cy B sz sh res none True) args s 0 0 (jA B sz)) (F0 mi 50 ls [jI s2, jI s1, jR B r0]) := by
  unfold f_X6_fetch_b50 at hyp
  refine jr_iadd (pc := 50) C dX6_fetch_50 ?_
  obtain ⟨m3, hm3, hyp⟩ := jbind hyp
  refine jr_putI (pc := 51) C S lf_X6_36 fp_X6_2 rfl (jIn_w _) hm3 dX6_fetch_51 (fun H locs S => ?_)
  refine jr_aload_n (pc := 54) C L dX6_fetch_54 rfl rfl ?_
  refine jr_dupR (pc := 55) C dX6_fetch_55 ?_
  obtain ⟨v4, hv4, hyp⟩ := jbind hyp
  have iv4 := jrf_in S hv4
  refine jr_getI (pc := 56) C S lf_X6_29 rfl hv4 dX6_fetch_56 ?_
  refine jr_iload_n (pc := 59) C L dX6_fetch_59 rfl rfl ?_
  refine jr_if_eq (pc := 60) C h_x3 (tgt := 67) dX6_fetch_60 (by decide) (fun c5 => ?_) (fun c5 => ?_)
  · have hyp := (if_pos c5).symm.trans hyp
    refine jr_aload_n (pc := 67) C L dX6_fetch_67 rfl rfl ?_
    obtain ⟨v6, hv6, hyp⟩ := jbind hyp
    refine jr_getR (pc := 68) C S lf_X6_9 rfl hv6 dX6_fetch_68 ?_
    refine jr_iconst (pc := 71) C dX6_fetch_71 ?_
    obtain ⟨u7, hu7, hyp⟩ := jbind hyp
    obtain ⟨q8, hq8, hyp⟩ := jbind hyp
    refine jr_callV_I (pc := 72) C S L (As := [jI 2]) (rest := [jI v4, jR B a0]) (c_X1_setting (m0 := m3) (show jIn 2 from ⟨by decide, by decide⟩) hq8) mv_X1_setting ml_X6_45 rfl (jck_spec hu7) (by decide) rfl rfl rfl (by simp [jR_cat, jI_cat]) ⟨Nat.le_refl 0, Nat.le_refl 0⟩ dX6_fetch_72 (fun p9 H locs S => ?_)
    exact t_X6_fetch_b75 C   h_x2 iv4 p9 S (L.sub (jsub_s (jsub_n (jsub_s (jsub_n jsub_0))))) hyp
  · have hyp := (if_neg c5).symm.trans hyp
    refine jr_iconst (pc := 63) C dX6_fetch_63 ?_
    refine jr_goto (pc := 64) C (tgt := 75) dX6_fetch_64 (by decide) ?_
    exact t_X6_fetch_b75 C   h_x2 iv4 (show jIn 1 from ⟨by decide, by decide⟩) S (L.sub (jsub_s (jsub_n (jsub_s (jsub_n jsub_0))))) hyp
set_option maxHeartbeats 4000000 in
set_option maxRecDepth 100000 in
theorem t_X6_fetch_b25 {p : Program} {l : Launch} {e : Env} {s : State} {mi : MethodId} {args : Array Value} {below : List Frame} {meth : Method} {c : Code} {D : va_G} {cy : Nat → ClassId} {B sz : Nat} {sh : jm_S} {res : jm_M} (C : jCx p s mi args meth c cX6_fetch 4 RX6 none D cy) {a0 : Nat} {x2 : Int} (h_x2 : jIn x2) {s0 : Int} (h_s0 : jIn s0) {m : jm_M} {H : Heap} {locs : List Loc} {ls : Array Slot} (S : jHs D cy B sz sh (jA B sz) s.heap H locs m) (L : jL ls [some (jR B a0), none, some (jI x2), none]) (hyp : f_X6_fetch_b25 sh a0 x2 s0 m = some res) : W p l e (jrm 1 0 0) s mi args below meth c H locs 0 0 (MQ below (jQc D cy B sz sh res none True) args s 0 0 (jA B sz)) (F0 mi 25 ls [jI s0]) := by
  unfold f_X6_fetch_b25 at hyp
  refine jr_istore_n (pc := 25) C L dX6_fetch_25 rfl (Nat.le_of_ble_eq_true rfl) (fun ls L => ?_)
  have L : jL ls [some (jR B a0), none, some (jI x2), some (jI s0)] := L
  refine jr_aload_n (pc := 26) C L dX6_fetch_26 rfl rfl ?_
  refine jr_dupR (pc := 27) C dX6_fetch_27 ?_
  obtain ⟨v10, hv10, hyp⟩ := jbind hyp
  have iv10 := jrf_in S hv10
  refine jr_getI (pc := 28) C S lf_X6_33 rfl hv10 dX6_fetch_28 ?_
  refine jr_iconst (pc := 31) C dX6_fetch_31 ?_
  refine jr_iadd (pc := 32) C dX6_fetch_32 ?_
  obtain ⟨m11, hm11, hyp⟩ := jbind hyp
  refine jr_putI (pc := 33) C S lf_X6_33 fp_X6_1 rfl (jIn_w _) hm11 dX6_fetch_33 (fun H locs S => ?_)
  refine jr_aload_n (pc := 36) C L dX6_fetch_36 rfl rfl ?_
  refine jr_dupR (pc := 37) C dX6_fetch_37 ?_
  obtain ⟨v12, hv12, hyp⟩ := jbind hyp
  have iv12 := jrf_in S hv12
  refine jr_getI (pc := 38) C S lf_X6_36 rfl hv12 dX6_fetch_38 ?_
  refine jr_iload_n (pc := 41) C L dX6_fetch_41 rfl rfl ?_
  refine jr_if_eq (pc := 42) C h_s0 (tgt := 49) dX6_fetch_42 (by decide) (fun c13 => ?_) (fun c13 => ?_)
  · have hyp := (if_pos c13).symm.trans hyp
    refine jr_iconst (pc := 49) C dX6_fetch_49 ?_
    exact t_X6_fetch_b50 C   h_x2 h_s0 iv12 (show jIn 1 from ⟨by decide, by decide⟩) S (L.sub (jsub_s (jsub_n (jsub_s (jsub_s jsub_0))))) hyp
  · have hyp := (if_neg c13).symm.trans hyp
    refine jr_iconst (pc := 45) C dX6_fetch_45 ?_
    refine jr_goto (pc := 46) C (tgt := 50) dX6_fetch_46 (by decide) ?_
    exact t_X6_fetch_b50 C   h_x2 h_s0 iv12 (show jIn 0 from ⟨by decide, by decide⟩) S (L.sub (jsub_s (jsub_n (jsub_s (jsub_s jsub_0))))) hyp
set_option maxHeartbeats 4000000 in
set_option maxRecDepth 100000 in
theorem t_X6_fetch_e {p : Program} {l : Launch} {e : Env} {s : State} {mi : MethodId} {args : Array Value} {below : List Frame} {meth : Method} {c : Code} {D : va_G} {cy : Nat → ClassId} {B sz : Nat} {sh : jm_S} {res : jm_M} (C : jCx p s mi args meth c cX6_fetch 4 RX6 none D cy) {a0 : Nat} {x1 : Int} (h_x1 : jIn x1) {m : jm_M} {H : Heap} {locs : List Loc} {ls : Array Slot} (S : jHs D cy B sz sh (jA B sz) s.heap H locs m) (L : jL ls [some (jR B a0), some (jI x1), none, none]) (hyp : f_X6_fetch sh a0 x1 m = some res) : W p l e (jrm 1 0 0) s mi args below meth c H locs 0 0 (MQ below (jQc D cy B sz sh res none True) args s 0 0 (jA B sz)) (F0 mi 0 ls []) := by
  unfold f_X6_fetch at hyp
  refine jr_aload_n (pc := 0) C L dX6_fetch_0 rfl rfl ?_
  obtain ⟨v14, hv14, hyp⟩ := jbind hyp
  refine jr_getR (pc := 1) C S lf_X6_15 rfl hv14 dX6_fetch_1 ?_
  refine jr_iload_n (pc := 4) C L dX6_fetch_4 rfl rfl ?_
  refine jr_aload_n (pc := 5) C L dX6_fetch_5 rfl rfl ?_
  obtain ⟨v15, hv15, hyp⟩ := jbind hyp
  have iv15 := jrf_in S hv15
  refine jr_getI (pc := 6) C S lf_X6_42 rfl hv15 dX6_fetch_6 ?_
  obtain ⟨u16, hu16, hyp⟩ := jbind hyp
  obtain ⟨q17, hq17, hyp⟩ := jbind hyp
  refine jr_callV_I (pc := 9) C S L (As := [jI x1, jI v15]) (rest := []) (c_X7_stepOf (m0 := m) h_x1 iv15 hq17) mv_X7_stepOf ml_X6_103 rfl (jck_spec hu16) (by decide) rfl rfl rfl (Nat.le_of_ble_eq_true rfl) ⟨Nat.le_refl 0, Nat.le_refl 0⟩ dX6_fetch_9 (fun p18 H locs S => ?_)
  refine jr_istore_n (pc := 12) C L dX6_fetch_12 rfl (Nat.le_of_ble_eq_true rfl) (fun ls L => ?_)
  have L : jL ls [some (jR B a0), some (jI x1), some (jI q17), none] := L
  refine jr_iload_n (pc := 13) C L dX6_fetch_13 rfl rfl ?_
  refine jr_iconst (pc := 14) C dX6_fetch_14 ?_
  refine jr_iand (pc := 15) C dX6_fetch_15 ?_
  refine jr_iconst (pc := 16) C dX6_fetch_16 ?_
  refine jr_icmp_ne (pc := 17) C (jIn_and _ _) (show jIn 1 from ⟨by decide, by decide⟩) (tgt := 24) dX6_fetch_17 (by decide) (fun c19 => ?_) (fun c19 => ?_)
  · have hyp := (if_pos c19).symm.trans hyp
    refine jr_iconst (pc := 20) C dX6_fetch_20 ?_
    refine jr_goto (pc := 21) C (tgt := 25) dX6_fetch_21 (by decide) ?_
    exact t_X6_fetch_b25 C   p18 (show jIn 1 from ⟨by decide, by decide⟩) S (L.sub (jsub_s (jsub_n (jsub_s (jsub_n jsub_0))))) hyp
  · have hyp := (if_neg c19).symm.trans hyp
    refine jr_iconst (pc := 24) C dX6_fetch_24 ?_
    exact t_X6_fetch_b25 C   p18 (show jIn 0 from ⟨by decide, by decide⟩) S (L.sub (jsub_s (jsub_n (jsub_s (jsub_n jsub_0))))) hyp
theorem c_X6_fetch {l : Launch} {D : va_G} {cy : Nat → ClassId} {B sz : Nat} {sh : jm_S} {res : jm_M} {m : jm_M} {a0 : Nat} {x1 : Int} (h_x1 : jIn x1) (hyp : f_X6_fetch sh a0 x1 m = some res) : jCt l D cy B sz sh 1 yX6_fetch cX6_fetch 4 none [jR B a0, jI x1] m none res True :=
  jc_of (by decide) (fun v h => by simp only [List.mem_cons, List.not_mem_nil, or_false] at h; rcases h with rfl | rfl <;> first | rfl | exact jR_cat _ _) (Nat.le_of_ble_eq_true rfl) (fun C S L => t_X6_fetch_e C  h_x1 S L hyp)
set_option maxHeartbeats 4000000 in
set_option maxRecDepth 100000 in
theorem t_X6_go_b83 {p : Program} {l : Launch} {e : Env} {s : State} {mi : MethodId} {args : Array Value} {below : List Frame} {meth : Method} {c : Code} {D : va_G} {cy : Nat → ClassId} {B sz : Nat} {sh : jm_S} {res : jm_M} {N : Nat} {rec : Nat → Int → Int → jm_M → Option jm_M} {kr : Nat} {k83 : Nat → Int → Int → Int → Int → jm_M → Option jm_M} (C : jCx p s mi args meth c cX6_go 7 RX6 none D cy) (hkr : 3 ≤ kr) (hrec : ∀ (a0 : Nat) (x1 : Int) (x2 : Int), jIn x1 → jIn x2 → ∀ (m : jm_M) (res : jm_M), rec a0 x1 x2 m = some res → jCt l D cy B sz sh kr yX6_go cX6_go 7 none [jR B a0, jI x1, jI x2] m none res True) (K83 : ∀ (a0 : Nat) (x2 : Int) (x3 : Int) (x5 : Int) (x6 : Int) , jIn x2 → jIn x3 → jIn x5 → jIn x6 → ∀ (m : jm_M) (H : Heap) (locs : List Loc) (ls : Array Slot), jHs D cy B sz sh (jA B sz) s.heap H locs m → jL ls [some (jR B a0), none, some (jI x2), some (jI x3), none, some (jI x5), some (jI x6)] → k83 a0 x2 x3 x5 x6 m = some res → W p l e (jrm (kr + 3) 0 0) s mi args below meth c H locs 0 0 (MQ below (jQc D cy B sz sh res none True) args s 0 0 (jA B sz)) (F0 mi 83 ls [])) {a0 : Nat} {x2 : Int} (h_x2 : jIn x2) {x3 : Int} (h_x3 : jIn x3) {x5 : Int} (h_x5 : jIn x5) {x6 : Int} (h_x6 : jIn x6) {m : jm_M} {H : Heap} {locs : List Loc} {ls : Array Slot} (S : jHs D cy B sz sh (jA B sz) s.heap H locs m) (L : jL ls [some (jR B a0), none, some (jI x2), some (jI x3), none, some (jI x5), some (jI x6)]) (hyp : f_X6_go_b83 N sh rec k83 a0 x2 x3 x5 x6 m = some res) : W p l e (jrm (kr + 3) 0 0) s mi args below meth c H locs 0 0 (MQ below (jQc D cy B sz sh res none True) args s 0 0 (jA B sz)) (F0 mi 83 ls []) := by
  unfold f_X6_go_b83 at hyp
  refine jr_iload (pc := 83) C L dX6_go_83 rfl ?_
  refine jr_iload (pc := 85) C L dX6_go_85 rfl ?_
  refine jr_icmp_ge (pc := 87) C h_x6 h_x5 (tgt := 104) dX6_go_87 (by decide) (fun c1 => ?_) (fun c1 => ?_)
  · have hyp := (if_pos c1).symm.trans hyp
    refine jr_aload_n (pc := 90) C L dX6_go_90 rfl rfl ?_
    refine jr_iload_n (pc := 91) C L dX6_go_91 rfl rfl ?_
    refine jr_iload_n (pc := 92) C L dX6_go_92 rfl rfl ?_
    refine jr_iconst (pc := 93) C dX6_go_93 ?_
    refine jr_iadd (pc := 94) C dX6_go_94 ?_
    obtain ⟨u2, hu2, hyp⟩ := jbind hyp
    obtain ⟨q3, hq3, hyp⟩ := jbind hyp
    refine jr_callV_N (pc := 95) C S L (As := [jI x3, jI (jw (x2 + 1))]) (rest := []) (hrec a0 x3 (jw (x2 + 1)) h_x3 (jIn_w _) m q3 hq3) mv_X6_go ml_X6_61 rfl (jck_spec hu2) (by omega) rfl rfl rfl (Nat.le_of_ble_eq_true rfl) ⟨Nat.le_refl 0, Nat.le_refl 0⟩ dX6_go_95 (fun p4 H locs S => ?_)
    refine jr_iinc (pc := 98) C L dX6_go_98 rfl (Nat.le_of_ble_eq_true rfl) (fun ls L => ?_)
    have L : jL ls [some (jR B a0), none, some (jI x2), some (jI x3), none, some (jI x5), some (jI (jw (x6 + 1)))] := L
    refine jr_goto (pc := 101) C (tgt := 83) dX6_go_101 (by decide) ?_
    exact K83 a0 x2 x3 x5 (jw (x6 + 1)) h_x2 h_x3 h_x5 (jIn_w _) q3 _ _ _ S (L.sub (jsub_s (jsub_n (jsub_s (jsub_s (jsub_n (jsub_s (jsub_s jsub_0)))))))) hyp
  · have hyp := (if_neg c1).symm.trans hyp
    refine jr_goto (pc := 104) C (tgt := 188) dX6_go_104 (by decide) ?_
    cases hyp
    exact jr_vret C S trivial dX6_go_188
theorem t_X6_go_l83 {p : Program} {l : Launch} {e : Env} {s : State} {mi : MethodId} {args : Array Value} {below : List Frame} {meth : Method} {c : Code} {D : va_G} {cy : Nat → ClassId} {B sz : Nat} {sh : jm_S} {res : jm_M} {N : Nat} {rec : Nat → Int → Int → jm_M → Option jm_M} {kr : Nat} (C : jCx p s mi args meth c cX6_go 7 RX6 none D cy) (hkr : 3 ≤ kr) (hrec : ∀ (a0 : Nat) (x1 : Int) (x2 : Int), jIn x1 → jIn x2 → ∀ (m : jm_M) (res : jm_M), rec a0 x1 x2 m = some res → jCt l D cy B sz sh kr yX6_go cX6_go 7 none [jR B a0, jI x1, jI x2] m none res True) : ∀ (n : Nat) (a0 : Nat) (x2 : Int) (x3 : Int) (x5 : Int) (x6 : Int), jIn x2 → jIn x3 → jIn x5 → jIn x6 → ∀ (m : jm_M) (H : Heap) (locs : List Loc) (ls : Array Slot), jHs D cy B sz sh (jA B sz) s.heap H locs m → jL ls [some (jR B a0), none, some (jI x2), some (jI x3), none, some (jI x5), some (jI x6)] → f_X6_go_l83 N sh rec n a0 x2 x3 x5 x6 m = some res → W p l e (jrm (kr + 3) 0 0) s mi args below meth c H locs 0 0 (MQ below (jQc D cy B sz sh res none True) args s 0 0 (jA B sz)) (F0 mi 83 ls []) := by
  intro n
  induction n with
  | zero => intro a0 x2 x3 x5 x6 h_x2 h_x3 h_x5 h_x6 m H locs ls S L hyp; cases hyp
  | succ n ih => intro a0 x2 x3 x5 x6 h_x2 h_x3 h_x5 h_x6 m H locs ls S L hyp; exact t_X6_go_b83 (N := N) C hkr hrec ih h_x2 h_x3 h_x5 h_x6 S L hyp
set_option maxHeartbeats 4000000 in
set_option maxRecDepth 100000 in
theorem t_X6_go_b136 {p : Program} {l : Launch} {e : Env} {s : State} {mi : MethodId} {args : Array Value} {below : List Frame} {meth : Method} {c : Code} {D : va_G} {cy : Nat → ClassId} {B sz : Nat} {sh : jm_S} {res : jm_M} {N : Nat} {rec : Nat → Int → Int → jm_M → Option jm_M} {kr : Nat} (C : jCx p s mi args meth c cX6_go 7 RX6 none D cy) (hkr : 3 ≤ kr) (hrec : ∀ (a0 : Nat) (x1 : Int) (x2 : Int), jIn x1 → jIn x2 → ∀ (m : jm_M) (res : jm_M), rec a0 x1 x2 m = some res → jCt l D cy B sz sh kr yX6_go cX6_go 7 none [jR B a0, jI x1, jI x2] m none res True) {x2 : Int} (h_x2 : jIn x2) {r0 : Nat} {s1 : Int} (h_s1 : jIn s1) {m : jm_M} {H : Heap} {locs : List Loc} {ls : Array Slot} (S : jHs D cy B sz sh (jA B sz) s.heap H locs m) (L : jL ls [none, none, some (jI x2), none, none, none, none]) (hyp : f_X6_go_b136 N sh rec x2 r0 s1 m = some res) : W p l e (jrm (kr + 3) 0 0) s mi args below meth c H locs 0 0 (MQ below (jQc D cy B sz sh res none True) args s 0 0 (jA B sz)) (F0 mi 136 ls [jI s1, jR B r0]) := by
  unfold f_X6_go_b136 at hyp
  refine jr_iload_n (pc := 136) C L dX6_go_136 rfl rfl ?_
  refine jr_iconst (pc := 137) C dX6_go_137 ?_
  refine jr_iadd (pc := 138) C dX6_go_138 ?_
  obtain ⟨u5, hu5, hyp⟩ := jbind hyp
  obtain ⟨q6, hq6, hyp⟩ := jbind hyp
  refine jr_callV_N (pc := 139) C S L (As := [jI s1, jI (jw (x2 + 1))]) (rest := []) (hrec r0 s1 (jw (x2 + 1)) h_s1 (jIn_w _) m q6 hq6) mv_X6_go ml_X6_61 rfl (jck_spec hu5) (by omega) rfl rfl rfl (Nat.le_of_ble_eq_true rfl) ⟨Nat.le_refl 0, Nat.le_refl 0⟩ dX6_go_139 (fun p7 H locs S => ?_)
  refine jr_goto (pc := 142) C (tgt := 188) dX6_go_142 (by decide) ?_
  cases hyp
  exact jr_vret C S trivial dX6_go_188
set_option maxHeartbeats 4000000 in
set_option maxRecDepth 100000 in
theorem t_X6_go_e {p : Program} {l : Launch} {e : Env} {s : State} {mi : MethodId} {args : Array Value} {below : List Frame} {meth : Method} {c : Code} {D : va_G} {cy : Nat → ClassId} {B sz : Nat} {sh : jm_S} {res : jm_M} {N : Nat} {rec : Nat → Int → Int → jm_M → Option jm_M} {kr : Nat} (C : jCx p s mi args meth c cX6_go 7 RX6 none D cy) (hkr : 3 ≤ kr) (hrec : ∀ (a0 : Nat) (x1 : Int) (x2 : Int), jIn x1 → jIn x2 → ∀ (m : jm_M) (res : jm_M), rec a0 x1 x2 m = some res → jCt l D cy B sz sh kr yX6_go cX6_go 7 none [jR B a0, jI x1, jI x2] m none res True) {a0 : Nat} {x1 : Int} (h_x1 : jIn x1) {x2 : Int} (h_x2 : jIn x2) {m : jm_M} {H : Heap} {locs : List Loc} {ls : Array Slot} (S : jHs D cy B sz sh (jA B sz) s.heap H locs m) (L : jL ls [some (jR B a0), some (jI x1), some (jI x2), none, none, none, none]) (hyp : f_X6_go_e N sh rec a0 x1 x2 m = some res) : W p l e (jrm (kr + 3) 0 0) s mi args below meth c H locs 0 0 (MQ below (jQc D cy B sz sh res none True) args s 0 0 (jA B sz)) (F0 mi 0 ls []) := by
  unfold f_X6_go_e at hyp
  refine jr_iload_n (pc := 0) C L dX6_go_0 rfl rfl ?_
  refine jr_iconst (pc := 1) C dX6_go_1 ?_
  refine jr_icmp_le (pc := 2) C h_x2 (show jIn 4 from ⟨by decide, by decide⟩) (tgt := 6) dX6_go_2 (by decide) (fun c8 => ?_) (fun c8 => ?_)
  · have hyp := (if_pos c8).symm.trans hyp
    cases hyp
    exact jr_vret C S trivial dX6_go_5
  · have hyp := (if_neg c8).symm.trans hyp
    refine jr_aload_n (pc := 6) C L dX6_go_6 rfl rfl ?_
    obtain ⟨v9, hv9, hyp⟩ := jbind hyp
    refine jr_getR (pc := 7) C S lf_X6_25 rfl hv9 dX6_go_7 ?_
    refine jr_iload_n (pc := 10) C L dX6_go_10 rfl rfl ?_
    obtain ⟨u10, hu10, hyp⟩ := jbind hyp
    obtain ⟨q11, hq11, hyp⟩ := jbind hyp
    refine jr_callV_I (pc := 11) C S L (As := [jI x1]) (rest := []) (c_X10_firstPart (m0 := m) h_x1 hq11) mv_X10_firstPart ml_X6_68 rfl (jck_spec hu10) (by omega) rfl rfl rfl (Nat.le_of_ble_eq_true rfl) ⟨Nat.le_refl 0, Nat.le_refl 0⟩ dX6_go_11 (fun p12 H locs S => ?_)
    refine jr_istore_n (pc := 14) C L dX6_go_14 rfl (Nat.le_of_ble_eq_true rfl) (fun ls L => ?_)
    have L : jL ls [some (jR B a0), some (jI x1), some (jI x2), some (jI q11), none, none, none] := L
    refine jr_aload_n (pc := 15) C L dX6_go_15 rfl rfl ?_
    obtain ⟨v13, hv13, hyp⟩ := jbind hyp
    refine jr_getR (pc := 16) C S lf_X6_25 rfl hv13 dX6_go_16 ?_
    refine jr_iload_n (pc := 19) C L dX6_go_19 rfl rfl ?_
    obtain ⟨u14, hu14, hyp⟩ := jbind hyp
    obtain ⟨q15, hq15, hyp⟩ := jbind hyp
    refine jr_callV_I (pc := 20) C S L (As := [jI x1]) (rest := []) (c_X10_secondPart (m0 := m) h_x1 hq15) mv_X10_secondPart ml_X6_71 rfl (jck_spec hu14) (by omega) rfl rfl rfl (Nat.le_of_ble_eq_true rfl) ⟨Nat.le_refl 0, Nat.le_refl 0⟩ dX6_go_20 (fun p16 H locs S => ?_)
    refine jr_istore (pc := 23) C L dX6_go_23 (Nat.le_of_ble_eq_true rfl) (fun ls L => ?_)
    have L : jL ls [some (jR B a0), some (jI x1), some (jI x2), some (jI q11), some (jI q15), none, none] := L
    refine jr_aload_n (pc := 25) C L dX6_go_25 rfl rfl ?_
    obtain ⟨v17, hv17, hyp⟩ := jbind hyp
    refine jr_getR (pc := 26) C S lf_X6_25 rfl hv17 dX6_go_26 ?_
    refine jr_iload_n (pc := 29) C L dX6_go_29 rfl rfl ?_
    obtain ⟨u18, hu18, hyp⟩ := jbind hyp
    obtain ⟨q19, hq19, hyp⟩ := jbind hyp
    refine jr_callV_I (pc := 30) C S L (As := [jI x1]) (rest := []) (c_X10_signAt (m0 := m) h_x1 hq19) mv_X10_signAt ml_X6_74 rfl (jck_spec hu18) (by omega) rfl rfl rfl (Nat.le_of_ble_eq_true rfl) ⟨Nat.le_refl 0, Nat.le_refl 0⟩ dX6_go_30 (fun p20 H locs S => ?_)
    obtain ⟨q21, hq21, hyp⟩ := jbind hyp
    refine jr_callSN_I (pc := 33) C S L (As := [jI q19]) (rest := []) (c_X11_partsOf (m0 := m) p20 hq21) ms_X11_partsOf mn_X6_77 (by omega) rfl rfl rfl (Nat.le_of_ble_eq_true rfl) ⟨Nat.le_refl 0, Nat.le_refl 0⟩ dX6_go_33 (fun p22 H locs S => ?_)
    by_cases c23 : (1 : Int) = q21
    · have hyp := (if_pos c23).symm.trans hyp
      refine jr_lookup (pc := 36) C p22 (off := 28) (tgt := 64) dX6_go_36 rfl (if_pos c23) (by decide) ?_
      refine jr_aload_n (pc := 64) C L dX6_go_64 rfl rfl ?_
      refine jr_aload_n (pc := 65) C L dX6_go_65 rfl rfl ?_
      obtain ⟨v24, hv24, hyp⟩ := jbind hyp
      refine jr_getR (pc := 66) C S lf_X6_25 rfl hv24 dX6_go_66 ?_
      refine jr_iload_n (pc := 69) C L dX6_go_69 rfl rfl ?_
      obtain ⟨u25, hu25, hyp⟩ := jbind hyp
      obtain ⟨q26, hq26, hyp⟩ := jbind hyp
      refine jr_callV_I (pc := 70) C S L (As := [jI x1]) (rest := [jR B a0]) (c_X10_timesAt (m0 := m) h_x1 hq26) mv_X10_timesAt ml_X6_80 rfl (jck_spec hu25) (by omega) rfl rfl rfl (by simp [jR_cat, jI_cat]) ⟨Nat.le_refl 0, Nat.le_refl 0⟩ dX6_go_70 (fun p27 H locs S => ?_)
      refine jr_iconst (pc := 73) C dX6_go_73 ?_
      refine jr_iadd (pc := 74) C dX6_go_74 ?_
      obtain ⟨u28, hu28, hyp⟩ := jbind hyp
      obtain ⟨q29, hq29, hyp⟩ := jbind hyp
      refine jr_callV_I (pc := 75) C S L (As := [jI (jw (q26 + 1))]) (rest := []) (c_X6_howOften (jIn_w _) hq29) mv_X6_howOften ml_X6_83 rfl (jck_spec hu28) (by omega) rfl rfl rfl (Nat.le_of_ble_eq_true rfl) ⟨Nat.le_refl 0, Nat.le_refl 0⟩ dX6_go_75 (fun p30 H locs S => ?_)
      refine jr_istore (pc := 78) C L dX6_go_78 (Nat.le_of_ble_eq_true rfl) (fun ls L => ?_)
      have L : jL ls [some (jR B a0), some (jI x1), some (jI x2), some (jI q11), some (jI q15), some (jI q29.1), none] := L
      refine jr_iconst (pc := 80) C dX6_go_80 ?_
      refine jr_istore (pc := 81) C L dX6_go_81 (Nat.le_of_ble_eq_true rfl) (fun ls L => ?_)
      have L : jL ls [some (jR B a0), some (jI x1), some (jI x2), some (jI q11), some (jI q15), some (jI q29.1), some (jI 0)] := L
      exact t_X6_go_l83 C hkr hrec  N a0 x2 q11 q29.1 0 h_x2 p12 p30 (show jIn 0 from ⟨by decide, by decide⟩) q29.2 _ _ _ S (L.sub (jsub_s (jsub_n (jsub_s (jsub_s (jsub_n (jsub_s (jsub_s jsub_0)))))))) hyp
    have hyp := (if_neg c23).symm.trans hyp
    by_cases c31 : (2 : Int) = q21
    · have hyp := (if_pos c31).symm.trans hyp
      refine jr_lookup (pc := 36) C p22 (off := 71) (tgt := 107) dX6_go_36 rfl ((if_neg c23).trans (if_pos c31)) (by decide) ?_
      refine jr_aload_n (pc := 107) C L dX6_go_107 rfl rfl ?_
      obtain ⟨v32, hv32, hyp⟩ := jbind hyp
      refine jr_getR (pc := 108) C S lf_X6_25 rfl hv32 dX6_go_108 ?_
      refine jr_iload_n (pc := 111) C L dX6_go_111 rfl rfl ?_
      obtain ⟨u33, hu33, hyp⟩ := jbind hyp
      obtain ⟨q34, hq34, hyp⟩ := jbind hyp
      refine jr_callV_I (pc := 112) C S L (As := [jI x1]) (rest := []) (c_X10_signAt (m0 := m) h_x1 hq34) mv_X10_signAt ml_X6_74 rfl (jck_spec hu33) (by omega) rfl rfl rfl (Nat.le_of_ble_eq_true rfl) ⟨Nat.le_refl 0, Nat.le_refl 0⟩ dX6_go_112 (fun p35 H locs S => ?_)
      refine jr_bipush (pc := 115) C dX6_go_115 (by decide) ?_
      refine jr_icmp_ne (pc := 117) C p35 (show jIn 63 from ⟨by decide, by decide⟩) (tgt := 145) dX6_go_117 (by decide) (fun c36 => ?_) (fun c36 => ?_)
      · have hyp := (if_pos c36).symm.trans hyp
        refine jr_aload_n (pc := 120) C L dX6_go_120 rfl rfl ?_
        refine jr_aload_n (pc := 121) C L dX6_go_121 rfl rfl ?_
        obtain ⟨u37, hu37, hyp⟩ := jbind hyp
        obtain ⟨q38, hq38, hyp⟩ := jbind hyp
        refine jr_callV_I (pc := 122) C S L (As := []) (rest := [jR B a0]) (c_X6_nextDigit  hq38) mv_X6_nextDigit ml_X6_86 rfl (jck_spec hu37) (by omega) rfl rfl rfl (by simp [jR_cat, jI_cat]) ⟨Nat.le_refl 0, Nat.le_refl 0⟩ dX6_go_122 (fun p39 H locs S => ?_)
        refine jr_iconst (pc := 125) C dX6_go_125 ?_
        refine jr_irem (pc := 126) C p39 (show jIn 2 from ⟨by decide, by decide⟩) (by decide) dX6_go_126 ?_
        refine jr_if_ne (pc := 127) C (jIn_rem _ p39) (tgt := 134) dX6_go_127 (by decide) (fun c40 => ?_) (fun c40 => ?_)
        · have hyp := (if_pos c40).symm.trans hyp
          refine jr_iload_n (pc := 130) C L dX6_go_130 rfl rfl ?_
          refine jr_goto (pc := 131) C (tgt := 136) dX6_go_131 (by decide) ?_
          exact t_X6_go_b136 C hkr hrec  h_x2 p12 S (L.sub (jsub_n (jsub_n (jsub_s (jsub_n (jsub_n (jsub_n (jsub_n jsub_0)))))))) hyp
        · have hyp := (if_neg c40).symm.trans hyp
          refine jr_iload (pc := 134) C L dX6_go_134 rfl ?_
          exact t_X6_go_b136 C hkr hrec  h_x2 p16 S (L.sub (jsub_n (jsub_n (jsub_s (jsub_n (jsub_n (jsub_n (jsub_n jsub_0)))))))) hyp
      · have hyp := (if_neg c36).symm.trans hyp
        refine jr_aload_n (pc := 145) C L dX6_go_145 rfl rfl ?_
        refine jr_iload_n (pc := 146) C L dX6_go_146 rfl rfl ?_
        refine jr_iload_n (pc := 147) C L dX6_go_147 rfl rfl ?_
        refine jr_iconst (pc := 148) C dX6_go_148 ?_
        refine jr_iadd (pc := 149) C dX6_go_149 ?_
        obtain ⟨u41, hu41, hyp⟩ := jbind hyp
        obtain ⟨q42, hq42, hyp⟩ := jbind hyp
        refine jr_callV_N (pc := 150) C S L (As := [jI q11, jI (jw (x2 + 1))]) (rest := []) (hrec a0 q11 (jw (x2 + 1)) p12 (jIn_w _) m q42 hq42) mv_X6_go ml_X6_61 rfl (jck_spec hu41) (by omega) rfl rfl rfl (Nat.le_of_ble_eq_true rfl) ⟨Nat.le_refl 0, Nat.le_refl 0⟩ dX6_go_150 (fun p43 H locs S => ?_)
        refine jr_aload_n (pc := 153) C L dX6_go_153 rfl rfl ?_
        refine jr_iload (pc := 154) C L dX6_go_154 rfl ?_
        refine jr_iload_n (pc := 156) C L dX6_go_156 rfl rfl ?_
        refine jr_iconst (pc := 157) C dX6_go_157 ?_
        refine jr_iadd (pc := 158) C dX6_go_158 ?_
        obtain ⟨u44, hu44, hyp⟩ := jbind hyp
        obtain ⟨q45, hq45, hyp⟩ := jbind hyp
        refine jr_callV_N (pc := 159) C S L (As := [jI q15, jI (jw (x2 + 1))]) (rest := []) (hrec a0 q15 (jw (x2 + 1)) p16 (jIn_w _) q42 q45 hq45) mv_X6_go ml_X6_61 rfl (jck_spec hu44) (by omega) rfl rfl rfl (Nat.le_of_ble_eq_true rfl) ⟨Nat.le_refl 0, Nat.le_refl 0⟩ dX6_go_159 (fun p46 H locs S => ?_)
        refine jr_goto (pc := 162) C (tgt := 188) dX6_go_162 (by decide) ?_
        cases hyp
        exact jr_vret C S trivial dX6_go_188
    have hyp := (if_neg c31).symm.trans hyp
    refine jr_lookup (pc := 36) C p22 (off := 129) (tgt := 165) dX6_go_36 rfl ((if_neg c23).trans ((if_neg c31).trans rfl)) (by decide) ?_
    refine jr_aload_n (pc := 165) C L dX6_go_165 rfl rfl ?_
    obtain ⟨v47, hv47, hyp⟩ := jbind hyp
    refine jr_getR (pc := 166) C S lf_X6_25 rfl hv47 dX6_go_166 ?_
    refine jr_iload_n (pc := 169) C L dX6_go_169 rfl rfl ?_
    obtain ⟨u48, hu48, hyp⟩ := jbind hyp
    obtain ⟨q49, hq49, hyp⟩ := jbind hyp
    refine jr_callV_I (pc := 170) C S L (As := [jI x1]) (rest := []) (c_X10_isFetchAt (m0 := m) h_x1 hq49) mv_X10_isFetchAt ml_X6_89 rfl (jck_spec hu48) (by omega) rfl rfl rfl (Nat.le_of_ble_eq_true rfl) ⟨Nat.le_refl 0, Nat.le_refl 0⟩ dX6_go_170 (fun p50 H locs S => ?_)
    refine jr_if_eq (pc := 173) C p50 (tgt := 188) dX6_go_173 (by decide) (fun c51 => ?_) (fun c51 => ?_)
    · have hyp := (if_pos c51).symm.trans hyp
      cases hyp
      exact jr_vret C S trivial dX6_go_188
    · have hyp := (if_neg c51).symm.trans hyp
      refine jr_aload_n (pc := 176) C L dX6_go_176 rfl rfl ?_
      refine jr_aload_n (pc := 177) C L dX6_go_177 rfl rfl ?_
      obtain ⟨v52, hv52, hyp⟩ := jbind hyp
      refine jr_getR (pc := 178) C S lf_X6_25 rfl hv52 dX6_go_178 ?_
      refine jr_iload_n (pc := 181) C L dX6_go_181 rfl rfl ?_
      obtain ⟨u53, hu53, hyp⟩ := jbind hyp
      obtain ⟨q54, hq54, hyp⟩ := jbind hyp
      refine jr_callV_I (pc := 182) C S L (As := [jI x1]) (rest := [jR B a0]) (c_X10_lineAt (m0 := m) h_x1 hq54) mv_X10_lineAt ml_X6_93 rfl (jck_spec hu53) (by omega) rfl rfl rfl (by simp [jR_cat, jI_cat]) ⟨Nat.le_refl 0, Nat.le_refl 0⟩ dX6_go_182 (fun p55 H locs S => ?_)
      obtain ⟨u56, hu56, hyp⟩ := jbind hyp
      obtain ⟨q57, hq57, hyp⟩ := jbind hyp
      refine jr_callV_N (pc := 185) C S L (As := [jI q54]) (rest := []) (c_X6_fetch p55 hq57) mv_X6_fetch ml_X6_96 rfl (jck_spec hu56) (by omega) rfl rfl rfl (Nat.le_of_ble_eq_true rfl) ⟨Nat.le_refl 0, Nat.le_refl 0⟩ dX6_go_185 (fun p58 H locs S => ?_)
      cases hyp
      exact jr_vret C S trivial dX6_go_188
theorem ce_X6_go {l : Launch} {D : va_G} {cy : Nat → ClassId} {B sz : Nat} {sh : jm_S} {res : jm_M} {N : Nat} {rec : Nat → Int → Int → jm_M → Option jm_M} {kr : Nat} {m : jm_M} (hkr : 3 ≤ kr) (hrec : ∀ (a0 : Nat) (x1 : Int) (x2 : Int), jIn x1 → jIn x2 → ∀ (m : jm_M) (res : jm_M), rec a0 x1 x2 m = some res → jCt l D cy B sz sh kr yX6_go cX6_go 7 none [jR B a0, jI x1, jI x2] m none res True) {a0 : Nat} {x1 : Int} (h_x1 : jIn x1) {x2 : Int} (h_x2 : jIn x2) (hyp : f_X6_go_e N sh rec a0 x1 x2 m = some res) : jCt l D cy B sz sh (kr + 3) yX6_go cX6_go 7 none [jR B a0, jI x1, jI x2] m none res True :=
  jc_of (by decide) (fun v h => by simp only [List.mem_cons, List.not_mem_nil, or_false] at h; rcases h with rfl | rfl | rfl <;> first | rfl | exact jR_cat _ _) (Nat.le_of_ble_eq_true rfl) (fun C S L => t_X6_go_e C hkr hrec h_x1 h_x2 S L hyp)
theorem cd_X6_go {l : Launch} {D : va_G} {cy : Nat → ClassId} {B sz : Nat} {sh : jm_S} {N : Nat} : ∀ (d : Nat) (a0 : Nat) (x1 : Int) (x2 : Int), jIn x1 → jIn x2 → ∀ (m : jm_M) (res : jm_M), f_X6_go N sh d a0 x1 x2 m = some res → jCt l D cy B sz sh (3 + 3 * d) yX6_go cX6_go 7 none [jR B a0, jI x1, jI x2] m none res True := by
  intro d
  induction d with
  | zero => intro a0 x1 x2 h_x1 h_x2 m res hyp; cases hyp
  | succ d ih =>
    intro a0 x1 x2 h_x1 h_x2 m res hyp
    have h := ce_X6_go (kr := 3 + 3 * d) (l := l) (D := D) (cy := cy) (B := B) (sz := sz) (by omega) ih h_x1 h_x2 hyp
    rwa [show 3 + 3 * d + 3 = 3 + 3 * (d + 1) by omega] at h
set_option maxHeartbeats 4000000 in
set_option maxRecDepth 100000 in
theorem t_X6_goThrough_e {p : Program} {l : Launch} {e : Env} {s : State} {mi : MethodId} {args : Array Value} {below : List Frame} {meth : Method} {c : Code} {D : va_G} {cy : Nat → ClassId} {B sz : Nat} {sh : jm_S} {res : jm_M} {N : Nat} (C : jCx p s mi args meth c cX6_goThrough 2 RX6 none D cy) {a0 : Nat} {a1 : Nat} {m : jm_M} {H : Heap} {locs : List Loc} {ls : Array Slot} (S : jHs D cy B sz sh (jA B sz) s.heap H locs m) (L : jL ls [some (jR B a0), some (jR B a1)]) (hyp : f_X6_goThrough N sh a0 a1 m = some res) : W p l e (jrm 28 0 0) s mi args below meth c H locs 0 0 (MQ below (jQc D cy B sz sh res none True) args s 0 0 (jA B sz)) (F0 mi 0 ls []) := by
  unfold f_X6_goThrough at hyp
  refine jr_aload_n (pc := 0) C L dX6_goThrough_0 rfl rfl ?_
  refine jr_aload_n (pc := 1) C L dX6_goThrough_1 rfl rfl ?_
  obtain ⟨m1, hm1, hyp⟩ := jbind hyp
  refine jr_putW (pc := 2) C S lf_X6_25 fp_X6_5 rfl hm1 dX6_goThrough_2 (fun H locs S => ?_)
  refine jr_aload_n (pc := 5) C L dX6_goThrough_5 rfl rfl ?_
  refine jr_iconst (pc := 6) C dX6_goThrough_6 ?_
  obtain ⟨m2, hm2, hyp⟩ := jbind hyp
  refine jr_putI (pc := 7) C S lf_X6_29 fp_X6_0 rfl (show jIn 0 from ⟨by decide, by decide⟩) hm2 dX6_goThrough_7 (fun H locs S => ?_)
  refine jr_aload_n (pc := 10) C L dX6_goThrough_10 rfl rfl ?_
  refine jr_iconst (pc := 11) C dX6_goThrough_11 ?_
  obtain ⟨m3, hm3, hyp⟩ := jbind hyp
  refine jr_putI (pc := 12) C S lf_X6_33 fp_X6_1 rfl (show jIn 0 from ⟨by decide, by decide⟩) hm3 dX6_goThrough_12 (fun H locs S => ?_)
  refine jr_aload_n (pc := 15) C L dX6_goThrough_15 rfl rfl ?_
  refine jr_iconst (pc := 16) C dX6_goThrough_16 ?_
  obtain ⟨m4, hm4, hyp⟩ := jbind hyp
  refine jr_putI (pc := 17) C S lf_X6_36 fp_X6_2 rfl (show jIn 0 from ⟨by decide, by decide⟩) hm4 dX6_goThrough_17 (fun H locs S => ?_)
  refine jr_aload_n (pc := 20) C L dX6_goThrough_20 rfl rfl ?_
  refine jr_iconst (pc := 21) C dX6_goThrough_21 ?_
  obtain ⟨m5, hm5, hyp⟩ := jbind hyp
  refine jr_putI (pc := 22) C S lf_X6_39 fp_X6_3 rfl (show jIn 0 from ⟨by decide, by decide⟩) hm5 dX6_goThrough_22 (fun H locs S => ?_)
  refine jr_aload_n (pc := 25) C L dX6_goThrough_25 rfl rfl ?_
  refine jr_iconst (pc := 26) C dX6_goThrough_26 ?_
  obtain ⟨m6, hm6, hyp⟩ := jbind hyp
  refine jr_putI (pc := 27) C S lf_X6_42 fp_X6_4 rfl (show jIn 0 from ⟨by decide, by decide⟩) hm6 dX6_goThrough_27 (fun H locs S => ?_)
  refine jr_aload_n (pc := 30) C L dX6_goThrough_30 rfl rfl ?_
  obtain ⟨v7, hv7, hyp⟩ := jbind hyp
  refine jr_getR (pc := 31) C S lf_X6_15 rfl hv7 dX6_goThrough_31 ?_
  refine jr_aload_n (pc := 34) C L dX6_goThrough_34 rfl rfl ?_
  obtain ⟨v8, hv8, hyp⟩ := jbind hyp
  refine jr_getR (pc := 35) C S lf_X6_9 rfl hv8 dX6_goThrough_35 ?_
  refine jr_aload_n (pc := 38) C L dX6_goThrough_38 rfl rfl ?_
  obtain ⟨v9, hv9, hyp⟩ := jbind hyp
  refine jr_getR (pc := 39) C S lf_X6_9 rfl hv9 dX6_goThrough_39 ?_
  refine jr_iconst (pc := 42) C dX6_goThrough_42 ?_
  obtain ⟨u10, hu10, hyp⟩ := jbind hyp
  obtain ⟨q11, hq11, hyp⟩ := jbind hyp
  refine jr_callV_I (pc := 43) C S L (As := [jI 3]) (rest := [jR B v8.toNat, jR B v7.toNat]) (c_X1_setting (m0 := m6) (show jIn 3 from ⟨by decide, by decide⟩) hq11) mv_X1_setting ml_X6_45 rfl (jck_spec hu10) (by decide) rfl rfl rfl (by simp [jR_cat, jI_cat]) ⟨Nat.le_refl 0, Nat.le_refl 0⟩ dX6_goThrough_43 (fun p12 H locs S => ?_)
  refine jr_aload_n (pc := 46) C L dX6_goThrough_46 rfl rfl ?_
  obtain ⟨u13, hu13, hyp⟩ := jbind hyp
  obtain ⟨q14, hq14, hyp⟩ := jbind hyp
  refine jr_callV_I (pc := 47) C S L (As := []) (rest := [jI q11, jR B v8.toNat, jR B v7.toNat]) (c_X10_allLines (m0 := m6)  hq14) mv_X10_allLines ml_X6_49 rfl (jck_spec hu13) (by decide) rfl rfl rfl (by simp [jR_cat, jI_cat]) ⟨Nat.le_refl 0, Nat.le_refl 0⟩ dX6_goThrough_47 (fun p15 H locs S => ?_)
  obtain ⟨u16, hu16, hyp⟩ := jbind hyp
  obtain ⟨q17, hq17, hyp⟩ := jbind hyp
  refine jr_callV_N (pc := 50) C S L (As := [jR B v8.toNat, jI q11, jI q14]) (rest := []) (c_X7_lay p12 p15 hq17) mv_X7_lay ml_X6_55 rfl (jck_spec hu16) (by decide) rfl rfl rfl (Nat.le_of_ble_eq_true rfl) ⟨Nat.le_refl 0, Nat.le_refl 0⟩ dX6_goThrough_50 (fun p18 H locs S => ?_)
  refine jr_aload_n (pc := 53) C L dX6_goThrough_53 rfl rfl ?_
  refine jr_iconst (pc := 54) C dX6_goThrough_54 ?_
  refine jr_iconst (pc := 55) C dX6_goThrough_55 ?_
  obtain ⟨u19, hu19, hyp⟩ := jbind hyp
  obtain ⟨q20, hq20, hyp⟩ := jbind hyp
  refine jr_callV_N (pc := 56) C S L (As := [jI 0, jI 0]) (rest := []) (cd_X6_go 8 a0 0 0 (show jIn 0 from ⟨by decide, by decide⟩) (show jIn 0 from ⟨by decide, by decide⟩) q17 q20 hq20) mv_X6_go ml_X6_61 rfl (jck_spec hu19) (by decide) rfl rfl rfl (Nat.le_of_ble_eq_true rfl) ⟨Nat.le_refl 0, Nat.le_refl 0⟩ dX6_goThrough_56 (fun p21 H locs S => ?_)
  cases hyp
  exact jr_vret C S trivial dX6_goThrough_59
theorem c_X6_goThrough {l : Launch} {D : va_G} {cy : Nat → ClassId} {B sz : Nat} {sh : jm_S} {res : jm_M} {N : Nat} {m : jm_M} {a0 : Nat} {a1 : Nat} (hyp : f_X6_goThrough N sh a0 a1 m = some res) : jCt l D cy B sz sh 28 yX6_goThrough cX6_goThrough 2 none [jR B a0, jR B a1] m none res True :=
  jc_of (by decide) (fun v h => by simp only [List.mem_cons, List.not_mem_nil, or_false] at h; rcases h with rfl | rfl <;> first | rfl | exact jR_cat _ _) (Nat.le_of_ble_eq_true rfl) (fun C S L => t_X6_goThrough_e C   S L hyp)
set_option maxHeartbeats 4000000 in
set_option maxRecDepth 100000 in
theorem t_X7_linesOn_b42 {p : Program} {l : Launch} {e : Env} {s : State} {mi : MethodId} {args : Array Value} {below : List Frame} {meth : Method} {c : Code} {D : va_G} {cy : Nat → ClassId} {B sz : Nat} {sh : jm_S} {res : Int} {N : Nat} {m0 : jm_M} {k7 : Nat → Int → Int → Int → Option Int} (C : jCx p s mi args meth c cX7_linesOn 4 RX7 (some .int) D cy) (K7 : ∀ (a0 : Nat) (x1 : Int) (x2 : Int) (x3 : Int) , jIn x1 → jIn x2 → jIn x3 → ∀ (H : Heap) (locs : List Loc) (ls : Array Slot), jHs D cy B sz sh (jA B sz) s.heap H locs m0 → jL ls [some (jR B a0), some (jI x1), some (jI x2), some (jI x3)] → k7 a0 x1 x2 x3 = some res → W p l e (jrm 1 0 0) s mi args below meth c H locs 0 0 (MQ below (jQc D cy B sz sh m0 (some (jI res)) (jIn res)) args s 0 0 (jA B sz)) (F0 mi 7 ls [])) {a0 : Nat} {x1 : Int} (h_x1 : jIn x1) {x2 : Int} (h_x2 : jIn x2) {x3 : Int} (h_x3 : jIn x3) {H : Heap} {locs : List Loc} {ls : Array Slot} (S : jHs D cy B sz sh (jA B sz) s.heap H locs m0) (L : jL ls [some (jR B a0), some (jI x1), some (jI x2), some (jI x3)]) (hyp : f_X7_linesOn_b42 N sh k7 a0 x1 x2 x3 m0 = some res) : W p l e (jrm 1 0 0) s mi args below meth c H locs 0 0 (MQ below (jQc D cy B sz sh m0 (some (jI res)) (jIn res)) args s 0 0 (jA B sz)) (F0 mi 42 ls []) := by
  unfold f_X7_linesOn_b42 at hyp
  refine jr_iinc (pc := 42) C L dX7_linesOn_42 rfl (Nat.le_of_ble_eq_true rfl) (fun ls L => ?_)
  have L : jL ls [some (jR B a0), some (jI x1), some (jI x2), some (jI (jw (x3 + 1)))] := L
  refine jr_goto (pc := 45) C (tgt := 7) dX7_linesOn_45 (by decide) ?_
  exact K7 a0 x1 x2 (jw (x3 + 1)) h_x1 h_x2 (jIn_w _)  _ _ _ S (L.sub (jsub_s (jsub_s (jsub_s (jsub_s jsub_0))))) hyp
set_option maxHeartbeats 4000000 in
set_option maxRecDepth 100000 in
theorem t_X7_linesOn_b7 {p : Program} {l : Launch} {e : Env} {s : State} {mi : MethodId} {args : Array Value} {below : List Frame} {meth : Method} {c : Code} {D : va_G} {cy : Nat → ClassId} {B sz : Nat} {sh : jm_S} {res : Int} {N : Nat} {m0 : jm_M} {k7 : Nat → Int → Int → Int → Option Int} (C : jCx p s mi args meth c cX7_linesOn 4 RX7 (some .int) D cy) (K7 : ∀ (a0 : Nat) (x1 : Int) (x2 : Int) (x3 : Int) , jIn x1 → jIn x2 → jIn x3 → ∀ (H : Heap) (locs : List Loc) (ls : Array Slot), jHs D cy B sz sh (jA B sz) s.heap H locs m0 → jL ls [some (jR B a0), some (jI x1), some (jI x2), some (jI x3)] → k7 a0 x1 x2 x3 = some res → W p l e (jrm 1 0 0) s mi args below meth c H locs 0 0 (MQ below (jQc D cy B sz sh m0 (some (jI res)) (jIn res)) args s 0 0 (jA B sz)) (F0 mi 7 ls [])) {a0 : Nat} {x1 : Int} (h_x1 : jIn x1) {x2 : Int} (h_x2 : jIn x2) {x3 : Int} (h_x3 : jIn x3) {H : Heap} {locs : List Loc} {ls : Array Slot} (S : jHs D cy B sz sh (jA B sz) s.heap H locs m0) (L : jL ls [some (jR B a0), some (jI x1), some (jI x2), some (jI x3)]) (hyp : f_X7_linesOn_b7 N sh k7 a0 x1 x2 x3 m0 = some res) : W p l e (jrm 1 0 0) s mi args below meth c H locs 0 0 (MQ below (jQc D cy B sz sh m0 (some (jI res)) (jIn res)) args s 0 0 (jA B sz)) (F0 mi 7 ls []) := by
  unfold f_X7_linesOn_b7 at hyp
  refine jr_iload_n (pc := 7) C L dX7_linesOn_7 rfl rfl ?_
  refine jr_bipush (pc := 8) C dX7_linesOn_8 (by decide) ?_
  refine jr_icmp_ge (pc := 10) C h_x3 (show jIn 8 from ⟨by decide, by decide⟩) (tgt := 48) dX7_linesOn_10 (by decide) (fun c1 => ?_) (fun c1 => ?_)
  · have hyp := (if_pos c1).symm.trans hyp
    refine jr_aload_n (pc := 13) C L dX7_linesOn_13 rfl rfl ?_
    obtain ⟨v2, hv2, hyp⟩ := jbind hyp
    have iv2 := jrf_in S hv2
    refine jr_getI (pc := 14) C S lf_X7_39 rfl hv2 dX7_linesOn_14 ?_
    refine jr_iload_n (pc := 17) C L dX7_linesOn_17 rfl rfl ?_
    obtain ⟨q3, hq3, hyp⟩ := jbind hyp
    refine jr_callSN_I (pc := 18) C S L (As := [jI v2, jI x3]) (rest := []) (c_X11_isIn (m0 := m0) iv2 h_x3 hq3) ms_X11_isIn mn_X7_62 (by decide) rfl rfl rfl (Nat.le_of_ble_eq_true rfl) ⟨Nat.le_refl 0, Nat.le_refl 0⟩ dX7_linesOn_18 (fun p4 H locs S => ?_)
    refine jr_if_eq (pc := 21) C p4 (tgt := 42) dX7_linesOn_21 (by decide) (fun c5 => ?_) (fun c5 => ?_)
    · have hyp := (if_pos c5).symm.trans hyp
      exact t_X7_linesOn_b42 C  K7 h_x1 h_x2 h_x3 S (L.sub (jsub_s (jsub_s (jsub_s (jsub_s jsub_0))))) hyp
    · have hyp := (if_neg c5).symm.trans hyp
      refine jr_aload_n (pc := 24) C L dX7_linesOn_24 rfl rfl ?_
      refine jr_iload_n (pc := 25) C L dX7_linesOn_25 rfl rfl ?_
      refine jr_iload_n (pc := 26) C L dX7_linesOn_26 rfl rfl ?_
      obtain ⟨u6, hu6, hyp⟩ := jbind hyp
      obtain ⟨q7, hq7, hyp⟩ := jbind hyp
      refine jr_callV_I (pc := 27) C S L (As := [jI x3, jI x1]) (rest := []) (c_X7_stepOf (m0 := m0) h_x3 h_x1 hq7) mv_X7_stepOf ml_X7_82 rfl (jck_spec hu6) (by decide) rfl rfl rfl (Nat.le_of_ble_eq_true rfl) ⟨Nat.le_refl 0, Nat.le_refl 0⟩ dX7_linesOn_27 (fun p8 H locs S => ?_)
      refine jr_iconst (pc := 30) C dX7_linesOn_30 ?_
      refine jr_iand (pc := 31) C dX7_linesOn_31 ?_
      refine jr_iconst (pc := 32) C dX7_linesOn_32 ?_
      refine jr_icmp_ne (pc := 33) C (jIn_and _ _) (show jIn 1 from ⟨by decide, by decide⟩) (tgt := 42) dX7_linesOn_33 (by decide) (fun c9 => ?_) (fun c9 => ?_)
      · have hyp := (if_pos c9).symm.trans hyp
        refine jr_iload_n (pc := 36) C L dX7_linesOn_36 rfl rfl ?_
        refine jr_iconst (pc := 37) C dX7_linesOn_37 ?_
        refine jr_iload_n (pc := 38) C L dX7_linesOn_38 rfl rfl ?_
        refine jr_ishl (pc := 39) C dX7_linesOn_39 ?_
        refine jr_ior (pc := 40) C dX7_linesOn_40 ?_
        refine jr_istore_n (pc := 41) C L dX7_linesOn_41 rfl (Nat.le_of_ble_eq_true rfl) (fun ls L => ?_)
        have L : jL ls [some (jR B a0), some (jI x1), some (jI (jor x2 (jshl 1 x3))), some (jI x3)] := L
        exact t_X7_linesOn_b42 C  K7 h_x1 (jIn_or _ _) h_x3 S (L.sub (jsub_s (jsub_s (jsub_s (jsub_s jsub_0))))) hyp
      · have hyp := (if_neg c9).symm.trans hyp
        exact t_X7_linesOn_b42 C  K7 h_x1 h_x2 h_x3 S (L.sub (jsub_s (jsub_s (jsub_s (jsub_s jsub_0))))) hyp
  · have hyp := (if_neg c1).symm.trans hyp
    refine jr_iload_n (pc := 48) C L dX7_linesOn_48 rfl rfl ?_
    cases hyp
    exact jr_iret C S h_x2 dX7_linesOn_49
theorem t_X7_linesOn_l7 {p : Program} {l : Launch} {e : Env} {s : State} {mi : MethodId} {args : Array Value} {below : List Frame} {meth : Method} {c : Code} {D : va_G} {cy : Nat → ClassId} {B sz : Nat} {sh : jm_S} {res : Int} {N : Nat} {m0 : jm_M} (C : jCx p s mi args meth c cX7_linesOn 4 RX7 (some .int) D cy) : ∀ (n : Nat) (a0 : Nat) (x1 : Int) (x2 : Int) (x3 : Int), jIn x1 → jIn x2 → jIn x3 → ∀ (H : Heap) (locs : List Loc) (ls : Array Slot), jHs D cy B sz sh (jA B sz) s.heap H locs m0 → jL ls [some (jR B a0), some (jI x1), some (jI x2), some (jI x3)] → f_X7_linesOn_l7 N sh n a0 x1 x2 x3 m0 = some res → W p l e (jrm 1 0 0) s mi args below meth c H locs 0 0 (MQ below (jQc D cy B sz sh m0 (some (jI res)) (jIn res)) args s 0 0 (jA B sz)) (F0 mi 7 ls []) := by
  intro n
  induction n with
  | zero => intro a0 x1 x2 x3 h_x1 h_x2 h_x3 H locs ls S L hyp; cases hyp
  | succ n ih => intro a0 x1 x2 x3 h_x1 h_x2 h_x3 H locs ls S L hyp; exact t_X7_linesOn_b7 (N := N) C  ih h_x1 h_x2 h_x3 S L hyp
set_option maxHeartbeats 4000000 in
set_option maxRecDepth 100000 in
theorem t_X7_linesOn_e {p : Program} {l : Launch} {e : Env} {s : State} {mi : MethodId} {args : Array Value} {below : List Frame} {meth : Method} {c : Code} {D : va_G} {cy : Nat → ClassId} {B sz : Nat} {sh : jm_S} {res : Int} {N : Nat} {m0 : jm_M} (C : jCx p s mi args meth c cX7_linesOn 4 RX7 (some .int) D cy) {a0 : Nat} {x1 : Int} (h_x1 : jIn x1) {H : Heap} {locs : List Loc} {ls : Array Slot} (S : jHs D cy B sz sh (jA B sz) s.heap H locs m0) (L : jL ls [some (jR B a0), some (jI x1), none, none]) (hyp : f_X7_linesOn N sh a0 x1 m0 = some res) : W p l e (jrm 1 0 0) s mi args below meth c H locs 0 0 (MQ below (jQc D cy B sz sh m0 (some (jI res)) (jIn res)) args s 0 0 (jA B sz)) (F0 mi 0 ls []) := by
  unfold f_X7_linesOn at hyp
  refine jr_aload_n (pc := 0) C L dX7_linesOn_0 rfl rfl ?_
  obtain ⟨v10, hv10, hyp⟩ := jbind hyp
  have iv10 := jrf_in S hv10
  refine jr_getI (pc := 1) C S lf_X7_35 rfl hv10 dX7_linesOn_1 ?_
  refine jr_istore_n (pc := 4) C L dX7_linesOn_4 rfl (Nat.le_of_ble_eq_true rfl) (fun ls L => ?_)
  have L : jL ls [some (jR B a0), some (jI x1), some (jI v10), none] := L
  refine jr_iconst (pc := 5) C dX7_linesOn_5 ?_
  refine jr_istore_n (pc := 6) C L dX7_linesOn_6 rfl (Nat.le_of_ble_eq_true rfl) (fun ls L => ?_)
  have L : jL ls [some (jR B a0), some (jI x1), some (jI v10), some (jI 0)] := L
  exact t_X7_linesOn_l7 C   N a0 x1 v10 0 h_x1 iv10 (show jIn 0 from ⟨by decide, by decide⟩)  _ _ _ S (L.sub (jsub_s (jsub_s (jsub_s (jsub_s jsub_0))))) hyp
theorem c_X7_linesOn {l : Launch} {D : va_G} {cy : Nat → ClassId} {B sz : Nat} {sh : jm_S} {res : Int} {N : Nat} {m0 : jm_M} {a0 : Nat} {x1 : Int} (h_x1 : jIn x1) (hyp : f_X7_linesOn N sh a0 x1 m0 = some res) : jCt l D cy B sz sh 1 yX7_linesOn cX7_linesOn 4 (some .int) [jR B a0, jI x1] m0 (some (jI res)) m0 (jIn res) :=
  jc_of (by decide) (fun v h => by simp only [List.mem_cons, List.not_mem_nil, or_false] at h; rcases h with rfl | rfl <;> first | rfl | exact jR_cat _ _) (Nat.le_of_ble_eq_true rfl) (fun C S L => t_X7_linesOn_e C  h_x1 S L hyp)
set_option maxHeartbeats 4000000 in
set_option maxRecDepth 100000 in
theorem t_X6_linesThere_e {p : Program} {l : Launch} {e : Env} {s : State} {mi : MethodId} {args : Array Value} {below : List Frame} {meth : Method} {c : Code} {D : va_G} {cy : Nat → ClassId} {B sz : Nat} {sh : jm_S} {res : Int} {N : Nat} {m0 : jm_M} (C : jCx p s mi args meth c cX6_linesThere 1 RX6 (some .int) D cy) {a0 : Nat} {H : Heap} {locs : List Loc} {ls : Array Slot} (S : jHs D cy B sz sh (jA B sz) s.heap H locs m0) (L : jL ls [some (jR B a0)]) (hyp : f_X6_linesThere N sh a0 m0 = some res) : W p l e (jrm 2 0 0) s mi args below meth c H locs 0 0 (MQ below (jQc D cy B sz sh m0 (some (jI res)) (jIn res)) args s 0 0 (jA B sz)) (F0 mi 0 ls []) := by
  unfold f_X6_linesThere at hyp
  refine jr_aload_n (pc := 0) C L dX6_linesThere_0 rfl rfl ?_
  obtain ⟨v1, hv1, hyp⟩ := jbind hyp
  refine jr_getR (pc := 1) C S lf_X6_15 rfl hv1 dX6_linesThere_1 ?_
  refine jr_aload_n (pc := 4) C L dX6_linesThere_4 rfl rfl ?_
  obtain ⟨v2, hv2, hyp⟩ := jbind hyp
  have iv2 := jrf_in S hv2
  refine jr_getI (pc := 5) C S lf_X6_42 rfl hv2 dX6_linesThere_5 ?_
  obtain ⟨u3, hu3, hyp⟩ := jbind hyp
  obtain ⟨q4, hq4, hyp⟩ := jbind hyp
  refine jr_callV_I (pc := 8) C S L (As := [jI v2]) (rest := []) (c_X7_linesOn (m0 := m0) iv2 hq4) mv_X7_linesOn ml_X6_65 rfl (jck_spec hu3) (by decide) rfl rfl rfl (Nat.le_of_ble_eq_true rfl) ⟨Nat.le_refl 0, Nat.le_refl 0⟩ dX6_linesThere_8 (fun p5 H locs S => ?_)
  cases hyp
  exact jr_iret C S p5 dX6_linesThere_11
theorem c_X6_linesThere {l : Launch} {D : va_G} {cy : Nat → ClassId} {B sz : Nat} {sh : jm_S} {res : Int} {N : Nat} {m0 : jm_M} {a0 : Nat} (hyp : f_X6_linesThere N sh a0 m0 = some res) : jCt l D cy B sz sh 2 yX6_linesThere cX6_linesThere 1 (some .int) [jR B a0] m0 (some (jI res)) m0 (jIn res) :=
  jc_of (by decide) (fun v h => by rw [List.mem_singleton.mp h]; first | rfl | exact jR_cat _ _) (Nat.le_of_ble_eq_true rfl) (fun C S L => t_X6_linesThere_e C   S L hyp)
set_option maxHeartbeats 4000000 in
set_option maxRecDepth 100000 in
theorem t_X8_betweenAt_b23 {p : Program} {l : Launch} {e : Env} {s : State} {mi : MethodId} {args : Array Value} {below : List Frame} {meth : Method} {c : Code} {D : va_G} {cy : Nat → ClassId} {B sz : Nat} {sh : jm_S} {res : Nat} {m0 : jm_M} (C : jCx p s mi args meth c cX8_betweenAt 3 RX8 (some (.object "LongestRuns$Reached")) D cy) {a0 : Nat} {r0 : Nat} {H : Heap} {locs : List Loc} {ls : Array Slot} (S : jHs D cy B sz sh (jA B sz) s.heap H locs m0) (L : jL ls [some (jR B a0), none, none]) (hyp : f_X8_betweenAt_b23 sh a0 r0 m0 = some res) : W p l e (jrm 0 0 0) s mi args below meth c H locs 0 0 (MQ below (jQc D cy B sz sh m0 (some (jR B res)) True) args s 0 0 (jA B sz)) (F0 mi 23 ls [jR B r0]) := by
  unfold f_X8_betweenAt_b23 at hyp
  refine jr_astore_n (pc := 23) C L dX8_betweenAt_23 rfl (Nat.le_of_ble_eq_true rfl) (fun ls L => ?_)
  have L : jL ls [some (jR B a0), none, some (jR B r0)] := L
  refine jr_aload_n (pc := 24) C L dX8_betweenAt_24 rfl rfl ?_
  refine jr_ifnonnull (pc := 25) C (tgt := 35) dX8_betweenAt_25 (by decide) (fun c1 => ?_) (fun c1 => ?_)
  · have hyp := (if_pos c1).symm.trans hyp
    refine jr_aload_n (pc := 28) C L dX8_betweenAt_28 rfl rfl ?_
    obtain ⟨v2, hv2, hyp⟩ := jbind hyp
    refine jr_getR (pc := 29) C S lf_X8_18 rfl hv2 dX8_betweenAt_29 ?_
    refine jr_goto (pc := 32) C (tgt := 36) dX8_betweenAt_32 (by decide) ?_
    cases hyp
    exact jr_aret C (by first | exact Or.inl ⟨_, rfl⟩ | exact Or.inr ⟨_, rfl⟩) S trivial dX8_betweenAt_36
  · have hyp := (if_neg c1).symm.trans hyp
    refine jr_aload_n (pc := 35) C L dX8_betweenAt_35 rfl rfl ?_
    cases hyp
    exact jr_aret C (by first | exact Or.inl ⟨_, rfl⟩ | exact Or.inr ⟨_, rfl⟩) S trivial dX8_betweenAt_36
set_option maxHeartbeats 4000000 in
set_option maxRecDepth 100000 in
theorem t_X8_betweenAt_b22 {p : Program} {l : Launch} {e : Env} {s : State} {mi : MethodId} {args : Array Value} {below : List Frame} {meth : Method} {c : Code} {D : va_G} {cy : Nat → ClassId} {B sz : Nat} {sh : jm_S} {res : Nat} {m0 : jm_M} (C : jCx p s mi args meth c cX8_betweenAt 3 RX8 (some (.object "LongestRuns$Reached")) D cy) {a0 : Nat} {H : Heap} {locs : List Loc} {ls : Array Slot} (S : jHs D cy B sz sh (jA B sz) s.heap H locs m0) (L : jL ls [some (jR B a0), none, none]) (hyp : f_X8_betweenAt_b22 sh a0 m0 = some res) : W p l e (jrm 0 0 0) s mi args below meth c H locs 0 0 (MQ below (jQc D cy B sz sh m0 (some (jR B res)) True) args s 0 0 (jA B sz)) (F0 mi 22 ls []) := by
  unfold f_X8_betweenAt_b22 at hyp
  refine jr_null (pc := 22) (B := B) C dX8_betweenAt_22 ?_
  exact t_X8_betweenAt_b23 C    S (L.sub (jsub_s (jsub_n (jsub_n jsub_0)))) hyp
set_option maxHeartbeats 4000000 in
set_option maxRecDepth 100000 in
theorem t_X8_betweenAt_e {p : Program} {l : Launch} {e : Env} {s : State} {mi : MethodId} {args : Array Value} {below : List Frame} {meth : Method} {c : Code} {D : va_G} {cy : Nat → ClassId} {B sz : Nat} {sh : jm_S} {res : Nat} {m0 : jm_M} (C : jCx p s mi args meth c cX8_betweenAt 3 RX8 (some (.object "LongestRuns$Reached")) D cy) {a0 : Nat} {x1 : Int} (h_x1 : jIn x1) {H : Heap} {locs : List Loc} {ls : Array Slot} (S : jHs D cy B sz sh (jA B sz) s.heap H locs m0) (L : jL ls [some (jR B a0), some (jI x1), none]) (hyp : f_X8_betweenAt sh a0 x1 m0 = some res) : W p l e (jrm 0 0 0) s mi args below meth c H locs 0 0 (MQ below (jQc D cy B sz sh m0 (some (jR B res)) True) args s 0 0 (jA B sz)) (F0 mi 0 ls []) := by
  unfold f_X8_betweenAt at hyp
  refine jr_iload_n (pc := 0) C L dX8_betweenAt_0 rfl rfl ?_
  refine jr_if_lt (pc := 1) C h_x1 (tgt := 22) dX8_betweenAt_1 (by decide) (fun c3 => ?_) (fun c3 => ?_)
  · have hyp := (if_pos c3).symm.trans hyp
    exact t_X8_betweenAt_b22 C    S (L.sub (jsub_s (jsub_n (jsub_n jsub_0)))) hyp
  · have hyp := (if_neg c3).symm.trans hyp
    refine jr_iload_n (pc := 4) C L dX8_betweenAt_4 rfl rfl ?_
    refine jr_aload_n (pc := 5) C L dX8_betweenAt_5 rfl rfl ?_
    obtain ⟨v4, hv4, hyp⟩ := jbind hyp
    refine jr_getR (pc := 6) C S lf_X8_21 rfl hv4 dX8_betweenAt_6 ?_
    obtain ⟨v5, hv5, hyp⟩ := jbind hyp
    refine jr_alen (pc := 9) C S hv5 dX8_betweenAt_9 ?_
    refine jr_icmp_ge (pc := 10) C h_x1 (jlen_in hv5) (tgt := 22) dX8_betweenAt_10 (by decide) (fun c6 => ?_) (fun c6 => ?_)
    · have hyp := (if_pos c6).symm.trans hyp
      refine jr_aload_n (pc := 13) C L dX8_betweenAt_13 rfl rfl ?_
      obtain ⟨v7, hv7, hyp⟩ := jbind hyp
      refine jr_getR (pc := 14) C S lf_X8_21 rfl hv7 dX8_betweenAt_14 ?_
      refine jr_iload_n (pc := 17) C L dX8_betweenAt_17 rfl rfl ?_
      obtain ⟨v8, hv8, hyp⟩ := jbind hyp
      refine jr_aal (pc := 18) C S (by decide) h_x1 hv8 dX8_betweenAt_18 ?_
      refine jr_goto (pc := 19) C (tgt := 23) dX8_betweenAt_19 (by decide) ?_
      exact t_X8_betweenAt_b23 C    S (L.sub (jsub_s (jsub_n (jsub_n jsub_0)))) hyp
    · have hyp := (if_neg c6).symm.trans hyp
      exact t_X8_betweenAt_b22 C    S (L.sub (jsub_s (jsub_n (jsub_n jsub_0)))) hyp
theorem c_X8_betweenAt {l : Launch} {D : va_G} {cy : Nat → ClassId} {B sz : Nat} {sh : jm_S} {res : Nat} {m0 : jm_M} {a0 : Nat} {x1 : Int} (h_x1 : jIn x1) (hyp : f_X8_betweenAt sh a0 x1 m0 = some res) : jCt l D cy B sz sh 0 yX8_betweenAt cX8_betweenAt 3 (some (.object "LongestRuns$Reached")) [jR B a0, jI x1] m0 (some (jR B res)) m0 True :=
  jc_of (by decide) (fun v h => by simp only [List.mem_cons, List.not_mem_nil, or_false] at h; rcases h with rfl | rfl <;> first | rfl | exact jR_cat _ _) (Nat.le_of_ble_eq_true rfl) (fun C S L => t_X8_betweenAt_e C  h_x1 S L hyp)
set_option maxHeartbeats 4000000 in
set_option maxRecDepth 100000 in
theorem t_X8_repeat_b30 {p : Program} {l : Launch} {e : Env} {s : State} {mi : MethodId} {args : Array Value} {below : List Frame} {meth : Method} {c : Code} {D : va_G} {cy : Nat → ClassId} {B sz : Nat} {sh : jm_S} {res : jm_M} {N : Nat} {rec : Nat → Int → Int → Nat → Nat → jm_M → Option jm_M} {kr : Nat} {k30 : Nat → Int → Int → Nat → Nat → Int → Int → jm_M → Option jm_M} (C : jCx p s mi args meth c cX8_repeat 8 RX8 none D cy) (hkr : 3 ≤ kr) (hrec : ∀ (a0 : Nat) (x1 : Int) (x2 : Int) (a3 : Nat) (a4 : Nat), jIn x1 → jIn x2 → ∀ (m : jm_M) (res : jm_M), rec a0 x1 x2 a3 a4 m = some res → jCt l D cy B sz sh kr yX8_flow cX8_flow 8 none [jR B a0, jI x1, jI x2, jR B a3, jR B a4] m none res True) (K30 : ∀ (a0 : Nat) (x1 : Int) (x2 : Int) (a4 : Nat) (a5 : Nat) (x6 : Int) (x7 : Int) , jIn x1 → jIn x2 → jIn x6 → jIn x7 → ∀ (m : jm_M) (H : Heap) (locs : List Loc) (ls : Array Slot), jHs D cy B sz sh (jA B sz) s.heap H locs m → jL ls [some (jR B a0), some (jI x1), some (jI x2), none, some (jR B a4), some (jR B a5), some (jI x6), some (jI x7)] → k30 a0 x1 x2 a4 a5 x6 x7 m = some res → W p l e (jrm (kr + 1) 0 0) s mi args below meth c H locs 0 0 (MQ below (jQc D cy B sz sh res none True) args s 0 0 (jA B sz)) (F0 mi 30 ls [])) {a0 : Nat} {x1 : Int} (h_x1 : jIn x1) {x2 : Int} (h_x2 : jIn x2) {a4 : Nat} {a5 : Nat} {x6 : Int} (h_x6 : jIn x6) {x7 : Int} (h_x7 : jIn x7) {m : jm_M} {H : Heap} {locs : List Loc} {ls : Array Slot} (S : jHs D cy B sz sh (jA B sz) s.heap H locs m) (L : jL ls [some (jR B a0), some (jI x1), some (jI x2), none, some (jR B a4), some (jR B a5), some (jI x6), some (jI x7)]) (hyp : f_X8_repeat_b30 N sh rec k30 a0 x1 x2 a4 a5 x6 x7 m = some res) : W p l e (jrm (kr + 1) 0 0) s mi args below meth c H locs 0 0 (MQ below (jQc D cy B sz sh res none True) args s 0 0 (jA B sz)) (F0 mi 30 ls []) := by
  unfold f_X8_repeat_b30 at hyp
  refine jr_iload (pc := 30) C L dX8_repeat_30 rfl ?_
  refine jr_iload (pc := 32) C L dX8_repeat_32 rfl ?_
  refine jr_icmp_ge (pc := 34) C h_x7 h_x6 (tgt := 73) dX8_repeat_34 (by decide) (fun c1 => ?_) (fun c1 => ?_)
  · have hyp := (if_pos c1).symm.trans hyp
    refine jr_aload_n (pc := 37) C L dX8_repeat_37 rfl rfl ?_
    refine jr_aload_n (pc := 38) C L dX8_repeat_38 rfl rfl ?_
    obtain ⟨v2, hv2, hyp⟩ := jbind hyp
    refine jr_getR (pc := 39) C S lf_X8_39 rfl hv2 dX8_repeat_39 ?_
    refine jr_iload_n (pc := 42) C L dX8_repeat_42 rfl rfl ?_
    obtain ⟨u3, hu3, hyp⟩ := jbind hyp
    obtain ⟨q4, hq4, hyp⟩ := jbind hyp
    refine jr_callV_I (pc := 43) C S L (As := [jI x1]) (rest := [jR B a0]) (c_X10_firstPart (m0 := m) h_x1 hq4) mv_X10_firstPart ml_X8_116 rfl (jck_spec hu3) (by omega) rfl rfl rfl (by simp [jR_cat, jI_cat]) ⟨Nat.le_refl 0, Nat.le_refl 0⟩ dX8_repeat_43 (fun p5 H locs S => ?_)
    refine jr_iload_n (pc := 46) C L dX8_repeat_46 rfl rfl ?_
    refine jr_iconst (pc := 47) C dX8_repeat_47 ?_
    refine jr_iadd (pc := 48) C dX8_repeat_48 ?_
    refine jr_aload (pc := 49) C L dX8_repeat_49 rfl ?_
    refine jr_aload (pc := 51) C L dX8_repeat_51 rfl ?_
    obtain ⟨u6, hu6, hyp⟩ := jbind hyp
    obtain ⟨q7, hq7, hyp⟩ := jbind hyp
    refine jr_callV_N (pc := 53) C S L (As := [jI q4, jI (jw (x2 + 1)), jR B a4, jR B a5]) (rest := []) (hrec a0 q4 (jw (x2 + 1)) a4 a5 p5 (jIn_w _) m q7 hq7) mv_X8_flow ml_X8_70 rfl (jck_spec hu6) (by omega) rfl rfl rfl (Nat.le_of_ble_eq_true rfl) ⟨Nat.le_refl 0, Nat.le_refl 0⟩ dX8_repeat_53 (fun p8 H locs S => ?_)
    refine jr_aload (pc := 56) C L dX8_repeat_56 rfl ?_
    refine jr_aload (pc := 58) C L dX8_repeat_58 rfl ?_
    refine jr_aload_n (pc := 60) C L dX8_repeat_60 rfl rfl ?_
    obtain ⟨v9, hv9, hyp⟩ := jbind hyp
    have iv9 := jrf_in S hv9
    refine jr_getI (pc := 61) C S lf_X8_47 rfl hv9 dX8_repeat_61 ?_
    obtain ⟨u10, hu10, hyp⟩ := jbind hyp
    obtain ⟨q11, hq11, hyp⟩ := jbind hyp
    refine jr_callV_N (pc := 64) C S L (As := [jR B a5, jI v9]) (rest := []) (c_X4_addAll iv9 hq11) mv_X4_addAll ml_X8_129 rfl (jck_spec hu10) (by omega) rfl rfl rfl (Nat.le_of_ble_eq_true rfl) ⟨Nat.le_refl 0, Nat.le_refl 0⟩ dX8_repeat_64 (fun p12 H locs S => ?_)
    refine jr_iinc (pc := 67) C L dX8_repeat_67 rfl (Nat.le_of_ble_eq_true rfl) (fun ls L => ?_)
    have L : jL ls [some (jR B a0), some (jI x1), some (jI x2), none, some (jR B a4), some (jR B a5), some (jI x6), some (jI (jw (x7 + 1)))] := L
    refine jr_goto (pc := 70) C (tgt := 30) dX8_repeat_70 (by decide) ?_
    exact K30 a0 x1 x2 a4 a5 x6 (jw (x7 + 1)) h_x1 h_x2 h_x6 (jIn_w _) q11 _ _ _ S (L.sub (jsub_s (jsub_s (jsub_s (jsub_n (jsub_s (jsub_s (jsub_s (jsub_s jsub_0))))))))) hyp
  · have hyp := (if_neg c1).symm.trans hyp
    cases hyp
    exact jr_vret C S trivial dX8_repeat_73
theorem t_X8_repeat_l30 {p : Program} {l : Launch} {e : Env} {s : State} {mi : MethodId} {args : Array Value} {below : List Frame} {meth : Method} {c : Code} {D : va_G} {cy : Nat → ClassId} {B sz : Nat} {sh : jm_S} {res : jm_M} {N : Nat} {rec : Nat → Int → Int → Nat → Nat → jm_M → Option jm_M} {kr : Nat} (C : jCx p s mi args meth c cX8_repeat 8 RX8 none D cy) (hkr : 3 ≤ kr) (hrec : ∀ (a0 : Nat) (x1 : Int) (x2 : Int) (a3 : Nat) (a4 : Nat), jIn x1 → jIn x2 → ∀ (m : jm_M) (res : jm_M), rec a0 x1 x2 a3 a4 m = some res → jCt l D cy B sz sh kr yX8_flow cX8_flow 8 none [jR B a0, jI x1, jI x2, jR B a3, jR B a4] m none res True) : ∀ (n : Nat) (a0 : Nat) (x1 : Int) (x2 : Int) (a4 : Nat) (a5 : Nat) (x6 : Int) (x7 : Int), jIn x1 → jIn x2 → jIn x6 → jIn x7 → ∀ (m : jm_M) (H : Heap) (locs : List Loc) (ls : Array Slot), jHs D cy B sz sh (jA B sz) s.heap H locs m → jL ls [some (jR B a0), some (jI x1), some (jI x2), none, some (jR B a4), some (jR B a5), some (jI x6), some (jI x7)] → f_X8_repeat_l30 N sh rec n a0 x1 x2 a4 a5 x6 x7 m = some res → W p l e (jrm (kr + 1) 0 0) s mi args below meth c H locs 0 0 (MQ below (jQc D cy B sz sh res none True) args s 0 0 (jA B sz)) (F0 mi 30 ls []) := by
  intro n
  induction n with
  | zero => intro a0 x1 x2 a4 a5 x6 x7 h_x1 h_x2 h_x6 h_x7 m H locs ls S L hyp; cases hyp
  | succ n ih => intro a0 x1 x2 a4 a5 x6 x7 h_x1 h_x2 h_x6 h_x7 m H locs ls S L hyp; exact t_X8_repeat_b30 (N := N) C hkr hrec ih h_x1 h_x2 h_x6 h_x7 S L hyp
set_option maxHeartbeats 4000000 in
set_option maxRecDepth 100000 in
theorem t_X8_repeat_e {p : Program} {l : Launch} {e : Env} {s : State} {mi : MethodId} {args : Array Value} {below : List Frame} {meth : Method} {c : Code} {D : va_G} {cy : Nat → ClassId} {B sz : Nat} {sh : jm_S} {res : jm_M} {N : Nat} {rec : Nat → Int → Int → Nat → Nat → jm_M → Option jm_M} {kr : Nat} (C : jCx p s mi args meth c cX8_repeat 8 RX8 none D cy) (hkr : 3 ≤ kr) (hrec : ∀ (a0 : Nat) (x1 : Int) (x2 : Int) (a3 : Nat) (a4 : Nat), jIn x1 → jIn x2 → ∀ (m : jm_M) (res : jm_M), rec a0 x1 x2 a3 a4 m = some res → jCt l D cy B sz sh kr yX8_flow cX8_flow 8 none [jR B a0, jI x1, jI x2, jR B a3, jR B a4] m none res True) {a0 : Nat} {x1 : Int} (h_x1 : jIn x1) {x2 : Int} (h_x2 : jIn x2) {a3 : Nat} {a4 : Nat} {m : jm_M} {H : Heap} {locs : List Loc} {ls : Array Slot} (S : jHs D cy B sz sh (jA B sz) s.heap H locs m) (L : jL ls [some (jR B a0), some (jI x1), some (jI x2), some (jR B a3), some (jR B a4), none, none, none]) (hyp : f_X8_repeat N sh rec a0 x1 x2 a3 a4 m = some res) : W p l e (jrm (kr + 1) 0 0) s mi args below meth c H locs 0 0 (MQ below (jQc D cy B sz sh res none True) args s 0 0 (jA B sz)) (F0 mi 0 ls []) := by
  unfold f_X8_repeat at hyp
  refine jr_aload_n (pc := 0) C L dX8_repeat_0 rfl rfl ?_
  refine jr_iload_n (pc := 1) C L dX8_repeat_1 rfl rfl ?_
  obtain ⟨u13, hu13, hyp⟩ := jbind hyp
  obtain ⟨q14, hq14, hyp⟩ := jbind hyp
  refine jr_callV_R (pc := 2) C S L (As := [jI x2]) (rest := []) (c_X8_betweenAt (m0 := m) h_x2 hq14) mv_X8_betweenAt ml_X8_122 rfl (jck_spec hu13) (by omega) rfl rfl rfl (Nat.le_of_ble_eq_true rfl) ⟨Nat.le_refl 0, Nat.le_refl 0⟩ dX8_repeat_2 (fun p15 H locs S => ?_)
  refine jr_astore (pc := 5) C L dX8_repeat_5 (Nat.le_of_ble_eq_true rfl) (fun ls L => ?_)
  have L : jL ls [some (jR B a0), some (jI x1), some (jI x2), some (jR B a3), some (jR B a4), some (jR B q14), none, none] := L
  refine jr_aload_n (pc := 7) C L dX8_repeat_7 rfl rfl ?_
  obtain ⟨v16, hv16, hyp⟩ := jbind hyp
  refine jr_getR (pc := 8) C S lf_X8_39 rfl hv16 dX8_repeat_8 ?_
  refine jr_iload_n (pc := 11) C L dX8_repeat_11 rfl rfl ?_
  obtain ⟨u17, hu17, hyp⟩ := jbind hyp
  obtain ⟨q18, hq18, hyp⟩ := jbind hyp
  refine jr_callV_I (pc := 12) C S L (As := [jI x1]) (rest := []) (c_X10_timesAt (m0 := m) h_x1 hq18) mv_X10_timesAt ml_X8_143 rfl (jck_spec hu17) (by omega) rfl rfl rfl (Nat.le_of_ble_eq_true rfl) ⟨Nat.le_refl 0, Nat.le_refl 0⟩ dX8_repeat_12 (fun p19 H locs S => ?_)
  refine jr_istore (pc := 15) C L dX8_repeat_15 (Nat.le_of_ble_eq_true rfl) (fun ls L => ?_)
  have L : jL ls [some (jR B a0), some (jI x1), some (jI x2), some (jR B a3), some (jR B a4), some (jR B q14), some (jI q18), none] := L
  refine jr_aload (pc := 17) C L dX8_repeat_17 rfl ?_
  refine jr_aload_n (pc := 19) C L dX8_repeat_19 rfl rfl ?_
  refine jr_aload_n (pc := 20) C L dX8_repeat_20 rfl rfl ?_
  obtain ⟨v20, hv20, hyp⟩ := jbind hyp
  have iv20 := jrf_in S hv20
  refine jr_getI (pc := 21) C S lf_X8_47 rfl hv20 dX8_repeat_21 ?_
  obtain ⟨u21, hu21, hyp⟩ := jbind hyp
  obtain ⟨q22, hq22, hyp⟩ := jbind hyp
  refine jr_callV_N (pc := 24) C S L (As := [jR B a3, jI v20]) (rest := []) (c_X4_addAll iv20 hq22) mv_X4_addAll ml_X8_129 rfl (jck_spec hu21) (by omega) rfl rfl rfl (Nat.le_of_ble_eq_true rfl) ⟨Nat.le_refl 0, Nat.le_refl 0⟩ dX8_repeat_24 (fun p23 H locs S => ?_)
  refine jr_iconst (pc := 27) C dX8_repeat_27 ?_
  refine jr_istore (pc := 28) C L dX8_repeat_28 (Nat.le_of_ble_eq_true rfl) (fun ls L => ?_)
  have L : jL ls [some (jR B a0), some (jI x1), some (jI x2), some (jR B a3), some (jR B a4), some (jR B q14), some (jI q18), some (jI 0)] := L
  exact t_X8_repeat_l30 C hkr hrec  N a0 x1 x2 a4 q14 q18 0 h_x1 h_x2 p19 (show jIn 0 from ⟨by decide, by decide⟩) q22 _ _ _ S (L.sub (jsub_s (jsub_s (jsub_s (jsub_n (jsub_s (jsub_s (jsub_s (jsub_s jsub_0))))))))) hyp
theorem c_X8_repeat {l : Launch} {D : va_G} {cy : Nat → ClassId} {B sz : Nat} {sh : jm_S} {res : jm_M} {N : Nat} {rec : Nat → Int → Int → Nat → Nat → jm_M → Option jm_M} {kr : Nat} {m : jm_M} (hkr : 3 ≤ kr) (hrec : ∀ (a0 : Nat) (x1 : Int) (x2 : Int) (a3 : Nat) (a4 : Nat), jIn x1 → jIn x2 → ∀ (m : jm_M) (res : jm_M), rec a0 x1 x2 a3 a4 m = some res → jCt l D cy B sz sh kr yX8_flow cX8_flow 8 none [jR B a0, jI x1, jI x2, jR B a3, jR B a4] m none res True) {a0 : Nat} {x1 : Int} (h_x1 : jIn x1) {x2 : Int} (h_x2 : jIn x2) {a3 : Nat} {a4 : Nat} (hyp : f_X8_repeat N sh rec a0 x1 x2 a3 a4 m = some res) : jCt l D cy B sz sh (kr + 1) yX8_repeat cX8_repeat 8 none [jR B a0, jI x1, jI x2, jR B a3, jR B a4] m none res True :=
  jc_of (by decide) (fun v h => by simp only [List.mem_cons, List.not_mem_nil, or_false] at h; rcases h with rfl | rfl | rfl | rfl | rfl <;> first | rfl | exact jR_cat _ _) (Nat.le_of_ble_eq_true rfl) (fun C S L => t_X8_repeat_e C hkr hrec h_x1 h_x2 S L hyp)
set_option maxHeartbeats 4000000 in
set_option maxRecDepth 100000 in
theorem t_X8_fetch_b44 {p : Program} {l : Launch} {e : Env} {s : State} {mi : MethodId} {args : Array Value} {below : List Frame} {meth : Method} {c : Code} {D : va_G} {cy : Nat → ClassId} {B sz : Nat} {sh : jm_S} {res : jm_M} {N : Nat} {k3 : Nat → Int → Nat → Nat → Int → jm_M → Option jm_M} (C : jCx p s mi args meth c cX8_fetch 7 RX8 none D cy) (K3 : ∀ (a0 : Nat) (x1 : Int) (a2 : Nat) (a3 : Nat) (x4 : Int) , jIn x1 → jIn x4 → ∀ (m : jm_M) (H : Heap) (locs : List Loc) (ls : Array Slot), jHs D cy B sz sh (jA B sz) s.heap H locs m → jL ls [some (jR B a0), some (jI x1), some (jR B a2), some (jR B a3), some (jI x4), none, none] → k3 a0 x1 a2 a3 x4 m = some res → W p l e (jrm 2 0 0) s mi args below meth c H locs 0 0 (MQ below (jQc D cy B sz sh res none True) args s 0 0 (jA B sz)) (F0 mi 3 ls [])) {a0 : Nat} {x1 : Int} (h_x1 : jIn x1) {a2 : Nat} {a3 : Nat} {x4 : Int} (h_x4 : jIn x4) {x5 : Int} (h_x5 : jIn x5) {s0 : Int} (h_s0 : jIn s0) {m : jm_M} {H : Heap} {locs : List Loc} {ls : Array Slot} (S : jHs D cy B sz sh (jA B sz) s.heap H locs m) (L : jL ls [some (jR B a0), some (jI x1), some (jR B a2), some (jR B a3), some (jI x4), some (jI x5), none]) (hyp : f_X8_fetch_b44 N sh k3 a0 x1 a2 a3 x4 x5 s0 m = some res) : W p l e (jrm 2 0 0) s mi args below meth c H locs 0 0 (MQ below (jQc D cy B sz sh res none True) args s 0 0 (jA B sz)) (F0 mi 44 ls [jI s0]) := by
  unfold f_X8_fetch_b44 at hyp
  refine jr_istore (pc := 44) C L dX8_fetch_44 (Nat.le_of_ble_eq_true rfl) (fun ls L => ?_)
  have L : jL ls [some (jR B a0), some (jI x1), some (jR B a2), some (jR B a3), some (jI x4), some (jI x5), some (jI s0)] := L
  refine jr_aload_n (pc := 46) C L dX8_fetch_46 rfl rfl ?_
  refine jr_iload (pc := 47) C L dX8_fetch_47 rfl ?_
  refine jr_iconst (pc := 49) C dX8_fetch_49 ?_
  refine jr_ishr (pc := 50) C dX8_fetch_50 ?_
  refine jr_aload_n (pc := 51) C L dX8_fetch_51 rfl rfl ?_
  refine jr_iload (pc := 52) C L dX8_fetch_52 rfl ?_
  obtain ⟨u1, hu1, hyp⟩ := jbind hyp
  obtain ⟨q2, hq2, hyp⟩ := jbind hyp
  refine jr_callV_I (pc := 54) C S L (As := [jI x4]) (rest := [jI (jshr x5 1), jR B a3]) (c_X4_costAt (m0 := m) h_x4 hq2) mv_X4_costAt ml_X8_74 rfl (jck_spec hu1) (by decide) rfl rfl rfl (by simp [jR_cat, jI_cat]) ⟨Nat.le_refl 0, Nat.le_refl 0⟩ dX8_fetch_54 (fun p3 H locs S => ?_)
  refine jr_iload (pc := 57) C L dX8_fetch_57 rfl ?_
  refine jr_iadd (pc := 59) C dX8_fetch_59 ?_
  refine jr_aload_n (pc := 60) C L dX8_fetch_60 rfl rfl ?_
  obtain ⟨v4, hv4, hyp⟩ := jbind hyp
  have iv4 := jrf_in S hv4
  refine jr_getI (pc := 61) C S lf_X8_47 rfl hv4 dX8_fetch_61 ?_
  obtain ⟨u5, hu5, hyp⟩ := jbind hyp
  obtain ⟨q6, hq6, hyp⟩ := jbind hyp
  refine jr_callV_N (pc := 64) C S L (As := [jI (jshr x5 1), jI (jw (q2 + s0)), jI v4]) (rest := []) (c_X4_add (jIn_shr _ _) (jIn_w _) iv4 hq6) mv_X4_add ml_X8_66 rfl (jck_spec hu5) (by decide) rfl rfl rfl (Nat.le_of_ble_eq_true rfl) ⟨Nat.le_refl 0, Nat.le_refl 0⟩ dX8_fetch_64 (fun p7 H locs S => ?_)
  refine jr_iinc (pc := 67) C L dX8_fetch_67 rfl (Nat.le_of_ble_eq_true rfl) (fun ls L => ?_)
  have L : jL ls [some (jR B a0), some (jI x1), some (jR B a2), some (jR B a3), some (jI (jw (x4 + 1))), some (jI x5), some (jI s0)] := L
  refine jr_goto (pc := 70) C (tgt := 3) dX8_fetch_70 (by decide) ?_
  exact K3 a0 x1 a2 a3 (jw (x4 + 1)) h_x1 (jIn_w _) q6 _ _ _ S (L.sub (jsub_s (jsub_s (jsub_s (jsub_s (jsub_s (jsub_n (jsub_n jsub_0)))))))) hyp
set_option maxHeartbeats 4000000 in
set_option maxRecDepth 100000 in
theorem t_X8_fetch_b3 {p : Program} {l : Launch} {e : Env} {s : State} {mi : MethodId} {args : Array Value} {below : List Frame} {meth : Method} {c : Code} {D : va_G} {cy : Nat → ClassId} {B sz : Nat} {sh : jm_S} {res : jm_M} {N : Nat} {k3 : Nat → Int → Nat → Nat → Int → jm_M → Option jm_M} (C : jCx p s mi args meth c cX8_fetch 7 RX8 none D cy) (K3 : ∀ (a0 : Nat) (x1 : Int) (a2 : Nat) (a3 : Nat) (x4 : Int) , jIn x1 → jIn x4 → ∀ (m : jm_M) (H : Heap) (locs : List Loc) (ls : Array Slot), jHs D cy B sz sh (jA B sz) s.heap H locs m → jL ls [some (jR B a0), some (jI x1), some (jR B a2), some (jR B a3), some (jI x4), none, none] → k3 a0 x1 a2 a3 x4 m = some res → W p l e (jrm 2 0 0) s mi args below meth c H locs 0 0 (MQ below (jQc D cy B sz sh res none True) args s 0 0 (jA B sz)) (F0 mi 3 ls [])) {a0 : Nat} {x1 : Int} (h_x1 : jIn x1) {a2 : Nat} {a3 : Nat} {x4 : Int} (h_x4 : jIn x4) {m : jm_M} {H : Heap} {locs : List Loc} {ls : Array Slot} (S : jHs D cy B sz sh (jA B sz) s.heap H locs m) (L : jL ls [some (jR B a0), some (jI x1), some (jR B a2), some (jR B a3), some (jI x4), none, none]) (hyp : f_X8_fetch_b3 N sh k3 a0 x1 a2 a3 x4 m = some res) : W p l e (jrm 2 0 0) s mi args below meth c H locs 0 0 (MQ below (jQc D cy B sz sh res none True) args s 0 0 (jA B sz)) (F0 mi 3 ls []) := by
  unfold f_X8_fetch_b3 at hyp
  refine jr_iload (pc := 3) C L dX8_fetch_3 rfl ?_
  refine jr_aload_n (pc := 5) C L dX8_fetch_5 rfl rfl ?_
  obtain ⟨v8, hv8, hyp⟩ := jbind hyp
  have iv8 := jrf_in S hv8
  refine jr_getI (pc := 6) C S lf_X8_78 rfl hv8 dX8_fetch_6 ?_
  refine jr_icmp_ge (pc := 9) C h_x4 iv8 (tgt := 73) dX8_fetch_9 (by decide) (fun c9 => ?_) (fun c9 => ?_)
  · have hyp := (if_pos c9).symm.trans hyp
    refine jr_aload_n (pc := 12) C L dX8_fetch_12 rfl rfl ?_
    obtain ⟨v10, hv10, hyp⟩ := jbind hyp
    refine jr_getR (pc := 13) C S lf_X8_29 rfl hv10 dX8_fetch_13 ?_
    refine jr_iload_n (pc := 16) C L dX8_fetch_16 rfl rfl ?_
    refine jr_aload_n (pc := 17) C L dX8_fetch_17 rfl rfl ?_
    refine jr_iload (pc := 18) C L dX8_fetch_18 rfl ?_
    obtain ⟨u11, hu11, hyp⟩ := jbind hyp
    obtain ⟨q12, hq12, hyp⟩ := jbind hyp
    refine jr_callV_I (pc := 20) C S L (As := [jI x4]) (rest := [jI x1, jR B v10.toNat]) (c_X4_shelfAt (m0 := m) h_x4 hq12) mv_X4_shelfAt ml_X8_146 rfl (jck_spec hu11) (by decide) rfl rfl rfl (by simp [jR_cat, jI_cat]) ⟨Nat.le_refl 0, Nat.le_refl 0⟩ dX8_fetch_20 (fun p13 H locs S => ?_)
    obtain ⟨u14, hu14, hyp⟩ := jbind hyp
    obtain ⟨q15, hq15, hyp⟩ := jbind hyp
    refine jr_callV_I (pc := 23) C S L (As := [jI x1, jI q12]) (rest := []) (c_X7_stepOf (m0 := m) h_x1 p13 hq15) mv_X7_stepOf ml_X8_149 rfl (jck_spec hu14) (by decide) rfl rfl rfl (Nat.le_of_ble_eq_true rfl) ⟨Nat.le_refl 0, Nat.le_refl 0⟩ dX8_fetch_23 (fun p16 H locs S => ?_)
    refine jr_istore (pc := 26) C L dX8_fetch_26 (Nat.le_of_ble_eq_true rfl) (fun ls L => ?_)
    have L : jL ls [some (jR B a0), some (jI x1), some (jR B a2), some (jR B a3), some (jI x4), some (jI q15), none] := L
    refine jr_iload (pc := 28) C L dX8_fetch_28 rfl ?_
    refine jr_iconst (pc := 30) C dX8_fetch_30 ?_
    refine jr_iand (pc := 31) C dX8_fetch_31 ?_
    refine jr_iconst (pc := 32) C dX8_fetch_32 ?_
    refine jr_icmp_ne (pc := 33) C (jIn_and _ _) (show jIn 1 from ⟨by decide, by decide⟩) (tgt := 40) dX8_fetch_33 (by decide) (fun c17 => ?_) (fun c17 => ?_)
    · have hyp := (if_pos c17).symm.trans hyp
      refine jr_iconst (pc := 36) C dX8_fetch_36 ?_
      refine jr_goto (pc := 37) C (tgt := 44) dX8_fetch_37 (by decide) ?_
      exact t_X8_fetch_b44 C  K3 h_x1 h_x4 p16 (show jIn 1 from ⟨by decide, by decide⟩) S (L.sub (jsub_s (jsub_s (jsub_s (jsub_s (jsub_s (jsub_s (jsub_n jsub_0)))))))) hyp
    · have hyp := (if_neg c17).symm.trans hyp
      refine jr_aload_n (pc := 40) C L dX8_fetch_40 rfl rfl ?_
      obtain ⟨v18, hv18, hyp⟩ := jbind hyp
      have iv18 := jrf_in S hv18
      refine jr_getI (pc := 41) C S lf_X8_43 rfl hv18 dX8_fetch_41 ?_
      exact t_X8_fetch_b44 C  K3 h_x1 h_x4 p16 iv18 S (L.sub (jsub_s (jsub_s (jsub_s (jsub_s (jsub_s (jsub_s (jsub_n jsub_0)))))))) hyp
  · have hyp := (if_neg c9).symm.trans hyp
    cases hyp
    exact jr_vret C S trivial dX8_fetch_73
theorem t_X8_fetch_l3 {p : Program} {l : Launch} {e : Env} {s : State} {mi : MethodId} {args : Array Value} {below : List Frame} {meth : Method} {c : Code} {D : va_G} {cy : Nat → ClassId} {B sz : Nat} {sh : jm_S} {res : jm_M} {N : Nat} (C : jCx p s mi args meth c cX8_fetch 7 RX8 none D cy) : ∀ (n : Nat) (a0 : Nat) (x1 : Int) (a2 : Nat) (a3 : Nat) (x4 : Int), jIn x1 → jIn x4 → ∀ (m : jm_M) (H : Heap) (locs : List Loc) (ls : Array Slot), jHs D cy B sz sh (jA B sz) s.heap H locs m → jL ls [some (jR B a0), some (jI x1), some (jR B a2), some (jR B a3), some (jI x4), none, none] → f_X8_fetch_l3 N sh n a0 x1 a2 a3 x4 m = some res → W p l e (jrm 2 0 0) s mi args below meth c H locs 0 0 (MQ below (jQc D cy B sz sh res none True) args s 0 0 (jA B sz)) (F0 mi 3 ls []) := by
  intro n
  induction n with
  | zero => intro a0 x1 a2 a3 x4 h_x1 h_x4 m H locs ls S L hyp; cases hyp
  | succ n ih => intro a0 x1 a2 a3 x4 h_x1 h_x4 m H locs ls S L hyp; exact t_X8_fetch_b3 (N := N) C  ih h_x1 h_x4 S L hyp
set_option maxHeartbeats 4000000 in
set_option maxRecDepth 100000 in
theorem t_X8_fetch_e {p : Program} {l : Launch} {e : Env} {s : State} {mi : MethodId} {args : Array Value} {below : List Frame} {meth : Method} {c : Code} {D : va_G} {cy : Nat → ClassId} {B sz : Nat} {sh : jm_S} {res : jm_M} {N : Nat} (C : jCx p s mi args meth c cX8_fetch 7 RX8 none D cy) {a0 : Nat} {x1 : Int} (h_x1 : jIn x1) {a2 : Nat} {a3 : Nat} {m : jm_M} {H : Heap} {locs : List Loc} {ls : Array Slot} (S : jHs D cy B sz sh (jA B sz) s.heap H locs m) (L : jL ls [some (jR B a0), some (jI x1), some (jR B a2), some (jR B a3), none, none, none]) (hyp : f_X8_fetch N sh a0 x1 a2 a3 m = some res) : W p l e (jrm 2 0 0) s mi args below meth c H locs 0 0 (MQ below (jQc D cy B sz sh res none True) args s 0 0 (jA B sz)) (F0 mi 0 ls []) := by
  unfold f_X8_fetch at hyp
  refine jr_iconst (pc := 0) C dX8_fetch_0 ?_
  refine jr_istore (pc := 1) C L dX8_fetch_1 (Nat.le_of_ble_eq_true rfl) (fun ls L => ?_)
  have L : jL ls [some (jR B a0), some (jI x1), some (jR B a2), some (jR B a3), some (jI 0), none, none] := L
  exact t_X8_fetch_l3 C   N a0 x1 a2 a3 0 h_x1 (show jIn 0 from ⟨by decide, by decide⟩) m _ _ _ S (L.sub (jsub_s (jsub_s (jsub_s (jsub_s (jsub_s (jsub_n (jsub_n jsub_0)))))))) hyp
theorem c_X8_fetch {l : Launch} {D : va_G} {cy : Nat → ClassId} {B sz : Nat} {sh : jm_S} {res : jm_M} {N : Nat} {m : jm_M} {a0 : Nat} {x1 : Int} (h_x1 : jIn x1) {a2 : Nat} {a3 : Nat} (hyp : f_X8_fetch N sh a0 x1 a2 a3 m = some res) : jCt l D cy B sz sh 2 yX8_fetch cX8_fetch 7 none [jR B a0, jI x1, jR B a2, jR B a3] m none res True :=
  jc_of (by decide) (fun v h => by simp only [List.mem_cons, List.not_mem_nil, or_false] at h; rcases h with rfl | rfl | rfl | rfl <;> first | rfl | exact jR_cat _ _) (Nat.le_of_ble_eq_true rfl) (fun C S L => t_X8_fetch_e C  h_x1 S L hyp)
set_option maxHeartbeats 4000000 in
set_option maxRecDepth 100000 in
theorem t_X8_flow_b183 {p : Program} {l : Launch} {e : Env} {s : State} {mi : MethodId} {args : Array Value} {below : List Frame} {meth : Method} {c : Code} {D : va_G} {cy : Nat → ClassId} {B sz : Nat} {sh : jm_S} {res : jm_M} {N : Nat} {rec : Nat → Int → Int → Nat → Nat → jm_M → Option jm_M} {kr : Nat} (C : jCx p s mi args meth c cX8_flow 8 RX8 none D cy) (hkr : 3 ≤ kr) (hrec : ∀ (a0 : Nat) (x1 : Int) (x2 : Int) (a3 : Nat) (a4 : Nat), jIn x1 → jIn x2 → ∀ (m : jm_M) (res : jm_M), rec a0 x1 x2 a3 a4 m = some res → jCt l D cy B sz sh kr yX8_flow cX8_flow 8 none [jR B a0, jI x1, jI x2, jR B a3, jR B a4] m none res True) {a0 : Nat} {x1 : Int} (h_x1 : jIn x1) {x2 : Int} (h_x2 : jIn x2) {a3 : Nat} {a4 : Nat} {m : jm_M} {H : Heap} {locs : List Loc} {ls : Array Slot} (S : jHs D cy B sz sh (jA B sz) s.heap H locs m) (L : jL ls [some (jR B a0), some (jI x1), some (jI x2), some (jR B a3), some (jR B a4), none, none, none]) (hyp : f_X8_flow_b183 N sh rec a0 x1 x2 a3 a4 m = some res) : W p l e (jrm (kr + 3) 0 0) s mi args below meth c H locs 0 0 (MQ below (jQc D cy B sz sh res none True) args s 0 0 (jA B sz)) (F0 mi 183 ls []) := by
  unfold f_X8_flow_b183 at hyp
  refine jr_aload_n (pc := 183) C L dX8_flow_183 rfl rfl ?_
  refine jr_iload_n (pc := 184) C L dX8_flow_184 rfl rfl ?_
  refine jr_iload_n (pc := 185) C L dX8_flow_185 rfl rfl ?_
  refine jr_aload_n (pc := 186) C L dX8_flow_186 rfl rfl ?_
  refine jr_aload (pc := 187) C L dX8_flow_187 rfl ?_
  obtain ⟨u1, hu1, hyp⟩ := jbind hyp
  obtain ⟨q2, hq2, hyp⟩ := jbind hyp
  refine jr_callV_N (pc := 189) C S L (As := [jI x1, jI x2, jR B a3, jR B a4]) (rest := []) (c_X8_repeat (kr := kr) (by omega) hrec h_x1 h_x2 hq2) mv_X8_repeat ml_X8_133 rfl (jck_spec hu1) (by omega) rfl rfl rfl (Nat.le_of_ble_eq_true rfl) ⟨Nat.le_refl 0, Nat.le_refl 0⟩ dX8_flow_189 (fun p3 H locs S => ?_)
  refine jr_goto (pc := 192) C (tgt := 210) dX8_flow_192 (by decide) ?_
  cases hyp
  exact jr_vret C S trivial dX8_flow_210
set_option maxHeartbeats 4000000 in
set_option maxRecDepth 100000 in
theorem t_X8_flow_e {p : Program} {l : Launch} {e : Env} {s : State} {mi : MethodId} {args : Array Value} {below : List Frame} {meth : Method} {c : Code} {D : va_G} {cy : Nat → ClassId} {B sz : Nat} {sh : jm_S} {res : jm_M} {N : Nat} {rec : Nat → Int → Int → Nat → Nat → jm_M → Option jm_M} {kr : Nat} (C : jCx p s mi args meth c cX8_flow 8 RX8 none D cy) (hkr : 3 ≤ kr) (hrec : ∀ (a0 : Nat) (x1 : Int) (x2 : Int) (a3 : Nat) (a4 : Nat), jIn x1 → jIn x2 → ∀ (m : jm_M) (res : jm_M), rec a0 x1 x2 a3 a4 m = some res → jCt l D cy B sz sh kr yX8_flow cX8_flow 8 none [jR B a0, jI x1, jI x2, jR B a3, jR B a4] m none res True) {a0 : Nat} {x1 : Int} (h_x1 : jIn x1) {x2 : Int} (h_x2 : jIn x2) {a3 : Nat} {a4 : Nat} {m : jm_M} {H : Heap} {locs : List Loc} {ls : Array Slot} (S : jHs D cy B sz sh (jA B sz) s.heap H locs m) (L : jL ls [some (jR B a0), some (jI x1), some (jI x2), some (jR B a3), some (jR B a4), none, none, none]) (hyp : f_X8_flow_e N sh rec a0 x1 x2 a3 a4 m = some res) : W p l e (jrm (kr + 3) 0 0) s mi args below meth c H locs 0 0 (MQ below (jQc D cy B sz sh res none True) args s 0 0 (jA B sz)) (F0 mi 0 ls []) := by
  unfold f_X8_flow_e at hyp
  refine jr_iload_n (pc := 0) C L dX8_flow_0 rfl rfl ?_
  refine jr_iconst (pc := 1) C dX8_flow_1 ?_
  refine jr_icmp_le (pc := 2) C h_x2 (show jIn 4 from ⟨by decide, by decide⟩) (tgt := 6) dX8_flow_2 (by decide) (fun c4 => ?_) (fun c4 => ?_)
  · have hyp := (if_pos c4).symm.trans hyp
    cases hyp
    exact jr_vret C S trivial dX8_flow_5
  · have hyp := (if_neg c4).symm.trans hyp
    refine jr_aload_n (pc := 6) C L dX8_flow_6 rfl rfl ?_
    obtain ⟨v5, hv5, hyp⟩ := jbind hyp
    refine jr_getR (pc := 7) C S lf_X8_39 rfl hv5 dX8_flow_7 ?_
    refine jr_iload_n (pc := 10) C L dX8_flow_10 rfl rfl ?_
    obtain ⟨u6, hu6, hyp⟩ := jbind hyp
    obtain ⟨q7, hq7, hyp⟩ := jbind hyp
    refine jr_callV_I (pc := 11) C S L (As := [jI x1]) (rest := []) (c_X10_firstPart (m0 := m) h_x1 hq7) mv_X10_firstPart ml_X8_116 rfl (jck_spec hu6) (by omega) rfl rfl rfl (Nat.le_of_ble_eq_true rfl) ⟨Nat.le_refl 0, Nat.le_refl 0⟩ dX8_flow_11 (fun p8 H locs S => ?_)
    refine jr_istore (pc := 14) C L dX8_flow_14 (Nat.le_of_ble_eq_true rfl) (fun ls L => ?_)
    have L : jL ls [some (jR B a0), some (jI x1), some (jI x2), some (jR B a3), some (jR B a4), some (jI q7), none, none] := L
    refine jr_aload_n (pc := 16) C L dX8_flow_16 rfl rfl ?_
    obtain ⟨v9, hv9, hyp⟩ := jbind hyp
    refine jr_getR (pc := 17) C S lf_X8_39 rfl hv9 dX8_flow_17 ?_
    refine jr_iload_n (pc := 20) C L dX8_flow_20 rfl rfl ?_
    obtain ⟨u10, hu10, hyp⟩ := jbind hyp
    obtain ⟨q11, hq11, hyp⟩ := jbind hyp
    refine jr_callV_I (pc := 21) C S L (As := [jI x1]) (rest := []) (c_X10_secondPart (m0 := m) h_x1 hq11) mv_X10_secondPart ml_X8_119 rfl (jck_spec hu10) (by omega) rfl rfl rfl (Nat.le_of_ble_eq_true rfl) ⟨Nat.le_refl 0, Nat.le_refl 0⟩ dX8_flow_21 (fun p12 H locs S => ?_)
    refine jr_istore (pc := 24) C L dX8_flow_24 (Nat.le_of_ble_eq_true rfl) (fun ls L => ?_)
    have L : jL ls [some (jR B a0), some (jI x1), some (jI x2), some (jR B a3), some (jR B a4), some (jI q7), some (jI q11), none] := L
    refine jr_aload_n (pc := 26) C L dX8_flow_26 rfl rfl ?_
    refine jr_iload_n (pc := 27) C L dX8_flow_27 rfl rfl ?_
    obtain ⟨u13, hu13, hyp⟩ := jbind hyp
    obtain ⟨q14, hq14, hyp⟩ := jbind hyp
    refine jr_callV_R (pc := 28) C S L (As := [jI x2]) (rest := []) (c_X8_betweenAt (m0 := m) h_x2 hq14) mv_X8_betweenAt ml_X8_122 rfl (jck_spec hu13) (by omega) rfl rfl rfl (Nat.le_of_ble_eq_true rfl) ⟨Nat.le_refl 0, Nat.le_refl 0⟩ dX8_flow_28 (fun p15 H locs S => ?_)
    refine jr_astore (pc := 31) C L dX8_flow_31 (Nat.le_of_ble_eq_true rfl) (fun ls L => ?_)
    have L : jL ls [some (jR B a0), some (jI x1), some (jI x2), some (jR B a3), some (jR B a4), some (jI q7), some (jI q11), some (jR B q14)] := L
    refine jr_aload (pc := 33) C L dX8_flow_33 rfl ?_
    obtain ⟨u16, hu16, hyp⟩ := jbind hyp
    obtain ⟨q17, hq17, hyp⟩ := jbind hyp
    refine jr_callV_N (pc := 35) C S L (As := []) (rest := []) (c_X4_clear  hq17) mv_X4_clear ml_X8_63 rfl (jck_spec hu16) (by omega) rfl rfl rfl (Nat.le_of_ble_eq_true rfl) ⟨Nat.le_refl 0, Nat.le_refl 0⟩ dX8_flow_35 (fun p18 H locs S => ?_)
    refine jr_aload_n (pc := 38) C L dX8_flow_38 rfl rfl ?_
    obtain ⟨v19, hv19, hyp⟩ := jbind hyp
    refine jr_getR (pc := 39) C S lf_X8_39 rfl hv19 dX8_flow_39 ?_
    refine jr_iload_n (pc := 42) C L dX8_flow_42 rfl rfl ?_
    obtain ⟨u20, hu20, hyp⟩ := jbind hyp
    obtain ⟨q21, hq21, hyp⟩ := jbind hyp
    refine jr_callV_I (pc := 43) C S L (As := [jI x1]) (rest := []) (c_X10_signAt (m0 := q17) h_x1 hq21) mv_X10_signAt ml_X8_126 rfl (jck_spec hu20) (by omega) rfl rfl rfl (Nat.le_of_ble_eq_true rfl) ⟨Nat.le_refl 0, Nat.le_refl 0⟩ dX8_flow_43 (fun p22 H locs S => ?_)
    by_cases c23 : (45 : Int) = q21
    · have hyp := (if_pos c23).symm.trans hyp
      refine jr_lookup (pc := 46) C p22 (off := 124) (tgt := 170) dX8_flow_46 rfl (if_pos c23) (by decide) ?_
      refine jr_aload (pc := 170) C L dX8_flow_170 rfl ?_
      refine jr_aload_n (pc := 172) C L dX8_flow_172 rfl rfl ?_
      refine jr_aload_n (pc := 173) C L dX8_flow_173 rfl rfl ?_
      obtain ⟨v24, hv24, hyp⟩ := jbind hyp
      have iv24 := jrf_in S hv24
      refine jr_getI (pc := 174) C S lf_X8_47 rfl hv24 dX8_flow_174 ?_
      obtain ⟨u25, hu25, hyp⟩ := jbind hyp
      obtain ⟨q26, hq26, hyp⟩ := jbind hyp
      refine jr_callV_N (pc := 177) C S L (As := [jR B a3, jI v24]) (rest := []) (c_X4_addAll iv24 hq26) mv_X4_addAll ml_X8_129 rfl (jck_spec hu25) (by omega) rfl rfl rfl (Nat.le_of_ble_eq_true rfl) ⟨Nat.le_refl 0, Nat.le_refl 0⟩ dX8_flow_177 (fun p27 H locs S => ?_)
      refine jr_goto (pc := 180) C (tgt := 210) dX8_flow_180 (by decide) ?_
      cases hyp
      exact jr_vret C S trivial dX8_flow_210
    have hyp := (if_neg c23).symm.trans hyp
    by_cases c28 : (59 : Int) = q21
    · have hyp := (if_pos c28).symm.trans hyp
      refine jr_lookup (pc := 46) C p22 (off := 58) (tgt := 104) dX8_flow_46 rfl ((if_neg c23).trans (if_pos c28)) (by decide) ?_
      refine jr_aload_n (pc := 104) C L dX8_flow_104 rfl rfl ?_
      refine jr_iload (pc := 105) C L dX8_flow_105 rfl ?_
      refine jr_iload_n (pc := 107) C L dX8_flow_107 rfl rfl ?_
      refine jr_iconst (pc := 108) C dX8_flow_108 ?_
      refine jr_iadd (pc := 109) C dX8_flow_109 ?_
      refine jr_aload_n (pc := 110) C L dX8_flow_110 rfl rfl ?_
      refine jr_aload (pc := 111) C L dX8_flow_111 rfl ?_
      obtain ⟨u29, hu29, hyp⟩ := jbind hyp
      obtain ⟨q30, hq30, hyp⟩ := jbind hyp
      refine jr_callV_N (pc := 113) C S L (As := [jI q7, jI (jw (x2 + 1)), jR B a3, jR B q14]) (rest := []) (hrec a0 q7 (jw (x2 + 1)) a3 q14 p8 (jIn_w _) q17 q30 hq30) mv_X8_flow ml_X8_70 rfl (jck_spec hu29) (by omega) rfl rfl rfl (Nat.le_of_ble_eq_true rfl) ⟨Nat.le_refl 0, Nat.le_refl 0⟩ dX8_flow_113 (fun p31 H locs S => ?_)
      refine jr_aload_n (pc := 116) C L dX8_flow_116 rfl rfl ?_
      refine jr_iload (pc := 117) C L dX8_flow_117 rfl ?_
      refine jr_iload_n (pc := 119) C L dX8_flow_119 rfl rfl ?_
      refine jr_iconst (pc := 120) C dX8_flow_120 ?_
      refine jr_iadd (pc := 121) C dX8_flow_121 ?_
      refine jr_aload (pc := 122) C L dX8_flow_122 rfl ?_
      refine jr_aload (pc := 124) C L dX8_flow_124 rfl ?_
      obtain ⟨u32, hu32, hyp⟩ := jbind hyp
      obtain ⟨q33, hq33, hyp⟩ := jbind hyp
      refine jr_callV_N (pc := 126) C S L (As := [jI q11, jI (jw (x2 + 1)), jR B q14, jR B a4]) (rest := []) (hrec a0 q11 (jw (x2 + 1)) q14 a4 p12 (jIn_w _) q30 q33 hq33) mv_X8_flow ml_X8_70 rfl (jck_spec hu32) (by omega) rfl rfl rfl (Nat.le_of_ble_eq_true rfl) ⟨Nat.le_refl 0, Nat.le_refl 0⟩ dX8_flow_126 (fun p34 H locs S => ?_)
      refine jr_goto (pc := 129) C (tgt := 210) dX8_flow_129 (by decide) ?_
      cases hyp
      exact jr_vret C S trivial dX8_flow_210
    have hyp := (if_neg c28).symm.trans hyp
    by_cases c35 : (63 : Int) = q21
    · have hyp := (if_pos c35).symm.trans hyp
      refine jr_lookup (pc := 46) C p22 (off := 86) (tgt := 132) dX8_flow_46 rfl ((if_neg c23).trans ((if_neg c28).trans (if_pos c35))) (by decide) ?_
      refine jr_aload_n (pc := 132) C L dX8_flow_132 rfl rfl ?_
      refine jr_iload (pc := 133) C L dX8_flow_133 rfl ?_
      refine jr_iload_n (pc := 135) C L dX8_flow_135 rfl rfl ?_
      refine jr_iconst (pc := 136) C dX8_flow_136 ?_
      refine jr_iadd (pc := 137) C dX8_flow_137 ?_
      refine jr_aload_n (pc := 138) C L dX8_flow_138 rfl rfl ?_
      refine jr_aload (pc := 139) C L dX8_flow_139 rfl ?_
      obtain ⟨u36, hu36, hyp⟩ := jbind hyp
      obtain ⟨q37, hq37, hyp⟩ := jbind hyp
      refine jr_callV_N (pc := 141) C S L (As := [jI q7, jI (jw (x2 + 1)), jR B a3, jR B a4]) (rest := []) (hrec a0 q7 (jw (x2 + 1)) a3 a4 p8 (jIn_w _) q17 q37 hq37) mv_X8_flow ml_X8_70 rfl (jck_spec hu36) (by omega) rfl rfl rfl (Nat.le_of_ble_eq_true rfl) ⟨Nat.le_refl 0, Nat.le_refl 0⟩ dX8_flow_141 (fun p38 H locs S => ?_)
      refine jr_aload_n (pc := 144) C L dX8_flow_144 rfl rfl ?_
      refine jr_iload (pc := 145) C L dX8_flow_145 rfl ?_
      refine jr_iload_n (pc := 147) C L dX8_flow_147 rfl rfl ?_
      refine jr_iconst (pc := 148) C dX8_flow_148 ?_
      refine jr_iadd (pc := 149) C dX8_flow_149 ?_
      refine jr_aload_n (pc := 150) C L dX8_flow_150 rfl rfl ?_
      refine jr_aload (pc := 151) C L dX8_flow_151 rfl ?_
      obtain ⟨u39, hu39, hyp⟩ := jbind hyp
      obtain ⟨q40, hq40, hyp⟩ := jbind hyp
      refine jr_callV_N (pc := 153) C S L (As := [jI q11, jI (jw (x2 + 1)), jR B a3, jR B q14]) (rest := []) (hrec a0 q11 (jw (x2 + 1)) a3 q14 p12 (jIn_w _) q37 q40 hq40) mv_X8_flow ml_X8_70 rfl (jck_spec hu39) (by omega) rfl rfl rfl (Nat.le_of_ble_eq_true rfl) ⟨Nat.le_refl 0, Nat.le_refl 0⟩ dX8_flow_153 (fun p41 H locs S => ?_)
      refine jr_aload (pc := 156) C L dX8_flow_156 rfl ?_
      refine jr_aload (pc := 158) C L dX8_flow_158 rfl ?_
      refine jr_aload_n (pc := 160) C L dX8_flow_160 rfl rfl ?_
      obtain ⟨v42, hv42, hyp⟩ := jbind hyp
      have iv42 := jrf_in S hv42
      refine jr_getI (pc := 161) C S lf_X8_47 rfl hv42 dX8_flow_161 ?_
      obtain ⟨u43, hu43, hyp⟩ := jbind hyp
      obtain ⟨q44, hq44, hyp⟩ := jbind hyp
      refine jr_callV_N (pc := 164) C S L (As := [jR B q14, jI v42]) (rest := []) (c_X4_addAll iv42 hq44) mv_X4_addAll ml_X8_129 rfl (jck_spec hu43) (by omega) rfl rfl rfl (Nat.le_of_ble_eq_true rfl) ⟨Nat.le_refl 0, Nat.le_refl 0⟩ dX8_flow_164 (fun p45 H locs S => ?_)
      refine jr_goto (pc := 167) C (tgt := 210) dX8_flow_167 (by decide) ?_
      cases hyp
      exact jr_vret C S trivial dX8_flow_210
    have hyp := (if_neg c35).symm.trans hyp
    by_cases c46 : (98 : Int) = q21
    · have hyp := (if_pos c46).symm.trans hyp
      refine jr_lookup (pc := 46) C p22 (off := 137) (tgt := 183) dX8_flow_46 rfl ((if_neg c23).trans ((if_neg c28).trans ((if_neg c35).trans (if_pos c46)))) (by decide) ?_
      exact t_X8_flow_b183 C hkr hrec  h_x1 h_x2 S (L.sub (jsub_s (jsub_s (jsub_s (jsub_s (jsub_s (jsub_n (jsub_n (jsub_n jsub_0))))))))) hyp
    have hyp := (if_neg c46).symm.trans hyp
    by_cases c47 : (99 : Int) = q21
    · have hyp := (if_pos c47).symm.trans hyp
      refine jr_lookup (pc := 46) C p22 (off := 137) (tgt := 183) dX8_flow_46 rfl ((if_neg c23).trans ((if_neg c28).trans ((if_neg c35).trans ((if_neg c46).trans (if_pos c47))))) (by decide) ?_
      exact t_X8_flow_b183 C hkr hrec  h_x1 h_x2 S (L.sub (jsub_s (jsub_s (jsub_s (jsub_s (jsub_s (jsub_n (jsub_n (jsub_n jsub_0))))))))) hyp
    have hyp := (if_neg c47).symm.trans hyp
    by_cases c48 : (100 : Int) = q21
    · have hyp := (if_pos c48).symm.trans hyp
      refine jr_lookup (pc := 46) C p22 (off := 137) (tgt := 183) dX8_flow_46 rfl ((if_neg c23).trans ((if_neg c28).trans ((if_neg c35).trans ((if_neg c46).trans ((if_neg c47).trans (if_pos c48)))))) (by decide) ?_
      exact t_X8_flow_b183 C hkr hrec  h_x1 h_x2 S (L.sub (jsub_s (jsub_s (jsub_s (jsub_s (jsub_s (jsub_n (jsub_n (jsub_n jsub_0))))))))) hyp
    have hyp := (if_neg c48).symm.trans hyp
    refine jr_lookup (pc := 46) C p22 (off := 149) (tgt := 195) dX8_flow_46 rfl ((if_neg c23).trans ((if_neg c28).trans ((if_neg c35).trans ((if_neg c46).trans ((if_neg c47).trans ((if_neg c48).trans rfl)))))) (by decide) ?_
    refine jr_aload_n (pc := 195) C L dX8_flow_195 rfl rfl ?_
    refine jr_aload_n (pc := 196) C L dX8_flow_196 rfl rfl ?_
    obtain ⟨v49, hv49, hyp⟩ := jbind hyp
    refine jr_getR (pc := 197) C S lf_X8_39 rfl hv49 dX8_flow_197 ?_
    refine jr_iload_n (pc := 200) C L dX8_flow_200 rfl rfl ?_
    obtain ⟨u50, hu50, hyp⟩ := jbind hyp
    obtain ⟨q51, hq51, hyp⟩ := jbind hyp
    refine jr_callV_I (pc := 201) C S L (As := [jI x1]) (rest := [jR B a0]) (c_X10_lineAt (m0 := q17) h_x1 hq51) mv_X10_lineAt ml_X8_136 rfl (jck_spec hu50) (by omega) rfl rfl rfl (by simp [jR_cat, jI_cat]) ⟨Nat.le_refl 0, Nat.le_refl 0⟩ dX8_flow_201 (fun p52 H locs S => ?_)
    refine jr_aload_n (pc := 204) C L dX8_flow_204 rfl rfl ?_
    refine jr_aload (pc := 205) C L dX8_flow_205 rfl ?_
    obtain ⟨u53, hu53, hyp⟩ := jbind hyp
    obtain ⟨q54, hq54, hyp⟩ := jbind hyp
    refine jr_callV_N (pc := 207) C S L (As := [jI q51, jR B a3, jR B a4]) (rest := []) (c_X8_fetch p52 hq54) mv_X8_fetch ml_X8_139 rfl (jck_spec hu53) (by omega) rfl rfl rfl (Nat.le_of_ble_eq_true rfl) ⟨Nat.le_refl 0, Nat.le_refl 0⟩ dX8_flow_207 (fun p55 H locs S => ?_)
    cases hyp
    exact jr_vret C S trivial dX8_flow_210
theorem ce_X8_flow {l : Launch} {D : va_G} {cy : Nat → ClassId} {B sz : Nat} {sh : jm_S} {res : jm_M} {N : Nat} {rec : Nat → Int → Int → Nat → Nat → jm_M → Option jm_M} {kr : Nat} {m : jm_M} (hkr : 3 ≤ kr) (hrec : ∀ (a0 : Nat) (x1 : Int) (x2 : Int) (a3 : Nat) (a4 : Nat), jIn x1 → jIn x2 → ∀ (m : jm_M) (res : jm_M), rec a0 x1 x2 a3 a4 m = some res → jCt l D cy B sz sh kr yX8_flow cX8_flow 8 none [jR B a0, jI x1, jI x2, jR B a3, jR B a4] m none res True) {a0 : Nat} {x1 : Int} (h_x1 : jIn x1) {x2 : Int} (h_x2 : jIn x2) {a3 : Nat} {a4 : Nat} (hyp : f_X8_flow_e N sh rec a0 x1 x2 a3 a4 m = some res) : jCt l D cy B sz sh (kr + 3) yX8_flow cX8_flow 8 none [jR B a0, jI x1, jI x2, jR B a3, jR B a4] m none res True :=
  jc_of (by decide) (fun v h => by simp only [List.mem_cons, List.not_mem_nil, or_false] at h; rcases h with rfl | rfl | rfl | rfl | rfl <;> first | rfl | exact jR_cat _ _) (Nat.le_of_ble_eq_true rfl) (fun C S L => t_X8_flow_e C hkr hrec h_x1 h_x2 S L hyp)
theorem cd_X8_flow {l : Launch} {D : va_G} {cy : Nat → ClassId} {B sz : Nat} {sh : jm_S} {N : Nat} : ∀ (d : Nat) (a0 : Nat) (x1 : Int) (x2 : Int) (a3 : Nat) (a4 : Nat), jIn x1 → jIn x2 → ∀ (m : jm_M) (res : jm_M), f_X8_flow N sh d a0 x1 x2 a3 a4 m = some res → jCt l D cy B sz sh (3 + 3 * d) yX8_flow cX8_flow 8 none [jR B a0, jI x1, jI x2, jR B a3, jR B a4] m none res True := by
  intro d
  induction d with
  | zero => intro a0 x1 x2 a3 a4 h_x1 h_x2 m res hyp; cases hyp
  | succ d ih =>
    intro a0 x1 x2 a3 a4 h_x1 h_x2 m res hyp
    have h := ce_X8_flow (kr := 3 + 3 * d) (l := l) (D := D) (cy := cy) (B := B) (sz := sz) (by omega) ih h_x1 h_x2 hyp
    rwa [show 3 + 3 * d + 3 = 3 + 3 * (d + 1) by omega] at h
set_option maxHeartbeats 4000000 in
set_option maxRecDepth 100000 in
theorem t_X8_costOf_b125 {p : Program} {l : Launch} {e : Env} {s : State} {mi : MethodId} {args : Array Value} {below : List Frame} {meth : Method} {c : Code} {D : va_G} {cy : Nat → ClassId} {B sz : Nat} {sh : jm_S} {res : (Int × jm_M)} {N : Nat} {k77 : Nat → Int → Int → Int → jm_M → Option (Int × jm_M)} (C : jCx p s mi args meth c cX8_costOf 7 RX8 (some .int) D cy) (K77 : ∀ (a0 : Nat) (x4 : Int) (x5 : Int) (x6 : Int) , jIn x4 → jIn x5 → jIn x6 → ∀ (m : jm_M) (H : Heap) (locs : List Loc) (ls : Array Slot), jHs D cy B sz sh (jA B sz) s.heap H locs m → jL ls [some (jR B a0), none, none, none, some (jI x4), some (jI x5), some (jI x6)] → k77 a0 x4 x5 x6 m = some res → W p l e (jrm 28 0 0) s mi args below meth c H locs 0 0 (MQ below (jQc D cy B sz sh res.2 (some (jI res.1)) (jIn res.1)) args s 0 0 (jA B sz)) (F0 mi 77 ls [])) {a0 : Nat} {x4 : Int} (h_x4 : jIn x4) {x6 : Int} (h_x6 : jIn x6) {s0 : Int} (h_s0 : jIn s0) {m : jm_M} {H : Heap} {locs : List Loc} {ls : Array Slot} (S : jHs D cy B sz sh (jA B sz) s.heap H locs m) (L : jL ls [some (jR B a0), none, none, none, some (jI x4), none, some (jI x6)]) (hyp : f_X8_costOf_b125 N sh k77 a0 x4 x6 s0 m = some res) : W p l e (jrm 28 0 0) s mi args below meth c H locs 0 0 (MQ below (jQc D cy B sz sh res.2 (some (jI res.1)) (jIn res.1)) args s 0 0 (jA B sz)) (F0 mi 125 ls [jI s0]) := by
  unfold f_X8_costOf_b125 at hyp
  refine jr_istore (pc := 125) C L dX8_costOf_125 (Nat.le_of_ble_eq_true rfl) (fun ls L => ?_)
  have L : jL ls [some (jR B a0), none, none, none, some (jI x4), some (jI s0), some (jI x6)] := L
  refine jr_iinc (pc := 127) C L dX8_costOf_127 rfl (Nat.le_of_ble_eq_true rfl) (fun ls L => ?_)
  have L : jL ls [some (jR B a0), none, none, none, some (jI x4), some (jI s0), some (jI (jw (x6 + 1)))] := L
  refine jr_goto (pc := 130) C (tgt := 77) dX8_costOf_130 (by decide) ?_
  exact K77 a0 x4 s0 (jw (x6 + 1)) h_x4 h_s0 (jIn_w _) m _ _ _ S (L.sub (jsub_s (jsub_n (jsub_n (jsub_n (jsub_s (jsub_s (jsub_s jsub_0)))))))) hyp
set_option maxHeartbeats 4000000 in
set_option maxRecDepth 100000 in
theorem t_X8_costOf_b77 {p : Program} {l : Launch} {e : Env} {s : State} {mi : MethodId} {args : Array Value} {below : List Frame} {meth : Method} {c : Code} {D : va_G} {cy : Nat → ClassId} {B sz : Nat} {sh : jm_S} {res : (Int × jm_M)} {N : Nat} {k77 : Nat → Int → Int → Int → jm_M → Option (Int × jm_M)} (C : jCx p s mi args meth c cX8_costOf 7 RX8 (some .int) D cy) (K77 : ∀ (a0 : Nat) (x4 : Int) (x5 : Int) (x6 : Int) , jIn x4 → jIn x5 → jIn x6 → ∀ (m : jm_M) (H : Heap) (locs : List Loc) (ls : Array Slot), jHs D cy B sz sh (jA B sz) s.heap H locs m → jL ls [some (jR B a0), none, none, none, some (jI x4), some (jI x5), some (jI x6)] → k77 a0 x4 x5 x6 m = some res → W p l e (jrm 28 0 0) s mi args below meth c H locs 0 0 (MQ below (jQc D cy B sz sh res.2 (some (jI res.1)) (jIn res.1)) args s 0 0 (jA B sz)) (F0 mi 77 ls [])) {a0 : Nat} {x4 : Int} (h_x4 : jIn x4) {x5 : Int} (h_x5 : jIn x5) {x6 : Int} (h_x6 : jIn x6) {m : jm_M} {H : Heap} {locs : List Loc} {ls : Array Slot} (S : jHs D cy B sz sh (jA B sz) s.heap H locs m) (L : jL ls [some (jR B a0), none, none, none, some (jI x4), some (jI x5), some (jI x6)]) (hyp : f_X8_costOf_b77 N sh k77 a0 x4 x5 x6 m = some res) : W p l e (jrm 28 0 0) s mi args below meth c H locs 0 0 (MQ below (jQc D cy B sz sh res.2 (some (jI res.1)) (jIn res.1)) args s 0 0 (jA B sz)) (F0 mi 77 ls []) := by
  unfold f_X8_costOf_b77 at hyp
  refine jr_iload (pc := 77) C L dX8_costOf_77 rfl ?_
  refine jr_aload_n (pc := 79) C L dX8_costOf_79 rfl rfl ?_
  obtain ⟨v1, hv1, hyp⟩ := jbind hyp
  refine jr_getR (pc := 80) C S lf_X8_18 rfl hv1 dX8_costOf_80 ?_
  obtain ⟨v2, hv2, hyp⟩ := jbind hyp
  have iv2 := jrf_in S hv2
  refine jr_getI (pc := 83) C S lf_X8_78 rfl hv2 dX8_costOf_83 ?_
  refine jr_icmp_ge (pc := 86) C h_x6 iv2 (tgt := 133) dX8_costOf_86 (by decide) (fun c3 => ?_) (fun c3 => ?_)
  · have hyp := (if_pos c3).symm.trans hyp
    refine jr_iload (pc := 89) C L dX8_costOf_89 rfl ?_
    refine jr_if_eq (pc := 91) C h_x4 (tgt := 111) dX8_costOf_91 (by decide) (fun c4 => ?_) (fun c4 => ?_)
    · have hyp := (if_pos c4).symm.trans hyp
      refine jr_iload (pc := 111) C L dX8_costOf_111 rfl ?_
      refine jr_aload_n (pc := 113) C L dX8_costOf_113 rfl rfl ?_
      obtain ⟨v5, hv5, hyp⟩ := jbind hyp
      refine jr_getR (pc := 114) C S lf_X8_18 rfl hv5 dX8_costOf_114 ?_
      refine jr_iload (pc := 117) C L dX8_costOf_117 rfl ?_
      obtain ⟨u6, hu6, hyp⟩ := jbind hyp
      obtain ⟨q7, hq7, hyp⟩ := jbind hyp
      refine jr_callV_I (pc := 119) C S L (As := [jI x6]) (rest := [jI x5]) (c_X4_costAt (m0 := m) h_x6 hq7) mv_X4_costAt ml_X8_74 rfl (jck_spec hu6) (by decide) rfl rfl rfl (Nat.le_of_ble_eq_true rfl) ⟨Nat.le_refl 0, Nat.le_refl 0⟩ dX8_costOf_119 (fun p8 H locs S => ?_)
      obtain ⟨q9, hq9, hyp⟩ := jbind hyp
      refine jr_callS_I (pc := 122) C S L (As := [jI x5, jI q7]) (rest := []) (c_J9_min_7cf53 (m0 := m) h_x5 p8 hq9) ms_J9_min_7cf53 ml_X8_87 (by decide) rfl rfl rfl (Nat.le_of_ble_eq_true rfl) ⟨Nat.le_refl 0, Nat.le_refl 0⟩ dX8_costOf_122 (fun p10 H locs S => ?_)
      exact t_X8_costOf_b125 C  K77 h_x4 h_x6 p10 S (L.sub (jsub_s (jsub_n (jsub_n (jsub_n (jsub_s (jsub_n (jsub_s jsub_0)))))))) hyp
    · have hyp := (if_neg c4).symm.trans hyp
      refine jr_iload (pc := 94) C L dX8_costOf_94 rfl ?_
      refine jr_aload_n (pc := 96) C L dX8_costOf_96 rfl rfl ?_
      obtain ⟨v11, hv11, hyp⟩ := jbind hyp
      refine jr_getR (pc := 97) C S lf_X8_18 rfl hv11 dX8_costOf_97 ?_
      refine jr_iload (pc := 100) C L dX8_costOf_100 rfl ?_
      obtain ⟨u12, hu12, hyp⟩ := jbind hyp
      obtain ⟨q13, hq13, hyp⟩ := jbind hyp
      refine jr_callV_I (pc := 102) C S L (As := [jI x6]) (rest := [jI x5]) (c_X4_costAt (m0 := m) h_x6 hq13) mv_X4_costAt ml_X8_74 rfl (jck_spec hu12) (by decide) rfl rfl rfl (Nat.le_of_ble_eq_true rfl) ⟨Nat.le_refl 0, Nat.le_refl 0⟩ dX8_costOf_102 (fun p14 H locs S => ?_)
      obtain ⟨q15, hq15, hyp⟩ := jbind hyp
      refine jr_callS_I (pc := 105) C S L (As := [jI x5, jI q13]) (rest := []) (c_J9_max_7cf53 (m0 := m) h_x5 p14 hq15) ms_J9_max_7cf53 ml_X8_81 (by decide) rfl rfl rfl (Nat.le_of_ble_eq_true rfl) ⟨Nat.le_refl 0, Nat.le_refl 0⟩ dX8_costOf_105 (fun p16 H locs S => ?_)
      refine jr_goto (pc := 108) C (tgt := 125) dX8_costOf_108 (by decide) ?_
      exact t_X8_costOf_b125 C  K77 h_x4 h_x6 p16 S (L.sub (jsub_s (jsub_n (jsub_n (jsub_n (jsub_s (jsub_n (jsub_s jsub_0)))))))) hyp
  · have hyp := (if_neg c3).symm.trans hyp
    refine jr_iload (pc := 133) C L dX8_costOf_133 rfl ?_
    cases hyp
    exact jr_iret C S h_x5 dX8_costOf_135
theorem t_X8_costOf_l77 {p : Program} {l : Launch} {e : Env} {s : State} {mi : MethodId} {args : Array Value} {below : List Frame} {meth : Method} {c : Code} {D : va_G} {cy : Nat → ClassId} {B sz : Nat} {sh : jm_S} {res : (Int × jm_M)} {N : Nat} (C : jCx p s mi args meth c cX8_costOf 7 RX8 (some .int) D cy) : ∀ (n : Nat) (a0 : Nat) (x4 : Int) (x5 : Int) (x6 : Int), jIn x4 → jIn x5 → jIn x6 → ∀ (m : jm_M) (H : Heap) (locs : List Loc) (ls : Array Slot), jHs D cy B sz sh (jA B sz) s.heap H locs m → jL ls [some (jR B a0), none, none, none, some (jI x4), some (jI x5), some (jI x6)] → f_X8_costOf_l77 N sh n a0 x4 x5 x6 m = some res → W p l e (jrm 28 0 0) s mi args below meth c H locs 0 0 (MQ below (jQc D cy B sz sh res.2 (some (jI res.1)) (jIn res.1)) args s 0 0 (jA B sz)) (F0 mi 77 ls []) := by
  intro n
  induction n with
  | zero => intro a0 x4 x5 x6 h_x4 h_x5 h_x6 m H locs ls S L hyp; cases hyp
  | succ n ih => intro a0 x4 x5 x6 h_x4 h_x5 h_x6 m H locs ls S L hyp; exact t_X8_costOf_b77 (N := N) C  ih h_x4 h_x5 h_x6 S L hyp
set_option maxHeartbeats 4000000 in
set_option maxRecDepth 100000 in
theorem t_X8_costOf_e {p : Program} {l : Launch} {e : Env} {s : State} {mi : MethodId} {args : Array Value} {below : List Frame} {meth : Method} {c : Code} {D : va_G} {cy : Nat → ClassId} {B sz : Nat} {sh : jm_S} {res : (Int × jm_M)} {N : Nat} (C : jCx p s mi args meth c cX8_costOf 7 RX8 (some .int) D cy) {a0 : Nat} {a1 : Nat} {x2 : Int} (h_x2 : jIn x2) {x3 : Int} (h_x3 : jIn x3) {x4 : Int} (h_x4 : jIn x4) {m : jm_M} {H : Heap} {locs : List Loc} {ls : Array Slot} (S : jHs D cy B sz sh (jA B sz) s.heap H locs m) (L : jL ls [some (jR B a0), some (jR B a1), some (jI x2), some (jI x3), some (jI x4), none, none]) (hyp : f_X8_costOf N sh a0 a1 x2 x3 x4 m = some res) : W p l e (jrm 28 0 0) s mi args below meth c H locs 0 0 (MQ below (jQc D cy B sz sh res.2 (some (jI res.1)) (jIn res.1)) args s 0 0 (jA B sz)) (F0 mi 0 ls []) := by
  unfold f_X8_costOf at hyp
  refine jr_aload_n (pc := 0) C L dX8_costOf_0 rfl rfl ?_
  refine jr_aload_n (pc := 1) C L dX8_costOf_1 rfl rfl ?_
  obtain ⟨m17, hm17, hyp⟩ := jbind hyp
  refine jr_putW (pc := 2) C S lf_X8_39 fp_X8_4 rfl hm17 dX8_costOf_2 (fun H locs S => ?_)
  refine jr_aload_n (pc := 5) C L dX8_costOf_5 rfl rfl ?_
  refine jr_iload_n (pc := 6) C L dX8_costOf_6 rfl rfl ?_
  obtain ⟨m18, hm18, hyp⟩ := jbind hyp
  refine jr_putI (pc := 7) C S lf_X8_43 fp_X8_3 rfl h_x2 hm18 dX8_costOf_7 (fun H locs S => ?_)
  refine jr_aload_n (pc := 10) C L dX8_costOf_10 rfl rfl ?_
  refine jr_iload (pc := 11) C L dX8_costOf_11 rfl ?_
  obtain ⟨z20, hz20, hyp⟩ := jbind hyp
  obtain ⟨m19, hm19, hyp⟩ := jbind hyp
  refine jr_putZ (pc := 13) C S lf_X8_47 fp_X8_2 rfl hz20 hm19 dX8_costOf_13 (fun H locs S => ?_)
  refine jr_aload_n (pc := 16) C L dX8_costOf_16 rfl rfl ?_
  obtain ⟨v21, hv21, hyp⟩ := jbind hyp
  refine jr_getR (pc := 17) C S lf_X8_29 rfl hv21 dX8_costOf_17 ?_
  refine jr_aload_n (pc := 20) C L dX8_costOf_20 rfl rfl ?_
  obtain ⟨v22, hv22, hyp⟩ := jbind hyp
  refine jr_getR (pc := 21) C S lf_X8_25 rfl hv22 dX8_costOf_21 ?_
  refine jr_iload_n (pc := 24) C L dX8_costOf_24 rfl rfl ?_
  refine jr_aload_n (pc := 25) C L dX8_costOf_25 rfl rfl ?_
  obtain ⟨u23, hu23, hyp⟩ := jbind hyp
  obtain ⟨q24, hq24, hyp⟩ := jbind hyp
  refine jr_callV_I (pc := 26) C S L (As := []) (rest := [jI x3, jR B v22.toNat, jR B v21.toNat]) (c_X10_allLines (m0 := m19)  hq24) mv_X10_allLines ml_X8_51 rfl (jck_spec hu23) (by decide) rfl rfl rfl (by simp [jR_cat, jI_cat]) ⟨Nat.le_refl 0, Nat.le_refl 0⟩ dX8_costOf_26 (fun p25 H locs S => ?_)
  obtain ⟨u26, hu26, hyp⟩ := jbind hyp
  obtain ⟨q27, hq27, hyp⟩ := jbind hyp
  refine jr_callV_N (pc := 29) C S L (As := [jR B v22.toNat, jI x3, jI q24]) (rest := []) (c_X7_lay h_x3 p25 hq27) mv_X7_lay ml_X8_57 rfl (jck_spec hu26) (by decide) rfl rfl rfl (Nat.le_of_ble_eq_true rfl) ⟨Nat.le_refl 0, Nat.le_refl 0⟩ dX8_costOf_29 (fun p28 H locs S => ?_)
  refine jr_aload_n (pc := 32) C L dX8_costOf_32 rfl rfl ?_
  obtain ⟨v29, hv29, hyp⟩ := jbind hyp
  refine jr_getR (pc := 33) C S lf_X8_12 rfl hv29 dX8_costOf_33 ?_
  obtain ⟨u30, hu30, hyp⟩ := jbind hyp
  obtain ⟨q31, hq31, hyp⟩ := jbind hyp
  refine jr_callV_N (pc := 36) C S L (As := []) (rest := []) (c_X4_clear  hq31) mv_X4_clear ml_X8_63 rfl (jck_spec hu30) (by decide) rfl rfl rfl (Nat.le_of_ble_eq_true rfl) ⟨Nat.le_refl 0, Nat.le_refl 0⟩ dX8_costOf_36 (fun p32 H locs S => ?_)
  refine jr_aload_n (pc := 39) C L dX8_costOf_39 rfl rfl ?_
  obtain ⟨v33, hv33, hyp⟩ := jbind hyp
  refine jr_getR (pc := 40) C S lf_X8_12 rfl hv33 dX8_costOf_40 ?_
  refine jr_iconst (pc := 43) C dX8_costOf_43 ?_
  refine jr_iconst (pc := 44) C dX8_costOf_44 ?_
  refine jr_iload (pc := 45) C L dX8_costOf_45 rfl ?_
  obtain ⟨u34, hu34, hyp⟩ := jbind hyp
  obtain ⟨q35, hq35, hyp⟩ := jbind hyp
  refine jr_callV_N (pc := 47) C S L (As := [jI 0, jI 0, jI x4]) (rest := []) (c_X4_add (show jIn 0 from ⟨by decide, by decide⟩) (show jIn 0 from ⟨by decide, by decide⟩) h_x4 hq35) mv_X4_add ml_X8_66 rfl (jck_spec hu34) (by decide) rfl rfl rfl (Nat.le_of_ble_eq_true rfl) ⟨Nat.le_refl 0, Nat.le_refl 0⟩ dX8_costOf_47 (fun p36 H locs S => ?_)
  refine jr_aload_n (pc := 50) C L dX8_costOf_50 rfl rfl ?_
  refine jr_iconst (pc := 51) C dX8_costOf_51 ?_
  refine jr_iconst (pc := 52) C dX8_costOf_52 ?_
  refine jr_aload_n (pc := 53) C L dX8_costOf_53 rfl rfl ?_
  obtain ⟨v37, hv37, hyp⟩ := jbind hyp
  refine jr_getR (pc := 54) C S lf_X8_12 rfl hv37 dX8_costOf_54 ?_
  refine jr_aload_n (pc := 57) C L dX8_costOf_57 rfl rfl ?_
  obtain ⟨v38, hv38, hyp⟩ := jbind hyp
  refine jr_getR (pc := 58) C S lf_X8_18 rfl hv38 dX8_costOf_58 ?_
  obtain ⟨u39, hu39, hyp⟩ := jbind hyp
  obtain ⟨q40, hq40, hyp⟩ := jbind hyp
  refine jr_callV_N (pc := 61) C S L (As := [jI 0, jI 0, jR B v37.toNat, jR B v38.toNat]) (rest := []) (cd_X8_flow 8 a0 0 0 v37.toNat v38.toNat (show jIn 0 from ⟨by decide, by decide⟩) (show jIn 0 from ⟨by decide, by decide⟩) q35 q40 hq40) mv_X8_flow ml_X8_70 rfl (jck_spec hu39) (by decide) rfl rfl rfl (Nat.le_of_ble_eq_true rfl) ⟨Nat.le_refl 0, Nat.le_refl 0⟩ dX8_costOf_61 (fun p41 H locs S => ?_)
  refine jr_aload_n (pc := 64) C L dX8_costOf_64 rfl rfl ?_
  obtain ⟨v42, hv42, hyp⟩ := jbind hyp
  refine jr_getR (pc := 65) C S lf_X8_18 rfl hv42 dX8_costOf_65 ?_
  refine jr_iconst (pc := 68) C dX8_costOf_68 ?_
  obtain ⟨u43, hu43, hyp⟩ := jbind hyp
  obtain ⟨q44, hq44, hyp⟩ := jbind hyp
  refine jr_callV_I (pc := 69) C S L (As := [jI 0]) (rest := []) (c_X4_costAt (m0 := q40) (show jIn 0 from ⟨by decide, by decide⟩) hq44) mv_X4_costAt ml_X8_74 rfl (jck_spec hu43) (by decide) rfl rfl rfl (Nat.le_of_ble_eq_true rfl) ⟨Nat.le_refl 0, Nat.le_refl 0⟩ dX8_costOf_69 (fun p45 H locs S => ?_)
  refine jr_istore (pc := 72) C L dX8_costOf_72 (Nat.le_of_ble_eq_true rfl) (fun ls L => ?_)
  have L : jL ls [some (jR B a0), some (jR B a1), some (jI x2), some (jI x3), some (jI x4), some (jI q44), none] := L
  refine jr_iconst (pc := 74) C dX8_costOf_74 ?_
  refine jr_istore (pc := 75) C L dX8_costOf_75 (Nat.le_of_ble_eq_true rfl) (fun ls L => ?_)
  have L : jL ls [some (jR B a0), some (jR B a1), some (jI x2), some (jI x3), some (jI x4), some (jI q44), some (jI 1)] := L
  exact t_X8_costOf_l77 C   N a0 x4 q44 1 h_x4 p45 (show jIn 1 from ⟨by decide, by decide⟩) q40 _ _ _ S (L.sub (jsub_s (jsub_n (jsub_n (jsub_n (jsub_s (jsub_s (jsub_s jsub_0)))))))) hyp
theorem c_X8_costOf {l : Launch} {D : va_G} {cy : Nat → ClassId} {B sz : Nat} {sh : jm_S} {res : (Int × jm_M)} {N : Nat} {m : jm_M} {a0 : Nat} {a1 : Nat} {x2 : Int} (h_x2 : jIn x2) {x3 : Int} (h_x3 : jIn x3) {x4 : Int} (h_x4 : jIn x4) (hyp : f_X8_costOf N sh a0 a1 x2 x3 x4 m = some res) : jCt l D cy B sz sh 28 yX8_costOf cX8_costOf 7 (some .int) [jR B a0, jR B a1, jI x2, jI x3, jI x4] m (some (jI res.1)) res.2 (jIn res.1) :=
  jc_of (by decide) (fun v h => by simp only [List.mem_cons, List.not_mem_nil, or_false] at h; rcases h with rfl | rfl | rfl | rfl | rfl <;> first | rfl | exact jR_cat _ _) (Nat.le_of_ble_eq_true rfl) (fun C S L => t_X8_costOf_e C  h_x2 h_x3 h_x4 S L hyp)
set_option maxHeartbeats 4000000 in
set_option maxRecDepth 100000 in
theorem t_X8_ends_e {p : Program} {l : Launch} {e : Env} {s : State} {mi : MethodId} {args : Array Value} {below : List Frame} {meth : Method} {c : Code} {D : va_G} {cy : Nat → ClassId} {B sz : Nat} {sh : jm_S} {res : Int} {m0 : jm_M} (C : jCx p s mi args meth c cX8_ends 1 RX8 (some .int) D cy) {a0 : Nat} {H : Heap} {locs : List Loc} {ls : Array Slot} (S : jHs D cy B sz sh (jA B sz) s.heap H locs m0) (L : jL ls [some (jR B a0)]) (hyp : f_X8_ends sh a0 m0 = some res) : W p l e (jrm 0 0 0) s mi args below meth c H locs 0 0 (MQ below (jQc D cy B sz sh m0 (some (jI res)) (jIn res)) args s 0 0 (jA B sz)) (F0 mi 0 ls []) := by
  unfold f_X8_ends at hyp
  refine jr_aload_n (pc := 0) C L dX8_ends_0 rfl rfl ?_
  obtain ⟨v1, hv1, hyp⟩ := jbind hyp
  refine jr_getR (pc := 1) C S lf_X8_18 rfl hv1 dX8_ends_1 ?_
  obtain ⟨v2, hv2, hyp⟩ := jbind hyp
  have iv2 := jrf_in S hv2
  refine jr_getI (pc := 4) C S lf_X8_78 rfl hv2 dX8_ends_4 ?_
  cases hyp
  exact jr_iret C S iv2 dX8_ends_7
theorem c_X8_ends {l : Launch} {D : va_G} {cy : Nat → ClassId} {B sz : Nat} {sh : jm_S} {res : Int} {m0 : jm_M} {a0 : Nat} (hyp : f_X8_ends sh a0 m0 = some res) : jCt l D cy B sz sh 0 yX8_ends cX8_ends 1 (some .int) [jR B a0] m0 (some (jI res)) m0 (jIn res) :=
  jc_of (by decide) (fun v h => by rw [List.mem_singleton.mp h]; first | rfl | exact jR_cat _ _) (Nat.le_of_ble_eq_true rfl) (fun C S L => t_X8_ends_e C   S L hyp)
set_option maxHeartbeats 4000000 in
set_option maxRecDepth 100000 in
theorem t_X11_mayBeHeld_b2 {p : Program} {l : Launch} {e : Env} {s : State} {mi : MethodId} {args : Array Value} {below : List Frame} {meth : Method} {c : Code} {D : va_G} {cy : Nat → ClassId} {B sz : Nat} {sh : jm_S} {res : Int} {N : Nat} {m0 : jm_M} {k2 : Int → Int → Int → Int → Option Int} (C : jCx p s mi args meth c cX11_mayBeHeld 4 RX11 (some .boolean) D cy) (K2 : ∀ (x0 : Int) (x1 : Int) (x2 : Int) (x3 : Int) , jIn x0 → jIn x1 → jIn x2 → jIn x3 → ∀ (H : Heap) (locs : List Loc) (ls : Array Slot), jHs D cy B sz sh (jA B sz) s.heap H locs m0 → jL ls [some (jI x0), some (jI x1), some (jI x2), some (jI x3)] → k2 x0 x1 x2 x3 = some res → W p l e (jrm 1 0 0) s mi args below meth c H locs 0 0 (MQ below (jQc D cy B sz sh m0 (some (jI res)) (jIn res)) args s 0 0 (jA B sz)) (F0 mi 2 ls [])) {x0 : Int} (h_x0 : jIn x0) {x1 : Int} (h_x1 : jIn x1) {x2 : Int} (h_x2 : jIn x2) {x3 : Int} (h_x3 : jIn x3) {H : Heap} {locs : List Loc} {ls : Array Slot} (S : jHs D cy B sz sh (jA B sz) s.heap H locs m0) (L : jL ls [some (jI x0), some (jI x1), some (jI x2), some (jI x3)]) (hyp : f_X11_mayBeHeld_b2 N k2 x0 x1 x2 x3 = some res) : W p l e (jrm 1 0 0) s mi args below meth c H locs 0 0 (MQ below (jQc D cy B sz sh m0 (some (jI res)) (jIn res)) args s 0 0 (jA B sz)) (F0 mi 2 ls []) := by
  unfold f_X11_mayBeHeld_b2 at hyp
  refine jr_iload_n (pc := 2) C L dX11_mayBeHeld_2 rfl rfl ?_
  refine jr_iload_n (pc := 3) C L dX11_mayBeHeld_3 rfl rfl ?_
  refine jr_icmp_ge (pc := 4) C h_x3 h_x0 (tgt := 29) dX11_mayBeHeld_4 (by decide) (fun c1 => ?_) (fun c1 => ?_)
  · have hyp := (if_pos c1).symm.trans hyp
    refine jr_iload_n (pc := 7) C L dX11_mayBeHeld_7 rfl rfl ?_
    refine jr_iload_n (pc := 8) C L dX11_mayBeHeld_8 rfl rfl ?_
    refine jr_iload_n (pc := 9) C L dX11_mayBeHeld_9 rfl rfl ?_
    obtain ⟨q2, hq2, hyp⟩ := jbind hyp
    refine jr_callS_I (pc := 10) C S L (As := [jI x3, jI x0]) (rest := [jI x2]) (c_X11_linesOfSet (m0 := m0) h_x3 h_x0 hq2) ms_X11_linesOfSet ml_X11_253 (by decide) rfl rfl rfl (Nat.le_of_ble_eq_true rfl) ⟨Nat.le_refl 0, Nat.le_refl 0⟩ dX11_mayBeHeld_10 (fun p3 H locs S => ?_)
    refine jr_iand (pc := 13) C dX11_mayBeHeld_13 ?_
    obtain ⟨q4, hq4, hyp⟩ := jbind hyp
    refine jr_callS_I (pc := 14) C S L (As := [jI (jand x2 q2)]) (rest := []) (c_J6_bitCount_0f7a4 (m0 := m0) (jIn_and _ _) hq4) ms_J6_bitCount_0f7a4 ml_X11_256 (by decide) rfl rfl rfl (Nat.le_of_ble_eq_true rfl) ⟨Nat.le_refl 0, Nat.le_refl 0⟩ dX11_mayBeHeld_14 (fun p5 H locs S => ?_)
    refine jr_iload_n (pc := 17) C L dX11_mayBeHeld_17 rfl rfl ?_
    refine jr_icmp_le (pc := 18) C p5 h_x1 (tgt := 23) dX11_mayBeHeld_18 (by decide) (fun c6 => ?_) (fun c6 => ?_)
    · have hyp := (if_pos c6).symm.trans hyp
      refine jr_iconst (pc := 21) C dX11_mayBeHeld_21 ?_
      cases hyp
      exact jr_zret C S (show jIn 0 from ⟨by decide, by decide⟩) rfl dX11_mayBeHeld_22
    · have hyp := (if_neg c6).symm.trans hyp
      refine jr_iinc (pc := 23) C L dX11_mayBeHeld_23 rfl (Nat.le_of_ble_eq_true rfl) (fun ls L => ?_)
      have L : jL ls [some (jI x0), some (jI x1), some (jI x2), some (jI (jw (x3 + 1)))] := L
      refine jr_goto (pc := 26) C (tgt := 2) dX11_mayBeHeld_26 (by decide) ?_
      exact K2 x0 x1 x2 (jw (x3 + 1)) h_x0 h_x1 h_x2 (jIn_w _)  _ _ _ S (L.sub (jsub_s (jsub_s (jsub_s (jsub_s jsub_0))))) hyp
  · have hyp := (if_neg c1).symm.trans hyp
    refine jr_iconst (pc := 29) C dX11_mayBeHeld_29 ?_
    cases hyp
    exact jr_zret C S (show jIn 1 from ⟨by decide, by decide⟩) rfl dX11_mayBeHeld_30
theorem t_X11_mayBeHeld_l2 {p : Program} {l : Launch} {e : Env} {s : State} {mi : MethodId} {args : Array Value} {below : List Frame} {meth : Method} {c : Code} {D : va_G} {cy : Nat → ClassId} {B sz : Nat} {sh : jm_S} {res : Int} {N : Nat} {m0 : jm_M} (C : jCx p s mi args meth c cX11_mayBeHeld 4 RX11 (some .boolean) D cy) : ∀ (n : Nat) (x0 : Int) (x1 : Int) (x2 : Int) (x3 : Int), jIn x0 → jIn x1 → jIn x2 → jIn x3 → ∀ (H : Heap) (locs : List Loc) (ls : Array Slot), jHs D cy B sz sh (jA B sz) s.heap H locs m0 → jL ls [some (jI x0), some (jI x1), some (jI x2), some (jI x3)] → f_X11_mayBeHeld_l2 N n x0 x1 x2 x3 = some res → W p l e (jrm 1 0 0) s mi args below meth c H locs 0 0 (MQ below (jQc D cy B sz sh m0 (some (jI res)) (jIn res)) args s 0 0 (jA B sz)) (F0 mi 2 ls []) := by
  intro n
  induction n with
  | zero => intro x0 x1 x2 x3 h_x0 h_x1 h_x2 h_x3 H locs ls S L hyp; cases hyp
  | succ n ih => intro x0 x1 x2 x3 h_x0 h_x1 h_x2 h_x3 H locs ls S L hyp; exact t_X11_mayBeHeld_b2 (N := N) C  ih h_x0 h_x1 h_x2 h_x3 S L hyp
set_option maxHeartbeats 4000000 in
set_option maxRecDepth 100000 in
theorem t_X11_mayBeHeld_e {p : Program} {l : Launch} {e : Env} {s : State} {mi : MethodId} {args : Array Value} {below : List Frame} {meth : Method} {c : Code} {D : va_G} {cy : Nat → ClassId} {B sz : Nat} {sh : jm_S} {res : Int} {N : Nat} {m0 : jm_M} (C : jCx p s mi args meth c cX11_mayBeHeld 4 RX11 (some .boolean) D cy) {x0 : Int} (h_x0 : jIn x0) {x1 : Int} (h_x1 : jIn x1) {x2 : Int} (h_x2 : jIn x2) {H : Heap} {locs : List Loc} {ls : Array Slot} (S : jHs D cy B sz sh (jA B sz) s.heap H locs m0) (L : jL ls [some (jI x0), some (jI x1), some (jI x2), none]) (hyp : f_X11_mayBeHeld N x0 x1 x2 = some res) : W p l e (jrm 1 0 0) s mi args below meth c H locs 0 0 (MQ below (jQc D cy B sz sh m0 (some (jI res)) (jIn res)) args s 0 0 (jA B sz)) (F0 mi 0 ls []) := by
  unfold f_X11_mayBeHeld at hyp
  refine jr_iconst (pc := 0) C dX11_mayBeHeld_0 ?_
  refine jr_istore_n (pc := 1) C L dX11_mayBeHeld_1 rfl (Nat.le_of_ble_eq_true rfl) (fun ls L => ?_)
  have L : jL ls [some (jI x0), some (jI x1), some (jI x2), some (jI 0)] := L
  exact t_X11_mayBeHeld_l2 C   N x0 x1 x2 0 h_x0 h_x1 h_x2 (show jIn 0 from ⟨by decide, by decide⟩)  _ _ _ S (L.sub (jsub_s (jsub_s (jsub_s (jsub_s jsub_0))))) hyp
theorem c_X11_mayBeHeld {l : Launch} {D : va_G} {cy : Nat → ClassId} {B sz : Nat} {sh : jm_S} {res : Int} {N : Nat} {m0 : jm_M} {x0 : Int} (h_x0 : jIn x0) {x1 : Int} (h_x1 : jIn x1) {x2 : Int} (h_x2 : jIn x2) (hyp : f_X11_mayBeHeld N x0 x1 x2 = some res) : jCt l D cy B sz sh 1 yX11_mayBeHeld cX11_mayBeHeld 4 (some .boolean) [jI x0, jI x1, jI x2] m0 (some (jI res)) m0 (jIn res) :=
  jc_of (by decide) (fun v h => by simp only [List.mem_cons, List.not_mem_nil, or_false] at h; rcases h with rfl | rfl | rfl <;> first | rfl | exact jR_cat _ _) (Nat.le_of_ble_eq_true rfl) (fun C S L => t_X11_mayBeHeld_e C  h_x0 h_x1 h_x2 S L hyp)
set_option maxHeartbeats 4000000 in
set_option maxRecDepth 100000 in
theorem t_X8_compare_b40 {p : Program} {l : Launch} {e : Env} {s : State} {mi : MethodId} {args : Array Value} {below : List Frame} {meth : Method} {c : Code} {D : va_G} {cy : Nat → ClassId} {B sz : Nat} {sh : jm_S} {res : jm_M} (C : jCx p s mi args meth c cX8_compare 4 RX8 none D cy) {a0 : Nat} {x1 : Int} (h_x1 : jIn x1) {x2 : Int} (h_x2 : jIn x2) {m : jm_M} {H : Heap} {locs : List Loc} {ls : Array Slot} (S : jHs D cy B sz sh (jA B sz) s.heap H locs m) (L : jL ls [some (jR B a0), some (jI x1), some (jI x2), none]) (hyp : f_X8_compare_b40 sh a0 x1 x2 m = some res) : W p l e (jrm 1 0 0) s mi args below meth c H locs 0 0 (MQ below (jQc D cy B sz sh res none True) args s 0 0 (jA B sz)) (F0 mi 40 ls []) := by
  unfold f_X8_compare_b40 at hyp
  refine jr_aload_n (pc := 40) C L dX8_compare_40 rfl rfl ?_
  refine jr_iload_n (pc := 41) C L dX8_compare_41 rfl rfl ?_
  obtain ⟨m1, hm1, hyp⟩ := jbind hyp
  refine jr_putI (pc := 42) C S lf_X8_93 fp_X8_0 rfl h_x1 hm1 dX8_compare_42 (fun H locs S => ?_)
  refine jr_aload_n (pc := 45) C L dX8_compare_45 rfl rfl ?_
  refine jr_iload_n (pc := 46) C L dX8_compare_46 rfl rfl ?_
  obtain ⟨m2, hm2, hyp⟩ := jbind hyp
  refine jr_putI (pc := 47) C S lf_X8_100 fp_X8_1 rfl h_x2 hm2 dX8_compare_47 (fun H locs S => ?_)
  cases hyp
  exact jr_vret C S trivial dX8_compare_50
set_option maxHeartbeats 4000000 in
set_option maxRecDepth 100000 in
theorem t_X8_compare_b19 {p : Program} {l : Launch} {e : Env} {s : State} {mi : MethodId} {args : Array Value} {below : List Frame} {meth : Method} {c : Code} {D : va_G} {cy : Nat → ClassId} {B sz : Nat} {sh : jm_S} {res : jm_M} (C : jCx p s mi args meth c cX8_compare 4 RX8 none D cy) {a0 : Nat} {x1 : Int} (h_x1 : jIn x1) {x2 : Int} (h_x2 : jIn x2) {s0 : Int} (h_s0 : jIn s0) {m : jm_M} {H : Heap} {locs : List Loc} {ls : Array Slot} (S : jHs D cy B sz sh (jA B sz) s.heap H locs m) (L : jL ls [some (jR B a0), some (jI x1), some (jI x2), none]) (hyp : f_X8_compare_b19 sh a0 x1 x2 s0 m = some res) : W p l e (jrm 1 0 0) s mi args below meth c H locs 0 0 (MQ below (jQc D cy B sz sh res none True) args s 0 0 (jA B sz)) (F0 mi 19 ls [jI s0]) := by
  unfold f_X8_compare_b19 at hyp
  refine jr_istore_n (pc := 19) C L dX8_compare_19 rfl (Nat.le_of_ble_eq_true rfl) (fun ls L => ?_)
  have L : jL ls [some (jR B a0), some (jI x1), some (jI x2), some (jI s0)] := L
  refine jr_iload_n (pc := 20) C L dX8_compare_20 rfl rfl ?_
  refine jr_aload_n (pc := 21) C L dX8_compare_21 rfl rfl ?_
  obtain ⟨v3, hv3, hyp⟩ := jbind hyp
  have iv3 := jrf_in S hv3
  refine jr_getI (pc := 22) C S lf_X8_100 rfl hv3 dX8_compare_22 ?_
  refine jr_icmp_lt (pc := 25) C h_x2 iv3 (tgt := 40) dX8_compare_25 (by decide) (fun c4 => ?_) (fun c4 => ?_)
  · have hyp := (if_pos c4).symm.trans hyp
    exact t_X8_compare_b40 C   h_x1 h_x2 S (L.sub (jsub_s (jsub_s (jsub_s (jsub_n jsub_0))))) hyp
  · have hyp := (if_neg c4).symm.trans hyp
    refine jr_iload_n (pc := 28) C L dX8_compare_28 rfl rfl ?_
    refine jr_aload_n (pc := 29) C L dX8_compare_29 rfl rfl ?_
    obtain ⟨v5, hv5, hyp⟩ := jbind hyp
    have iv5 := jrf_in S hv5
    refine jr_getI (pc := 30) C S lf_X8_100 rfl hv5 dX8_compare_30 ?_
    refine jr_icmp_ne (pc := 33) C h_x2 iv5 (tgt := 50) dX8_compare_33 (by decide) (fun c6 => ?_) (fun c6 => ?_)
    · have hyp := (if_pos c6).symm.trans hyp
      refine jr_iload_n (pc := 36) C L dX8_compare_36 rfl rfl ?_
      refine jr_if_eq (pc := 37) C h_s0 (tgt := 50) dX8_compare_37 (by decide) (fun c7 => ?_) (fun c7 => ?_)
      · have hyp := (if_pos c7).symm.trans hyp
        cases hyp
        exact jr_vret C S trivial dX8_compare_50
      · have hyp := (if_neg c7).symm.trans hyp
        exact t_X8_compare_b40 C   h_x1 h_x2 S (L.sub (jsub_s (jsub_s (jsub_s (jsub_n jsub_0))))) hyp
    · have hyp := (if_neg c6).symm.trans hyp
      cases hyp
      exact jr_vret C S trivial dX8_compare_50
set_option maxHeartbeats 4000000 in
set_option maxRecDepth 100000 in
theorem t_X8_compare_e {p : Program} {l : Launch} {e : Env} {s : State} {mi : MethodId} {args : Array Value} {below : List Frame} {meth : Method} {c : Code} {D : va_G} {cy : Nat → ClassId} {B sz : Nat} {sh : jm_S} {res : jm_M} (C : jCx p s mi args meth c cX8_compare 4 RX8 none D cy) {a0 : Nat} {x1 : Int} (h_x1 : jIn x1) {x2 : Int} (h_x2 : jIn x2) {m : jm_M} {H : Heap} {locs : List Loc} {ls : Array Slot} (S : jHs D cy B sz sh (jA B sz) s.heap H locs m) (L : jL ls [some (jR B a0), some (jI x1), some (jI x2), none]) (hyp : f_X8_compare sh a0 x1 x2 m = some res) : W p l e (jrm 1 0 0) s mi args below meth c H locs 0 0 (MQ below (jQc D cy B sz sh res none True) args s 0 0 (jA B sz)) (F0 mi 0 ls []) := by
  unfold f_X8_compare at hyp
  refine jr_iload_n (pc := 0) C L dX8_compare_0 rfl rfl ?_
  obtain ⟨q8, hq8, hyp⟩ := jbind hyp
  refine jr_callS_I (pc := 1) C S L (As := [jI x1]) (rest := []) (c_J6_bitCount_0f7a4 (m0 := m) h_x1 hq8) ms_J6_bitCount_0f7a4 ml_X8_111 (by decide) rfl rfl rfl (Nat.le_of_ble_eq_true rfl) ⟨Nat.le_refl 0, Nat.le_refl 0⟩ dX8_compare_1 (fun p9 H locs S => ?_)
  refine jr_aload_n (pc := 4) C L dX8_compare_4 rfl rfl ?_
  obtain ⟨v10, hv10, hyp⟩ := jbind hyp
  have iv10 := jrf_in S hv10
  refine jr_getI (pc := 5) C S lf_X8_93 rfl hv10 dX8_compare_5 ?_
  obtain ⟨q11, hq11, hyp⟩ := jbind hyp
  refine jr_callS_I (pc := 8) C S L (As := [jI v10]) (rest := [jI q8]) (c_J6_bitCount_0f7a4 (m0 := m) iv10 hq11) ms_J6_bitCount_0f7a4 ml_X8_111 (by decide) rfl rfl rfl (Nat.le_of_ble_eq_true rfl) ⟨Nat.le_refl 0, Nat.le_refl 0⟩ dX8_compare_8 (fun p12 H locs S => ?_)
  refine jr_icmp_ge (pc := 11) C p9 p12 (tgt := 18) dX8_compare_11 (by decide) (fun c13 => ?_) (fun c13 => ?_)
  · have hyp := (if_pos c13).symm.trans hyp
    refine jr_iconst (pc := 14) C dX8_compare_14 ?_
    refine jr_goto (pc := 15) C (tgt := 19) dX8_compare_15 (by decide) ?_
    exact t_X8_compare_b19 C   h_x1 h_x2 (show jIn 1 from ⟨by decide, by decide⟩) S (L.sub (jsub_s (jsub_s (jsub_s (jsub_n jsub_0))))) hyp
  · have hyp := (if_neg c13).symm.trans hyp
    refine jr_iconst (pc := 18) C dX8_compare_18 ?_
    exact t_X8_compare_b19 C   h_x1 h_x2 (show jIn 0 from ⟨by decide, by decide⟩) S (L.sub (jsub_s (jsub_s (jsub_s (jsub_n jsub_0))))) hyp
theorem c_X8_compare {l : Launch} {D : va_G} {cy : Nat → ClassId} {B sz : Nat} {sh : jm_S} {res : jm_M} {m : jm_M} {a0 : Nat} {x1 : Int} (h_x1 : jIn x1) {x2 : Int} (h_x2 : jIn x2) (hyp : f_X8_compare sh a0 x1 x2 m = some res) : jCt l D cy B sz sh 1 yX8_compare cX8_compare 4 none [jR B a0, jI x1, jI x2] m none res True :=
  jc_of (by decide) (fun v h => by simp only [List.mem_cons, List.not_mem_nil, or_false] at h; rcases h with rfl | rfl | rfl <;> first | rfl | exact jR_cat _ _) (Nat.le_of_ble_eq_true rfl) (fun C S L => t_X8_compare_e C  h_x1 h_x2 S L hyp)
set_option maxHeartbeats 4000000 in
set_option maxRecDepth 100000 in
theorem t_X8_holdFast_b90 {p : Program} {l : Launch} {e : Env} {s : State} {mi : MethodId} {args : Array Value} {below : List Frame} {meth : Method} {c : Code} {D : va_G} {cy : Nat → ClassId} {B sz : Nat} {sh : jm_S} {res : jm_M} {N : Nat} {k34 : Nat → Nat → Int → Int → Int → jm_M → Option jm_M} (C : jCx p s mi args meth c cX8_holdFast 5 RX8 none D cy) (K34 : ∀ (a0 : Nat) (a1 : Nat) (x2 : Int) (x3 : Int) (x4 : Int) , jIn x2 → jIn x3 → jIn x4 → ∀ (m : jm_M) (H : Heap) (locs : List Loc) (ls : Array Slot), jHs D cy B sz sh (jA B sz) s.heap H locs m → jL ls [some (jR B a0), some (jR B a1), some (jI x2), some (jI x3), some (jI x4)] → k34 a0 a1 x2 x3 x4 m = some res → W p l e (jrm 29 0 0) s mi args below meth c H locs 0 0 (MQ below (jQc D cy B sz sh res none True) args s 0 0 (jA B sz)) (F0 mi 34 ls [])) {a0 : Nat} {a1 : Nat} {x2 : Int} (h_x2 : jIn x2) {x3 : Int} (h_x3 : jIn x3) {x4 : Int} (h_x4 : jIn x4) {m : jm_M} {H : Heap} {locs : List Loc} {ls : Array Slot} (S : jHs D cy B sz sh (jA B sz) s.heap H locs m) (L : jL ls [some (jR B a0), some (jR B a1), some (jI x2), some (jI x3), some (jI x4)]) (hyp : f_X8_holdFast_b90 N sh k34 a0 a1 x2 x3 x4 m = some res) : W p l e (jrm 29 0 0) s mi args below meth c H locs 0 0 (MQ below (jQc D cy B sz sh res none True) args s 0 0 (jA B sz)) (F0 mi 90 ls []) := by
  unfold f_X8_holdFast_b90 at hyp
  refine jr_iinc (pc := 90) C L dX8_holdFast_90 rfl (Nat.le_of_ble_eq_true rfl) (fun ls L => ?_)
  have L : jL ls [some (jR B a0), some (jR B a1), some (jI x2), some (jI x3), some (jI (jw (x4 + 1)))] := L
  refine jr_goto (pc := 93) C (tgt := 34) dX8_holdFast_93 (by decide) ?_
  exact K34 a0 a1 x2 x3 (jw (x4 + 1)) h_x2 h_x3 (jIn_w _) m _ _ _ S (L.sub (jsub_s (jsub_s (jsub_s (jsub_s (jsub_s jsub_0)))))) hyp
set_option maxHeartbeats 4000000 in
set_option maxRecDepth 100000 in
theorem t_X8_holdFast_b34 {p : Program} {l : Launch} {e : Env} {s : State} {mi : MethodId} {args : Array Value} {below : List Frame} {meth : Method} {c : Code} {D : va_G} {cy : Nat → ClassId} {B sz : Nat} {sh : jm_S} {res : jm_M} {N : Nat} {k34 : Nat → Nat → Int → Int → Int → jm_M → Option jm_M} (C : jCx p s mi args meth c cX8_holdFast 5 RX8 none D cy) (K34 : ∀ (a0 : Nat) (a1 : Nat) (x2 : Int) (x3 : Int) (x4 : Int) , jIn x2 → jIn x3 → jIn x4 → ∀ (m : jm_M) (H : Heap) (locs : List Loc) (ls : Array Slot), jHs D cy B sz sh (jA B sz) s.heap H locs m → jL ls [some (jR B a0), some (jR B a1), some (jI x2), some (jI x3), some (jI x4)] → k34 a0 a1 x2 x3 x4 m = some res → W p l e (jrm 29 0 0) s mi args below meth c H locs 0 0 (MQ below (jQc D cy B sz sh res none True) args s 0 0 (jA B sz)) (F0 mi 34 ls [])) {a0 : Nat} {a1 : Nat} {x2 : Int} (h_x2 : jIn x2) {x3 : Int} (h_x3 : jIn x3) {x4 : Int} (h_x4 : jIn x4) {m : jm_M} {H : Heap} {locs : List Loc} {ls : Array Slot} (S : jHs D cy B sz sh (jA B sz) s.heap H locs m) (L : jL ls [some (jR B a0), some (jR B a1), some (jI x2), some (jI x3), some (jI x4)]) (hyp : f_X8_holdFast_b34 N sh k34 a0 a1 x2 x3 x4 m = some res) : W p l e (jrm 29 0 0) s mi args below meth c H locs 0 0 (MQ below (jQc D cy B sz sh res none True) args s 0 0 (jA B sz)) (F0 mi 34 ls []) := by
  unfold f_X8_holdFast_b34 at hyp
  refine jr_iload (pc := 34) C L dX8_holdFast_34 rfl ?_
  refine jr_sipush (pc := 36) C dX8_holdFast_36 (by decide) ?_
  refine jr_icmp_gt (pc := 39) C h_x4 (show jIn 255 from ⟨by decide, by decide⟩) (tgt := 96) dX8_holdFast_39 (by decide) (fun c1 => ?_) (fun c1 => ?_)
  · have hyp := (if_pos c1).symm.trans hyp
    cases hyp
    exact jr_vret C S trivial dX8_holdFast_96
  · have hyp := (if_neg c1).symm.trans hyp
    refine jr_iload (pc := 42) C L dX8_holdFast_42 rfl ?_
    refine jr_iload_n (pc := 44) C L dX8_holdFast_44 rfl rfl ?_
    refine jr_iconst (pc := 45) C dX8_holdFast_45 ?_
    refine jr_ixor (pc := 46) C dX8_holdFast_46 ?_
    refine jr_iand (pc := 47) C dX8_holdFast_47 ?_
    refine jr_if_ne (pc := 48) C (jIn_and _ _) (tgt := 90) dX8_holdFast_48 (by decide) (fun c2 => ?_) (fun c2 => ?_)
    · have hyp := (if_pos c2).symm.trans hyp
      refine jr_aload_n (pc := 51) C L dX8_holdFast_51 rfl rfl ?_
      obtain ⟨v3, hv3, hyp⟩ := jbind hyp
      refine jr_getR (pc := 52) C S lf_X8_25 rfl hv3 dX8_holdFast_52 ?_
      refine jr_iconst (pc := 55) C dX8_holdFast_55 ?_
      obtain ⟨u4, hu4, hyp⟩ := jbind hyp
      obtain ⟨q5, hq5, hyp⟩ := jbind hyp
      refine jr_callV_I (pc := 56) C S L (As := [jI 0]) (rest := []) (c_X1_setting (m0 := m) (show jIn 0 from ⟨by decide, by decide⟩) hq5) mv_X1_setting ml_X8_90 rfl (jck_spec hu4) (by decide) rfl rfl rfl (Nat.le_of_ble_eq_true rfl) ⟨Nat.le_refl 0, Nat.le_refl 0⟩ dX8_holdFast_56 (fun p6 H locs S => ?_)
      refine jr_aload_n (pc := 59) C L dX8_holdFast_59 rfl rfl ?_
      obtain ⟨v7, hv7, hyp⟩ := jbind hyp
      refine jr_getR (pc := 60) C S lf_X8_25 rfl hv7 dX8_holdFast_60 ?_
      refine jr_iconst (pc := 63) C dX8_holdFast_63 ?_
      obtain ⟨u8, hu8, hyp⟩ := jbind hyp
      obtain ⟨q9, hq9, hyp⟩ := jbind hyp
      refine jr_callV_I (pc := 64) C S L (As := [jI 1]) (rest := [jI q5]) (c_X1_setting (m0 := m) (show jIn 1 from ⟨by decide, by decide⟩) hq9) mv_X1_setting ml_X8_90 rfl (jck_spec hu8) (by decide) rfl rfl rfl (Nat.le_of_ble_eq_true rfl) ⟨Nat.le_refl 0, Nat.le_refl 0⟩ dX8_holdFast_64 (fun p10 H locs S => ?_)
      refine jr_iload (pc := 67) C L dX8_holdFast_67 rfl ?_
      obtain ⟨q11, hq11, hyp⟩ := jbind hyp
      refine jr_callSN_I (pc := 69) C S L (As := [jI q5, jI q9, jI x4]) (rest := []) (c_X11_mayBeHeld (m0 := m) p6 p10 h_x4 hq11) ms_X11_mayBeHeld mn_X8_103 (by decide) rfl rfl rfl (Nat.le_of_ble_eq_true rfl) ⟨Nat.le_refl 0, Nat.le_refl 0⟩ dX8_holdFast_69 (fun p12 H locs S => ?_)
      refine jr_if_eq (pc := 72) C p12 (tgt := 90) dX8_holdFast_72 (by decide) (fun c13 => ?_) (fun c13 => ?_)
      · have hyp := (if_pos c13).symm.trans hyp
        exact t_X8_holdFast_b90 C  K34 h_x2 h_x3 h_x4 S (L.sub (jsub_s (jsub_s (jsub_s (jsub_s (jsub_s jsub_0)))))) hyp
      · have hyp := (if_neg c13).symm.trans hyp
        refine jr_aload_n (pc := 75) C L dX8_holdFast_75 rfl rfl ?_
        refine jr_iload (pc := 76) C L dX8_holdFast_76 rfl ?_
        refine jr_aload_n (pc := 78) C L dX8_holdFast_78 rfl rfl ?_
        refine jr_aload_n (pc := 79) C L dX8_holdFast_79 rfl rfl ?_
        refine jr_iload_n (pc := 80) C L dX8_holdFast_80 rfl rfl ?_
        refine jr_iload (pc := 81) C L dX8_holdFast_81 rfl ?_
        refine jr_iconst (pc := 83) C dX8_holdFast_83 ?_
        obtain ⟨u14, hu14, hyp⟩ := jbind hyp
        obtain ⟨q15, hq15, hyp⟩ := jbind hyp
        refine jr_callV_I (pc := 84) C S L (As := [jR B a1, jI x3, jI x4, jI 1]) (rest := [jI x4, jR B a0]) (c_X8_costOf h_x3 h_x4 (show jIn 1 from ⟨by decide, by decide⟩) hq15) mv_X8_costOf ml_X8_96 rfl (jck_spec hu14) (by decide) rfl rfl rfl (by simp [jR_cat, jI_cat]) ⟨Nat.le_refl 0, Nat.le_refl 0⟩ dX8_holdFast_84 (fun p16 H locs S => ?_)
        obtain ⟨u17, hu17, hyp⟩ := jbind hyp
        obtain ⟨q18, hq18, hyp⟩ := jbind hyp
        refine jr_callV_N (pc := 87) C S L (As := [jI x4, jI q15.1]) (rest := []) (c_X8_compare h_x4 p16 hq18) mv_X8_compare ml_X8_107 rfl (jck_spec hu17) (by decide) rfl rfl rfl (Nat.le_of_ble_eq_true rfl) ⟨Nat.le_refl 0, Nat.le_refl 0⟩ dX8_holdFast_87 (fun p19 H locs S => ?_)
        exact t_X8_holdFast_b90 C  K34 h_x2 h_x3 h_x4 S (L.sub (jsub_s (jsub_s (jsub_s (jsub_s (jsub_s jsub_0)))))) hyp
    · have hyp := (if_neg c2).symm.trans hyp
      exact t_X8_holdFast_b90 C  K34 h_x2 h_x3 h_x4 S (L.sub (jsub_s (jsub_s (jsub_s (jsub_s (jsub_s jsub_0)))))) hyp
theorem t_X8_holdFast_l34 {p : Program} {l : Launch} {e : Env} {s : State} {mi : MethodId} {args : Array Value} {below : List Frame} {meth : Method} {c : Code} {D : va_G} {cy : Nat → ClassId} {B sz : Nat} {sh : jm_S} {res : jm_M} {N : Nat} (C : jCx p s mi args meth c cX8_holdFast 5 RX8 none D cy) : ∀ (n : Nat) (a0 : Nat) (a1 : Nat) (x2 : Int) (x3 : Int) (x4 : Int), jIn x2 → jIn x3 → jIn x4 → ∀ (m : jm_M) (H : Heap) (locs : List Loc) (ls : Array Slot), jHs D cy B sz sh (jA B sz) s.heap H locs m → jL ls [some (jR B a0), some (jR B a1), some (jI x2), some (jI x3), some (jI x4)] → f_X8_holdFast_l34 N sh n a0 a1 x2 x3 x4 m = some res → W p l e (jrm 29 0 0) s mi args below meth c H locs 0 0 (MQ below (jQc D cy B sz sh res none True) args s 0 0 (jA B sz)) (F0 mi 34 ls []) := by
  intro n
  induction n with
  | zero => intro a0 a1 x2 x3 x4 h_x2 h_x3 h_x4 m H locs ls S L hyp; cases hyp
  | succ n ih => intro a0 a1 x2 x3 x4 h_x2 h_x3 h_x4 m H locs ls S L hyp; exact t_X8_holdFast_b34 (N := N) C  ih h_x2 h_x3 h_x4 S L hyp
set_option maxHeartbeats 4000000 in
set_option maxRecDepth 100000 in
theorem t_X8_holdFast_e {p : Program} {l : Launch} {e : Env} {s : State} {mi : MethodId} {args : Array Value} {below : List Frame} {meth : Method} {c : Code} {D : va_G} {cy : Nat → ClassId} {B sz : Nat} {sh : jm_S} {res : jm_M} {N : Nat} (C : jCx p s mi args meth c cX8_holdFast 5 RX8 none D cy) {a0 : Nat} {a1 : Nat} {m : jm_M} {H : Heap} {locs : List Loc} {ls : Array Slot} (S : jHs D cy B sz sh (jA B sz) s.heap H locs m) (L : jL ls [some (jR B a0), some (jR B a1), none, none, none]) (hyp : f_X8_holdFast N sh a0 a1 m = some res) : W p l e (jrm 29 0 0) s mi args below meth c H locs 0 0 (MQ below (jQc D cy B sz sh res none True) args s 0 0 (jA B sz)) (F0 mi 0 ls []) := by
  unfold f_X8_holdFast at hyp
  refine jr_aload_n (pc := 0) C L dX8_holdFast_0 rfl rfl ?_
  obtain ⟨u20, hu20, hyp⟩ := jbind hyp
  obtain ⟨q21, hq21, hyp⟩ := jbind hyp
  refine jr_callV_I (pc := 1) C S L (As := []) (rest := []) (c_X10_allLines (m0 := m)  hq21) mv_X10_allLines ml_X8_51 rfl (jck_spec hu20) (by decide) rfl rfl rfl (Nat.le_of_ble_eq_true rfl) ⟨Nat.le_refl 0, Nat.le_refl 0⟩ dX8_holdFast_1 (fun p22 H locs S => ?_)
  refine jr_istore_n (pc := 4) C L dX8_holdFast_4 rfl (Nat.le_of_ble_eq_true rfl) (fun ls L => ?_)
  have L : jL ls [some (jR B a0), some (jR B a1), some (jI q21), none, none] := L
  refine jr_aload_n (pc := 5) C L dX8_holdFast_5 rfl rfl ?_
  obtain ⟨v23, hv23, hyp⟩ := jbind hyp
  refine jr_getR (pc := 6) C S lf_X8_25 rfl hv23 dX8_holdFast_6 ?_
  refine jr_iconst (pc := 9) C dX8_holdFast_9 ?_
  obtain ⟨u24, hu24, hyp⟩ := jbind hyp
  obtain ⟨q25, hq25, hyp⟩ := jbind hyp
  refine jr_callV_I (pc := 10) C S L (As := [jI 2]) (rest := []) (c_X1_setting (m0 := m) (show jIn 2 from ⟨by decide, by decide⟩) hq25) mv_X1_setting ml_X8_90 rfl (jck_spec hu24) (by decide) rfl rfl rfl (Nat.le_of_ble_eq_true rfl) ⟨Nat.le_refl 0, Nat.le_refl 0⟩ dX8_holdFast_10 (fun p26 H locs S => ?_)
  refine jr_istore_n (pc := 13) C L dX8_holdFast_13 rfl (Nat.le_of_ble_eq_true rfl) (fun ls L => ?_)
  have L : jL ls [some (jR B a0), some (jR B a1), some (jI q21), some (jI q25), none] := L
  refine jr_aload_n (pc := 14) C L dX8_holdFast_14 rfl rfl ?_
  refine jr_iconst (pc := 15) C dX8_holdFast_15 ?_
  obtain ⟨m27, hm27, hyp⟩ := jbind hyp
  refine jr_putI (pc := 16) C S lf_X8_93 fp_X8_0 rfl (show jIn 0 from ⟨by decide, by decide⟩) hm27 dX8_holdFast_16 (fun H locs S => ?_)
  refine jr_aload_n (pc := 19) C L dX8_holdFast_19 rfl rfl ?_
  refine jr_aload_n (pc := 20) C L dX8_holdFast_20 rfl rfl ?_
  refine jr_aload_n (pc := 21) C L dX8_holdFast_21 rfl rfl ?_
  refine jr_iload_n (pc := 22) C L dX8_holdFast_22 rfl rfl ?_
  refine jr_iconst (pc := 23) C dX8_holdFast_23 ?_
  refine jr_iconst (pc := 24) C dX8_holdFast_24 ?_
  obtain ⟨u28, hu28, hyp⟩ := jbind hyp
  obtain ⟨q29, hq29, hyp⟩ := jbind hyp
  refine jr_callV_I (pc := 25) C S L (As := [jR B a1, jI q25, jI 0, jI 1]) (rest := [jR B a0]) (c_X8_costOf p26 (show jIn 0 from ⟨by decide, by decide⟩) (show jIn 1 from ⟨by decide, by decide⟩) hq29) mv_X8_costOf ml_X8_96 rfl (jck_spec hu28) (by decide) rfl rfl rfl (by simp [jR_cat, jI_cat]) ⟨Nat.le_refl 0, Nat.le_refl 0⟩ dX8_holdFast_25 (fun p30 H locs S => ?_)
  obtain ⟨m31, hm31, hyp⟩ := jbind hyp
  refine jr_putI (pc := 28) C S lf_X8_100 fp_X8_1 rfl p30 hm31 dX8_holdFast_28 (fun H locs S => ?_)
  refine jr_iconst (pc := 31) C dX8_holdFast_31 ?_
  refine jr_istore (pc := 32) C L dX8_holdFast_32 (Nat.le_of_ble_eq_true rfl) (fun ls L => ?_)
  have L : jL ls [some (jR B a0), some (jR B a1), some (jI q21), some (jI q25), some (jI 1)] := L
  exact t_X8_holdFast_l34 C   N a0 a1 q21 q25 1 p22 p26 (show jIn 1 from ⟨by decide, by decide⟩) m31 _ _ _ S (L.sub (jsub_s (jsub_s (jsub_s (jsub_s (jsub_s jsub_0)))))) hyp
theorem c_X8_holdFast {l : Launch} {D : va_G} {cy : Nat → ClassId} {B sz : Nat} {sh : jm_S} {res : jm_M} {N : Nat} {m : jm_M} {a0 : Nat} {a1 : Nat} (hyp : f_X8_holdFast N sh a0 a1 m = some res) : jCt l D cy B sz sh 29 yX8_holdFast cX8_holdFast 5 none [jR B a0, jR B a1] m none res True :=
  jc_of (by decide) (fun v h => by simp only [List.mem_cons, List.not_mem_nil, or_false] at h; rcases h with rfl | rfl <;> first | rfl | exact jR_cat _ _) (Nat.le_of_ble_eq_true rfl) (fun C S L => t_X8_holdFast_e C   S L hyp)
set_option maxHeartbeats 4000000 in
set_option maxRecDepth 100000 in
theorem t_X9_breakCost_b102 {p : Program} {l : Launch} {e : Env} {s : State} {mi : MethodId} {args : Array Value} {below : List Frame} {meth : Method} {c : Code} {D : va_G} {cy : Nat → ClassId} {B sz : Nat} {sh : jm_S} {res : Int} {N : Nat} {m0 : jm_M} {k64 : Int → Int → Int → Int → Int → Int → Option Int} (C : jCx p s mi args meth c cX9_breakCost 10 RX9 (some .int) D cy) (K64 : ∀ (x3 : Int) (x4 : Int) (x5 : Int) (x6 : Int) (x7 : Int) (x8 : Int) , jIn x3 → jIn x4 → jIn x5 → jIn x6 → jIn x7 → jIn x8 → ∀ (H : Heap) (locs : List Loc) (ls : Array Slot), jHs D cy B sz sh (jA B sz) s.heap H locs m0 → jL ls [none, none, none, some (jI x3), some (jI x4), some (jI x5), some (jI x6), some (jI x7), some (jI x8), none] → k64 x3 x4 x5 x6 x7 x8 = some res → W p l e (jrm 1 0 0) s mi args below meth c H locs 0 0 (MQ below (jQc D cy B sz sh m0 (some (jI res)) (jIn res)) args s 0 0 (jA B sz)) (F0 mi 64 ls [])) {x3 : Int} (h_x3 : jIn x3) {x4 : Int} (h_x4 : jIn x4) {x5 : Int} (h_x5 : jIn x5) {x6 : Int} (h_x6 : jIn x6) {x8 : Int} (h_x8 : jIn x8) {s0 : Int} (h_s0 : jIn s0) {s1 : Int} (h_s1 : jIn s1) {H : Heap} {locs : List Loc} {ls : Array Slot} (S : jHs D cy B sz sh (jA B sz) s.heap H locs m0) (L : jL ls [none, none, none, some (jI x3), some (jI x4), some (jI x5), some (jI x6), none, some (jI x8), none]) (hyp : f_X9_breakCost_b102 N sh k64 x3 x4 x5 x6 x8 s0 s1 m0 = some res) : W p l e (jrm 1 0 0) s mi args below meth c H locs 0 0 (MQ below (jQc D cy B sz sh m0 (some (jI res)) (jIn res)) args s 0 0 (jA B sz)) (F0 mi 102 ls [jI s1, jI s0]) := by
  unfold f_X9_breakCost_b102 at hyp
  refine jr_iadd (pc := 102) C dX9_breakCost_102 ?_
  refine jr_istore (pc := 103) C L dX9_breakCost_103 (Nat.le_of_ble_eq_true rfl) (fun ls L => ?_)
  have L : jL ls [none, none, none, some (jI x3), some (jI x4), some (jI x5), some (jI x6), some (jI (jw (s0 + s1))), some (jI x8), none] := L
  refine jr_iinc (pc := 105) C L dX9_breakCost_105 rfl (Nat.le_of_ble_eq_true rfl) (fun ls L => ?_)
  have L : jL ls [none, none, none, some (jI x3), some (jI x4), some (jI x5), some (jI x6), some (jI (jw (s0 + s1))), some (jI (jw (x8 + 1))), none] := L
  refine jr_goto (pc := 108) C (tgt := 64) dX9_breakCost_108 (by decide) ?_
  exact K64 x3 x4 x5 x6 (jw (s0 + s1)) (jw (x8 + 1)) h_x3 h_x4 h_x5 h_x6 (jIn_w _) (jIn_w _)  _ _ _ S (L.sub (jsub_n (jsub_n (jsub_n (jsub_s (jsub_s (jsub_s (jsub_s (jsub_s (jsub_s (jsub_n jsub_0))))))))))) hyp
set_option maxHeartbeats 4000000 in
set_option maxRecDepth 100000 in
theorem t_X9_breakCost_b64 {p : Program} {l : Launch} {e : Env} {s : State} {mi : MethodId} {args : Array Value} {below : List Frame} {meth : Method} {c : Code} {D : va_G} {cy : Nat → ClassId} {B sz : Nat} {sh : jm_S} {res : Int} {N : Nat} {m0 : jm_M} {k64 : Int → Int → Int → Int → Int → Int → Option Int} (C : jCx p s mi args meth c cX9_breakCost 10 RX9 (some .int) D cy) (K64 : ∀ (x3 : Int) (x4 : Int) (x5 : Int) (x6 : Int) (x7 : Int) (x8 : Int) , jIn x3 → jIn x4 → jIn x5 → jIn x6 → jIn x7 → jIn x8 → ∀ (H : Heap) (locs : List Loc) (ls : Array Slot), jHs D cy B sz sh (jA B sz) s.heap H locs m0 → jL ls [none, none, none, some (jI x3), some (jI x4), some (jI x5), some (jI x6), some (jI x7), some (jI x8), none] → k64 x3 x4 x5 x6 x7 x8 = some res → W p l e (jrm 1 0 0) s mi args below meth c H locs 0 0 (MQ below (jQc D cy B sz sh m0 (some (jI res)) (jIn res)) args s 0 0 (jA B sz)) (F0 mi 64 ls [])) {x3 : Int} (h_x3 : jIn x3) {x4 : Int} (h_x4 : jIn x4) {x5 : Int} (h_x5 : jIn x5) {x6 : Int} (h_x6 : jIn x6) {x7 : Int} (h_x7 : jIn x7) {x8 : Int} (h_x8 : jIn x8) {H : Heap} {locs : List Loc} {ls : Array Slot} (S : jHs D cy B sz sh (jA B sz) s.heap H locs m0) (L : jL ls [none, none, none, some (jI x3), some (jI x4), some (jI x5), some (jI x6), some (jI x7), some (jI x8), none]) (hyp : f_X9_breakCost_b64 N sh k64 x3 x4 x5 x6 x7 x8 m0 = some res) : W p l e (jrm 1 0 0) s mi args below meth c H locs 0 0 (MQ below (jQc D cy B sz sh m0 (some (jI res)) (jIn res)) args s 0 0 (jA B sz)) (F0 mi 64 ls []) := by
  unfold f_X9_breakCost_b64 at hyp
  refine jr_iload (pc := 64) C L dX9_breakCost_64 rfl ?_
  refine jr_iload (pc := 66) C L dX9_breakCost_66 rfl ?_
  refine jr_icmp_ge (pc := 68) C h_x8 h_x4 (tgt := 111) dX9_breakCost_68 (by decide) (fun c1 => ?_) (fun c1 => ?_)
  · have hyp := (if_pos c1).symm.trans hyp
    refine jr_iload (pc := 71) C L dX9_breakCost_71 rfl ?_
    refine jr_iload (pc := 73) C L dX9_breakCost_73 rfl ?_
    obtain ⟨q2, hq2, hyp⟩ := jbind hyp
    refine jr_callSN_I (pc := 75) C S L (As := [jI x8, jI x4]) (rest := []) (c_X11_linesOfSet (m0 := m0) h_x8 h_x4 hq2) ms_X11_linesOfSet mn_X9_39 (by decide) rfl rfl rfl (Nat.le_of_ble_eq_true rfl) ⟨Nat.le_refl 0, Nat.le_refl 0⟩ dX9_breakCost_75 (fun p3 H locs S => ?_)
    refine jr_istore (pc := 78) C L dX9_breakCost_78 (Nat.le_of_ble_eq_true rfl) (fun ls L => ?_)
    have L : jL ls [none, none, none, some (jI x3), some (jI x4), some (jI x5), some (jI x6), some (jI x7), some (jI x8), some (jI q2)] := L
    refine jr_iload (pc := 80) C L dX9_breakCost_80 rfl ?_
    refine jr_iload (pc := 82) C L dX9_breakCost_82 rfl ?_
    refine jr_iload (pc := 84) C L dX9_breakCost_84 rfl ?_
    refine jr_iand (pc := 86) C dX9_breakCost_86 ?_
    refine jr_if_ne (pc := 87) C (jIn_and _ _) (tgt := 94) dX9_breakCost_87 (by decide) (fun c4 => ?_) (fun c4 => ?_)
    · have hyp := (if_pos c4).symm.trans hyp
      refine jr_iconst (pc := 90) C dX9_breakCost_90 ?_
      refine jr_goto (pc := 91) C (tgt := 102) dX9_breakCost_91 (by decide) ?_
      exact t_X9_breakCost_b102 C  K64 h_x3 h_x4 h_x5 h_x6 h_x8 h_x7 (show jIn 0 from ⟨by decide, by decide⟩) S (L.sub (jsub_n (jsub_n (jsub_n (jsub_s (jsub_s (jsub_s (jsub_s (jsub_n (jsub_s (jsub_n jsub_0))))))))))) hyp
    · have hyp := (if_neg c4).symm.trans hyp
      refine jr_iload (pc := 94) C L dX9_breakCost_94 rfl ?_
      refine jr_iload (pc := 96) C L dX9_breakCost_96 rfl ?_
      refine jr_iand (pc := 98) C dX9_breakCost_98 ?_
      obtain ⟨q5, hq5, hyp⟩ := jbind hyp
      refine jr_callS_I (pc := 99) C S L (As := [jI (jand x6 q2)]) (rest := [jI x7]) (c_J6_bitCount_0f7a4 (m0 := m0) (jIn_and _ _) hq5) ms_J6_bitCount_0f7a4 ml_X9_43 (by decide) rfl rfl rfl (Nat.le_of_ble_eq_true rfl) ⟨Nat.le_refl 0, Nat.le_refl 0⟩ dX9_breakCost_99 (fun p6 H locs S => ?_)
      exact t_X9_breakCost_b102 C  K64 h_x3 h_x4 h_x5 h_x6 h_x8 h_x7 p6 S (L.sub (jsub_n (jsub_n (jsub_n (jsub_s (jsub_s (jsub_s (jsub_s (jsub_n (jsub_s (jsub_n jsub_0))))))))))) hyp
  · have hyp := (if_neg c1).symm.trans hyp
    refine jr_iload (pc := 111) C L dX9_breakCost_111 rfl ?_
    refine jr_iload_n (pc := 113) C L dX9_breakCost_113 rfl rfl ?_
    refine jr_imul (pc := 114) C dX9_breakCost_114 ?_
    cases hyp
    exact jr_iret C S (jIn_w _) dX9_breakCost_115
theorem t_X9_breakCost_l64 {p : Program} {l : Launch} {e : Env} {s : State} {mi : MethodId} {args : Array Value} {below : List Frame} {meth : Method} {c : Code} {D : va_G} {cy : Nat → ClassId} {B sz : Nat} {sh : jm_S} {res : Int} {N : Nat} {m0 : jm_M} (C : jCx p s mi args meth c cX9_breakCost 10 RX9 (some .int) D cy) : ∀ (n : Nat) (x3 : Int) (x4 : Int) (x5 : Int) (x6 : Int) (x7 : Int) (x8 : Int), jIn x3 → jIn x4 → jIn x5 → jIn x6 → jIn x7 → jIn x8 → ∀ (H : Heap) (locs : List Loc) (ls : Array Slot), jHs D cy B sz sh (jA B sz) s.heap H locs m0 → jL ls [none, none, none, some (jI x3), some (jI x4), some (jI x5), some (jI x6), some (jI x7), some (jI x8), none] → f_X9_breakCost_l64 N sh n x3 x4 x5 x6 x7 x8 m0 = some res → W p l e (jrm 1 0 0) s mi args below meth c H locs 0 0 (MQ below (jQc D cy B sz sh m0 (some (jI res)) (jIn res)) args s 0 0 (jA B sz)) (F0 mi 64 ls []) := by
  intro n
  induction n with
  | zero => intro x3 x4 x5 x6 x7 x8 h_x3 h_x4 h_x5 h_x6 h_x7 h_x8 H locs ls S L hyp; cases hyp
  | succ n ih => intro x3 x4 x5 x6 x7 x8 h_x3 h_x4 h_x5 h_x6 h_x7 h_x8 H locs ls S L hyp; exact t_X9_breakCost_b64 (N := N) C  ih h_x3 h_x4 h_x5 h_x6 h_x7 h_x8 S L hyp
set_option maxHeartbeats 4000000 in
set_option maxRecDepth 100000 in
theorem t_X9_breakCost_e {p : Program} {l : Launch} {e : Env} {s : State} {mi : MethodId} {args : Array Value} {below : List Frame} {meth : Method} {c : Code} {D : va_G} {cy : Nat → ClassId} {B sz : Nat} {sh : jm_S} {res : Int} {N : Nat} {m0 : jm_M} (C : jCx p s mi args meth c cX9_breakCost 10 RX9 (some .int) D cy) {a0 : Nat} {x1 : Int} (h_x1 : jIn x1) {x2 : Int} (h_x2 : jIn x2) {x3 : Int} (h_x3 : jIn x3) {H : Heap} {locs : List Loc} {ls : Array Slot} (S : jHs D cy B sz sh (jA B sz) s.heap H locs m0) (L : jL ls [some (jR B a0), some (jI x1), some (jI x2), some (jI x3), none, none, none, none, none, none]) (hyp : f_X9_breakCost N sh a0 x1 x2 x3 m0 = some res) : W p l e (jrm 1 0 0) s mi args below meth c H locs 0 0 (MQ below (jQc D cy B sz sh m0 (some (jI res)) (jIn res)) args s 0 0 (jA B sz)) (F0 mi 0 ls []) := by
  unfold f_X9_breakCost at hyp
  refine jr_aload_n (pc := 0) C L dX9_breakCost_0 rfl rfl ?_
  obtain ⟨v7, hv7, hyp⟩ := jbind hyp
  refine jr_getR (pc := 1) C S lf_X9_15 rfl hv7 dX9_breakCost_1 ?_
  refine jr_iconst (pc := 4) C dX9_breakCost_4 ?_
  obtain ⟨u8, hu8, hyp⟩ := jbind hyp
  obtain ⟨q9, hq9, hyp⟩ := jbind hyp
  refine jr_callV_I (pc := 5) C S L (As := [jI 0]) (rest := []) (c_X1_setting (m0 := m0) (show jIn 0 from ⟨by decide, by decide⟩) hq9) mv_X1_setting ml_X9_23 rfl (jck_spec hu8) (by decide) rfl rfl rfl (Nat.le_of_ble_eq_true rfl) ⟨Nat.le_refl 0, Nat.le_refl 0⟩ dX9_breakCost_5 (fun p10 H locs S => ?_)
  refine jr_istore (pc := 8) C L dX9_breakCost_8 (Nat.le_of_ble_eq_true rfl) (fun ls L => ?_)
  have L : jL ls [some (jR B a0), some (jI x1), some (jI x2), some (jI x3), some (jI q9), none, none, none, none, none] := L
  refine jr_aload_n (pc := 10) C L dX9_breakCost_10 rfl rfl ?_
  obtain ⟨v11, hv11, hyp⟩ := jbind hyp
  refine jr_getR (pc := 11) C S lf_X9_15 rfl hv11 dX9_breakCost_11 ?_
  refine jr_iload_n (pc := 14) C L dX9_breakCost_14 rfl rfl ?_
  obtain ⟨u12, hu12, hyp⟩ := jbind hyp
  obtain ⟨q13, hq13, hyp⟩ := jbind hyp
  refine jr_callV_R (pc := 15) C S L (As := [jI x1]) (rest := []) (c_X1_textOf (m0 := m0) h_x1 hq13) mv_X1_textOf ml_X9_29 rfl (jck_spec hu12) (by decide) rfl rfl rfl (Nat.le_of_ble_eq_true rfl) ⟨Nat.le_refl 0, Nat.le_refl 0⟩ dX9_breakCost_15 (fun p14 H locs S => ?_)
  obtain ⟨u15, hu15, hyp⟩ := jbind hyp
  obtain ⟨q16, hq16, hyp⟩ := jbind hyp
  refine jr_callV_I (pc := 18) C S L (As := []) (rest := []) (c_X10_allLines (m0 := m0)  hq16) mv_X10_allLines ml_X9_33 rfl (jck_spec hu15) (by decide) rfl rfl rfl (Nat.le_of_ble_eq_true rfl) ⟨Nat.le_refl 0, Nat.le_refl 0⟩ dX9_breakCost_18 (fun p17 H locs S => ?_)
  refine jr_aload_n (pc := 21) C L dX9_breakCost_21 rfl rfl ?_
  obtain ⟨v18, hv18, hyp⟩ := jbind hyp
  refine jr_getR (pc := 22) C S lf_X9_15 rfl hv18 dX9_breakCost_22 ?_
  refine jr_iconst (pc := 25) C dX9_breakCost_25 ?_
  obtain ⟨u19, hu19, hyp⟩ := jbind hyp
  obtain ⟨q20, hq20, hyp⟩ := jbind hyp
  refine jr_callV_I (pc := 26) C S L (As := [jI 3]) (rest := [jI q16]) (c_X1_setting (m0 := m0) (show jIn 3 from ⟨by decide, by decide⟩) hq20) mv_X1_setting ml_X9_23 rfl (jck_spec hu19) (by decide) rfl rfl rfl (Nat.le_of_ble_eq_true rfl) ⟨Nat.le_refl 0, Nat.le_refl 0⟩ dX9_breakCost_26 (fun p21 H locs S => ?_)
  refine jr_iconst (pc := 29) C dX9_breakCost_29 ?_
  refine jr_ixor (pc := 30) C dX9_breakCost_30 ?_
  refine jr_iand (pc := 31) C dX9_breakCost_31 ?_
  refine jr_istore (pc := 32) C L dX9_breakCost_32 (Nat.le_of_ble_eq_true rfl) (fun ls L => ?_)
  have L : jL ls [some (jR B a0), some (jI x1), some (jI x2), some (jI x3), some (jI q9), some (jI (jand q16 (jxor q20 (-1)))), none, none, none, none] := L
  refine jr_aload_n (pc := 34) C L dX9_breakCost_34 rfl rfl ?_
  obtain ⟨v22, hv22, hyp⟩ := jbind hyp
  refine jr_getR (pc := 35) C S lf_X9_15 rfl hv22 dX9_breakCost_35 ?_
  refine jr_iload_n (pc := 38) C L dX9_breakCost_38 rfl rfl ?_
  obtain ⟨u23, hu23, hyp⟩ := jbind hyp
  obtain ⟨q24, hq24, hyp⟩ := jbind hyp
  refine jr_callV_R (pc := 39) C S L (As := [jI x2]) (rest := []) (c_X1_textOf (m0 := m0) h_x2 hq24) mv_X1_textOf ml_X9_29 rfl (jck_spec hu23) (by decide) rfl rfl rfl (Nat.le_of_ble_eq_true rfl) ⟨Nat.le_refl 0, Nat.le_refl 0⟩ dX9_breakCost_39 (fun p25 H locs S => ?_)
  obtain ⟨u26, hu26, hyp⟩ := jbind hyp
  obtain ⟨q27, hq27, hyp⟩ := jbind hyp
  refine jr_callV_I (pc := 42) C S L (As := []) (rest := []) (c_X10_allLines (m0 := m0)  hq27) mv_X10_allLines ml_X9_33 rfl (jck_spec hu26) (by decide) rfl rfl rfl (Nat.le_of_ble_eq_true rfl) ⟨Nat.le_refl 0, Nat.le_refl 0⟩ dX9_breakCost_42 (fun p28 H locs S => ?_)
  refine jr_aload_n (pc := 45) C L dX9_breakCost_45 rfl rfl ?_
  obtain ⟨v29, hv29, hyp⟩ := jbind hyp
  refine jr_getR (pc := 46) C S lf_X9_15 rfl hv29 dX9_breakCost_46 ?_
  refine jr_iconst (pc := 49) C dX9_breakCost_49 ?_
  obtain ⟨u30, hu30, hyp⟩ := jbind hyp
  obtain ⟨q31, hq31, hyp⟩ := jbind hyp
  refine jr_callV_I (pc := 50) C S L (As := [jI 3]) (rest := [jI q27]) (c_X1_setting (m0 := m0) (show jIn 3 from ⟨by decide, by decide⟩) hq31) mv_X1_setting ml_X9_23 rfl (jck_spec hu30) (by decide) rfl rfl rfl (Nat.le_of_ble_eq_true rfl) ⟨Nat.le_refl 0, Nat.le_refl 0⟩ dX9_breakCost_50 (fun p32 H locs S => ?_)
  refine jr_iconst (pc := 53) C dX9_breakCost_53 ?_
  refine jr_ixor (pc := 54) C dX9_breakCost_54 ?_
  refine jr_iand (pc := 55) C dX9_breakCost_55 ?_
  refine jr_istore (pc := 56) C L dX9_breakCost_56 (Nat.le_of_ble_eq_true rfl) (fun ls L => ?_)
  have L : jL ls [some (jR B a0), some (jI x1), some (jI x2), some (jI x3), some (jI q9), some (jI (jand q16 (jxor q20 (-1)))), some (jI (jand q27 (jxor q31 (-1)))), none, none, none] := L
  refine jr_iconst (pc := 58) C dX9_breakCost_58 ?_
  refine jr_istore (pc := 59) C L dX9_breakCost_59 (Nat.le_of_ble_eq_true rfl) (fun ls L => ?_)
  have L : jL ls [some (jR B a0), some (jI x1), some (jI x2), some (jI x3), some (jI q9), some (jI (jand q16 (jxor q20 (-1)))), some (jI (jand q27 (jxor q31 (-1)))), some (jI 0), none, none] := L
  refine jr_iconst (pc := 61) C dX9_breakCost_61 ?_
  refine jr_istore (pc := 62) C L dX9_breakCost_62 (Nat.le_of_ble_eq_true rfl) (fun ls L => ?_)
  have L : jL ls [some (jR B a0), some (jI x1), some (jI x2), some (jI x3), some (jI q9), some (jI (jand q16 (jxor q20 (-1)))), some (jI (jand q27 (jxor q31 (-1)))), some (jI 0), some (jI 0), none] := L
  exact t_X9_breakCost_l64 C   N x3 q9 (jand q16 (jxor q20 (-1))) (jand q27 (jxor q31 (-1))) 0 0 h_x3 p10 (jIn_and _ _) (jIn_and _ _) (show jIn 0 from ⟨by decide, by decide⟩) (show jIn 0 from ⟨by decide, by decide⟩)  _ _ _ S (L.sub (jsub_n (jsub_n (jsub_n (jsub_s (jsub_s (jsub_s (jsub_s (jsub_s (jsub_s (jsub_n jsub_0))))))))))) hyp
theorem c_X9_breakCost {l : Launch} {D : va_G} {cy : Nat → ClassId} {B sz : Nat} {sh : jm_S} {res : Int} {N : Nat} {m0 : jm_M} {a0 : Nat} {x1 : Int} (h_x1 : jIn x1) {x2 : Int} (h_x2 : jIn x2) {x3 : Int} (h_x3 : jIn x3) (hyp : f_X9_breakCost N sh a0 x1 x2 x3 m0 = some res) : jCt l D cy B sz sh 1 yX9_breakCost cX9_breakCost 10 (some .int) [jR B a0, jI x1, jI x2, jI x3] m0 (some (jI res)) m0 (jIn res) :=
  jc_of (by decide) (fun v h => by simp only [List.mem_cons, List.not_mem_nil, or_false] at h; rcases h with rfl | rfl | rfl | rfl <;> first | rfl | exact jR_cat _ _) (Nat.le_of_ble_eq_true rfl) (fun C S L => t_X9_breakCost_e C  h_x1 h_x2 h_x3 S L hyp)
