set_option maxHeartbeats 4000000 in
set_option maxRecDepth 100000 in
theorem t_X2_closer_b8 {p : Program} {l : Launch} {e : Env} {s : State} {mi : MethodId} {args : Array Value} {below : List Frame} {meth : Method} {c : Code} {D : va_G} {cy : Nat → ClassId} {B sz : Nat} {sh : jm_S} {res : (Int × jm_M)} {N : Nat} {k8 : Nat → Int → Int → jm_M → Option (Int × jm_M)} (C : jCx p s mi args meth c cX2_closer 4 RX2 (some .int) D cy) (K8 : ∀ (a0 : Nat) (x1 : Int) (x2 : Int) , jIn x1 → jIn x2 → ∀ (m : jm_M) (H : Heap) (locs : List Loc) (ls : Array Slot), jHs D cy B sz sh (jA B sz) s.heap H locs m → jL ls [some (jR B a0), some (jI x1), some (jI x2), none] → k8 a0 x1 x2 m = some res → W p l e (jrm 5 0 0) s mi args below meth c H locs 0 0 (MQ below (jQc D cy B sz sh res.2 (some (jI res.1)) (jIn res.1)) args s 0 0 (jA B sz)) (F0 mi 8 ls [])) {a0 : Nat} {x1 : Int} (h_x1 : jIn x1) {x2 : Int} (h_x2 : jIn x2) {m : jm_M} {H : Heap} {locs : List Loc} {ls : Array Slot} (S : jHs D cy B sz sh (jA B sz) s.heap H locs m) (L : jL ls [some (jR B a0), some (jI x1), some (jI x2), none]) (hyp : f_X2_closer_b8 N sh k8 a0 x1 x2 m = some res) : W p l e (jrm 5 0 0) s mi args below meth c H locs 0 0 (MQ below (jQc D cy B sz sh res.2 (some (jI res.1)) (jIn res.1)) args s 0 0 (jA B sz)) (F0 mi 8 ls []) := by
  unfold f_X2_closer_b8 at hyp
  refine jr_iload_n (pc := 8) C L dX2_closer_8 rfl rfl ?_
  refine jr_aload_n (pc := 9) C L dX2_closer_9 rfl rfl ?_
  obtain ⟨v1, hv1, hyp⟩ := jbind hyp
  refine jr_getR (pc := 10) C S lf_X2_32 rfl hv1 dX2_closer_10 ?_
  obtain ⟨v2, hv2, hyp⟩ := jbind hyp
  have iv2 := jrf_in S hv2
  refine jr_getI (pc := 13) C S lf_X2_42 rfl hv2 dX2_closer_13 ?_
  refine jr_icmp_ge (pc := 16) C h_x2 iv2 (tgt := 55) dX2_closer_16 (by decide) (fun c3 => ?_) (fun c3 => ?_)
  · have hyp := (if_pos c3).symm.trans hyp
    refine jr_aload_n (pc := 19) C L dX2_closer_19 rfl rfl ?_
    refine jr_iload_n (pc := 20) C L dX2_closer_20 rfl rfl ?_
    obtain ⟨u4, hu4, hyp⟩ := jbind hyp
    obtain ⟨q5, hq5, hyp⟩ := jbind hyp
    refine jr_callV_I (pc := 21) C S L (As := [jI x2]) (rest := []) (c_X2_onceLinesOf (m0 := m) h_x2 hq5) mv_X2_onceLinesOf ml_X2_62 rfl (jck_spec hu4) (by decide) rfl rfl rfl (Nat.le_of_ble_eq_true rfl) ⟨Nat.le_refl 0, Nat.le_refl 0⟩ dX2_closer_21 (fun p6 H locs S => ?_)
    obtain ⟨q7, hq7, hyp⟩ := jbind hyp
    refine jr_callS_I (pc := 24) C S L (As := [jI q5]) (rest := []) (c_J6_bitCount_0f7a4 (m0 := m) p6 hq7) ms_J6_bitCount_0f7a4 ml_X2_65 (by decide) rfl rfl rfl (Nat.le_of_ble_eq_true rfl) ⟨Nat.le_refl 0, Nat.le_refl 0⟩ dX2_closer_24 (fun p8 H locs S => ?_)
    refine jr_istore_n (pc := 27) C L dX2_closer_27 rfl (Nat.le_of_ble_eq_true rfl) (fun ls L => ?_)
    have L : jL ls [some (jR B a0), some (jI x1), some (jI x2), some (jI q7)] := L
    refine jr_iload_n (pc := 28) C L dX2_closer_28 rfl rfl ?_
    refine jr_iload_n (pc := 29) C L dX2_closer_29 rfl rfl ?_
    refine jr_aload_n (pc := 30) C L dX2_closer_30 rfl rfl ?_
    obtain ⟨v9, hv9, hyp⟩ := jbind hyp
    refine jr_getR (pc := 31) C S lf_X2_18 rfl hv9 dX2_closer_31 ?_
    refine jr_iconst (pc := 34) C dX2_closer_34 ?_
    obtain ⟨u10, hu10, hyp⟩ := jbind hyp
    obtain ⟨q11, hq11, hyp⟩ := jbind hyp
    refine jr_callV_I (pc := 35) C S L (As := [jI 2]) (rest := [jI q7, jI x1]) (c_X1_setting (m0 := m) (show jIn 2 from ⟨by decide, by decide⟩) hq11) mv_X1_setting ml_X2_56 rfl (jck_spec hu10) (by decide) rfl rfl rfl (Nat.le_of_ble_eq_true rfl) ⟨Nat.le_refl 0, Nat.le_refl 0⟩ dX2_closer_35 (fun p12 H locs S => ?_)
    refine jr_iconst (pc := 38) C dX2_closer_38 ?_
    refine jr_isub (pc := 39) C dX2_closer_39 ?_
    refine jr_imul (pc := 40) C dX2_closer_40 ?_
    refine jr_aload_n (pc := 41) C L dX2_closer_41 rfl rfl ?_
    refine jr_iload_n (pc := 42) C L dX2_closer_42 rfl rfl ?_
    obtain ⟨u13, hu13, hyp⟩ := jbind hyp
    obtain ⟨q14, hq14, hyp⟩ := jbind hyp
    refine jr_callV_I (pc := 43) C S L (As := [jI x2]) (rest := [jI (jw (q7 * (jw (q11 - 1)))), jI x1]) (c_X2_timesComeTo (m0 := m) h_x2 hq14) mv_X2_timesComeTo ml_X2_70 rfl (jck_spec hu13) (by decide) rfl rfl rfl (Nat.le_of_ble_eq_true rfl) ⟨Nat.le_refl 0, Nat.le_refl 0⟩ dX2_closer_43 (fun p15 H locs S => ?_)
    refine jr_imul (pc := 46) C dX2_closer_46 ?_
    refine jr_iadd (pc := 47) C dX2_closer_47 ?_
    refine jr_istore_n (pc := 48) C L dX2_closer_48 rfl (Nat.le_of_ble_eq_true rfl) (fun ls L => ?_)
    have L : jL ls [some (jR B a0), some (jI (jw (x1 + (jw ((jw (q7 * (jw (q11 - 1)))) * q14))))), some (jI x2), some (jI q7)] := L
    refine jr_iinc (pc := 49) C L dX2_closer_49 rfl (Nat.le_of_ble_eq_true rfl) (fun ls L => ?_)
    have L : jL ls [some (jR B a0), some (jI (jw (x1 + (jw ((jw (q7 * (jw (q11 - 1)))) * q14))))), some (jI (jw (x2 + 1))), some (jI q7)] := L
    refine jr_goto (pc := 52) C (tgt := 8) dX2_closer_52 (by decide) ?_
    exact K8 a0 (jw (x1 + (jw ((jw (q7 * (jw (q11 - 1)))) * q14)))) (jw (x2 + 1)) (jIn_w _) (jIn_w _) m _ _ _ S (L.sub (jsub_s (jsub_s (jsub_s (jsub_n jsub_0))))) hyp
  · have hyp := (if_neg c3).symm.trans hyp
    refine jr_iload_n (pc := 55) C L dX2_closer_55 rfl rfl ?_
    cases hyp
    exact jr_iret C S h_x1 dX2_closer_56
theorem t_X2_closer_l8 {p : Program} {l : Launch} {e : Env} {s : State} {mi : MethodId} {args : Array Value} {below : List Frame} {meth : Method} {c : Code} {D : va_G} {cy : Nat → ClassId} {B sz : Nat} {sh : jm_S} {res : (Int × jm_M)} {N : Nat} (C : jCx p s mi args meth c cX2_closer 4 RX2 (some .int) D cy) : ∀ (n : Nat) (a0 : Nat) (x1 : Int) (x2 : Int), jIn x1 → jIn x2 → ∀ (m : jm_M) (H : Heap) (locs : List Loc) (ls : Array Slot), jHs D cy B sz sh (jA B sz) s.heap H locs m → jL ls [some (jR B a0), some (jI x1), some (jI x2), none] → f_X2_closer_l8 N sh n a0 x1 x2 m = some res → W p l e (jrm 5 0 0) s mi args below meth c H locs 0 0 (MQ below (jQc D cy B sz sh res.2 (some (jI res.1)) (jIn res.1)) args s 0 0 (jA B sz)) (F0 mi 8 ls []) := by
  intro n
  induction n with
  | zero => intro a0 x1 x2 h_x1 h_x2 m H locs ls S L hyp; cases hyp
  | succ n ih => intro a0 x1 x2 h_x1 h_x2 m H locs ls S L hyp; exact t_X2_closer_b8 (N := N) C  ih h_x1 h_x2 S L hyp
set_option maxHeartbeats 4000000 in
set_option maxRecDepth 100000 in
theorem t_X2_closer_e {p : Program} {l : Launch} {e : Env} {s : State} {mi : MethodId} {args : Array Value} {below : List Frame} {meth : Method} {c : Code} {D : va_G} {cy : Nat → ClassId} {B sz : Nat} {sh : jm_S} {res : (Int × jm_M)} {N : Nat} (C : jCx p s mi args meth c cX2_closer 4 RX2 (some .int) D cy) {a0 : Nat} {m : jm_M} {H : Heap} {locs : List Loc} {ls : Array Slot} (S : jHs D cy B sz sh (jA B sz) s.heap H locs m) (L : jL ls [some (jR B a0), none, none, none]) (hyp : f_X2_closer N sh a0 m = some res) : W p l e (jrm 5 0 0) s mi args below meth c H locs 0 0 (MQ below (jQc D cy B sz sh res.2 (some (jI res.1)) (jIn res.1)) args s 0 0 (jA B sz)) (F0 mi 0 ls []) := by
  unfold f_X2_closer at hyp
  refine jr_aload_n (pc := 0) C L dX2_closer_0 rfl rfl ?_
  refine jr_iconst (pc := 1) C dX2_closer_1 ?_
  obtain ⟨u16, hu16, hyp⟩ := jbind hyp
  obtain ⟨q17, hq17, hyp⟩ := jbind hyp
  refine jr_callV_I (pc := 2) C S L (As := [jI 1]) (rest := []) (c_X2_costOf (show jIn 1 from ⟨by decide, by decide⟩) hq17) mv_X2_costOf ml_X2_59 rfl (jck_spec hu16) (by decide) rfl rfl rfl (Nat.le_of_ble_eq_true rfl) ⟨Nat.le_refl 0, Nat.le_refl 0⟩ dX2_closer_2 (fun p18 H locs S => ?_)
  refine jr_istore_n (pc := 5) C L dX2_closer_5 rfl (Nat.le_of_ble_eq_true rfl) (fun ls L => ?_)
  have L : jL ls [some (jR B a0), some (jI q17.1), none, none] := L
  refine jr_iconst (pc := 6) C dX2_closer_6 ?_
  refine jr_istore_n (pc := 7) C L dX2_closer_7 rfl (Nat.le_of_ble_eq_true rfl) (fun ls L => ?_)
  have L : jL ls [some (jR B a0), some (jI q17.1), some (jI 0), none] := L
  exact t_X2_closer_l8 C   N a0 q17.1 0 p18 (show jIn 0 from ⟨by decide, by decide⟩) q17.2 _ _ _ S (L.sub (jsub_s (jsub_s (jsub_s (jsub_n jsub_0))))) hyp
theorem c_X2_closer {l : Launch} {D : va_G} {cy : Nat → ClassId} {B sz : Nat} {sh : jm_S} {res : (Int × jm_M)} {N : Nat} {m : jm_M} {a0 : Nat} (hyp : f_X2_closer N sh a0 m = some res) : jCt l D cy B sz sh 5 yX2_closer cX2_closer 4 (some .int) [jR B a0] m (some (jI res.1)) res.2 (jIn res.1) :=
  jc_of (by decide) (fun v h => by rw [List.mem_singleton.mp h]; first | rfl | exact jR_cat _ _) (Nat.le_of_ble_eq_true rfl) (fun C S L => t_X2_closer_e C   S L hyp)
set_option maxHeartbeats 4000000 in
set_option maxRecDepth 100000 in
theorem t_X3_add_e {p : Program} {l : Launch} {e : Env} {s : State} {mi : MethodId} {args : Array Value} {below : List Frame} {meth : Method} {c : Code} {D : va_G} {cy : Nat → ClassId} {B sz : Nat} {sh : jm_S} {res : (Int × jm_M)} (C : jCx p s mi args meth c cX3_add 2 RX3 (some .boolean) D cy) {a0 : Nat} {x1 : Int} (h_x1 : jIn x1) {m : jm_M} {H : Heap} {locs : List Loc} {ls : Array Slot} (S : jHs D cy B sz sh (jA B sz) s.heap H locs m) (L : jL ls [some (jR B a0), some (jI x1)]) (hyp : f_X3_add sh a0 x1 m = some res) : W p l e (jrm 0 0 0) s mi args below meth c H locs 0 0 (MQ below (jQc D cy B sz sh res.2 (some (jI res.1)) (jIn res.1)) args s 0 0 (jA B sz)) (F0 mi 0 ls []) := by
  unfold f_X3_add at hyp
  refine jr_aload_n (pc := 0) C L dX3_add_0 rfl rfl ?_
  obtain ⟨v1, hv1, hyp⟩ := jbind hyp
  have iv1 := jrf_in S hv1
  refine jr_getI (pc := 1) C S lf_X3_18 rfl hv1 dX3_add_1 ?_
  refine jr_aload_n (pc := 4) C L dX3_add_4 rfl rfl ?_
  obtain ⟨v2, hv2, hyp⟩ := jbind hyp
  refine jr_getR (pc := 5) C S lf_X3_9 rfl hv2 dX3_add_5 ?_
  obtain ⟨v3, hv3, hyp⟩ := jbind hyp
  refine jr_alen (pc := 8) C S hv3 dX3_add_8 ?_
  refine jr_icmp_lt (pc := 9) C iv1 (jlen_in hv3) (tgt := 14) dX3_add_9 (by decide) (fun c4 => ?_) (fun c4 => ?_)
  · have hyp := (if_pos c4).symm.trans hyp
    refine jr_aload_n (pc := 14) C L dX3_add_14 rfl rfl ?_
    obtain ⟨v5, hv5, hyp⟩ := jbind hyp
    refine jr_getR (pc := 15) C S lf_X3_9 rfl hv5 dX3_add_15 ?_
    refine jr_aload_n (pc := 18) C L dX3_add_18 rfl rfl ?_
    obtain ⟨v6, hv6, hyp⟩ := jbind hyp
    have iv6 := jrf_in S hv6
    refine jr_getI (pc := 19) C S lf_X3_18 rfl hv6 dX3_add_19 ?_
    refine jr_iload_n (pc := 22) C L dX3_add_22 rfl rfl ?_
    obtain ⟨m7, hm7, hyp⟩ := jbind hyp
    refine jr_ias (pc := 23) C S iv6 h_x1 hm7 dX3_add_23 (fun H locs S => ?_)
    refine jr_aload_n (pc := 24) C L dX3_add_24 rfl rfl ?_
    refine jr_dupR (pc := 25) C dX3_add_25 ?_
    obtain ⟨v8, hv8, hyp⟩ := jbind hyp
    have iv8 := jrf_in S hv8
    refine jr_getI (pc := 26) C S lf_X3_18 rfl hv8 dX3_add_26 ?_
    refine jr_iconst (pc := 29) C dX3_add_29 ?_
    refine jr_iadd (pc := 30) C dX3_add_30 ?_
    obtain ⟨m9, hm9, hyp⟩ := jbind hyp
    refine jr_putI (pc := 31) C S lf_X3_18 fp_X3_1 rfl (jIn_w _) hm9 dX3_add_31 (fun H locs S => ?_)
    refine jr_iconst (pc := 34) C dX3_add_34 ?_
    cases hyp
    exact jr_zret C S (show jIn 1 from ⟨by decide, by decide⟩) rfl dX3_add_35
  · have hyp := (if_neg c4).symm.trans hyp
    refine jr_iconst (pc := 12) C dX3_add_12 ?_
    cases hyp
    exact jr_zret C S (show jIn 0 from ⟨by decide, by decide⟩) rfl dX3_add_13
theorem c_X3_add {l : Launch} {D : va_G} {cy : Nat → ClassId} {B sz : Nat} {sh : jm_S} {res : (Int × jm_M)} {m : jm_M} {a0 : Nat} {x1 : Int} (h_x1 : jIn x1) (hyp : f_X3_add sh a0 x1 m = some res) : jCt l D cy B sz sh 0 yX3_add cX3_add 2 (some .boolean) [jR B a0, jI x1] m (some (jI res.1)) res.2 (jIn res.1) :=
  jc_of (by decide) (fun v h => by simp only [List.mem_cons, List.not_mem_nil, or_false] at h; rcases h with rfl | rfl <;> first | rfl | exact jR_cat _ _) (Nat.le_of_ble_eq_true rfl) (fun C S L => t_X3_add_e C  h_x1 S L hyp)
set_option maxHeartbeats 4000000 in
set_option maxRecDepth 100000 in
theorem t_X3_firstFault_b125 {p : Program} {l : Launch} {e : Env} {s : State} {mi : MethodId} {args : Array Value} {below : List Frame} {meth : Method} {c : Code} {D : va_G} {cy : Nat → ClassId} {B sz : Nat} {sh : jm_S} {res : (Int × jm_M)} {N : Nat} (C : jCx p s mi args meth c cX3_firstFault 6 RX3 (some .int) D cy) {a0 : Nat} {x1 : Int} (h_x1 : jIn x1) {m : jm_M} {H : Heap} {locs : List Loc} {ls : Array Slot} (S : jHs D cy B sz sh (jA B sz) s.heap H locs m) (L : jL ls [some (jR B a0), some (jI x1), none, none, none, none]) (hyp : f_X3_firstFault_b125 N sh a0 x1 m = some res) : W p l e (jrm 2 0 0) s mi args below meth c H locs 0 0 (MQ below (jQc D cy B sz sh res.2 (some (jI res.1)) (jIn res.1)) args s 0 0 (jA B sz)) (F0 mi 125 ls []) := by
  unfold f_X3_firstFault_b125 at hyp
  refine jr_iload_n (pc := 125) C L dX3_firstFault_125 rfl rfl ?_
  refine jr_if_ne (pc := 126) C h_x1 (tgt := 134) dX3_firstFault_126 (by decide) (fun c1 => ?_) (fun c1 => ?_)
  · have hyp := (if_pos c1).symm.trans hyp
    refine jr_bipush (pc := 129) C dX3_firstFault_129 (by decide) ?_
    refine jr_goto (pc := 131) C (tgt := 138) dX3_firstFault_131 (by decide) ?_
    cases hyp
    exact jr_iret C S (show jIn (-6) from ⟨by decide, by decide⟩) dX3_firstFault_138
  · have hyp := (if_neg c1).symm.trans hyp
    refine jr_aload_n (pc := 134) C L dX3_firstFault_134 rfl rfl ?_
    obtain ⟨v2, hv2, hyp⟩ := jbind hyp
    have iv2 := jrf_in S hv2
    refine jr_getI (pc := 135) C S lf_X3_18 rfl hv2 dX3_firstFault_135 ?_
    cases hyp
    exact jr_iret C S iv2 dX3_firstFault_138
set_option maxHeartbeats 4000000 in
set_option maxRecDepth 100000 in
theorem t_X3_firstFault_b119 {p : Program} {l : Launch} {e : Env} {s : State} {mi : MethodId} {args : Array Value} {below : List Frame} {meth : Method} {c : Code} {D : va_G} {cy : Nat → ClassId} {B sz : Nat} {sh : jm_S} {res : (Int × jm_M)} {N : Nat} {k11 : Nat → Int → Int → jm_M → Option (Int × jm_M)} (C : jCx p s mi args meth c cX3_firstFault 6 RX3 (some .int) D cy) (K11 : ∀ (a0 : Nat) (x1 : Int) (x2 : Int) , jIn x1 → jIn x2 → ∀ (m : jm_M) (H : Heap) (locs : List Loc) (ls : Array Slot), jHs D cy B sz sh (jA B sz) s.heap H locs m → jL ls [some (jR B a0), some (jI x1), some (jI x2), none, none, none] → k11 a0 x1 x2 m = some res → W p l e (jrm 2 0 0) s mi args below meth c H locs 0 0 (MQ below (jQc D cy B sz sh res.2 (some (jI res.1)) (jIn res.1)) args s 0 0 (jA B sz)) (F0 mi 11 ls [])) {a0 : Nat} {x1 : Int} (h_x1 : jIn x1) {x2 : Int} (h_x2 : jIn x2) {m : jm_M} {H : Heap} {locs : List Loc} {ls : Array Slot} (S : jHs D cy B sz sh (jA B sz) s.heap H locs m) (L : jL ls [some (jR B a0), some (jI x1), some (jI x2), none, none, none]) (hyp : f_X3_firstFault_b119 N sh k11 a0 x1 x2 m = some res) : W p l e (jrm 2 0 0) s mi args below meth c H locs 0 0 (MQ below (jQc D cy B sz sh res.2 (some (jI res.1)) (jIn res.1)) args s 0 0 (jA B sz)) (F0 mi 119 ls []) := by
  unfold f_X3_firstFault_b119 at hyp
  refine jr_iinc (pc := 119) C L dX3_firstFault_119 rfl (Nat.le_of_ble_eq_true rfl) (fun ls L => ?_)
  have L : jL ls [some (jR B a0), some (jI x1), some (jI (jw (x2 + 1))), none, none, none] := L
  refine jr_goto (pc := 122) C (tgt := 11) dX3_firstFault_122 (by decide) ?_
  exact K11 a0 x1 (jw (x2 + 1)) h_x1 (jIn_w _) m _ _ _ S (L.sub (jsub_s (jsub_s (jsub_s (jsub_n (jsub_n (jsub_n jsub_0))))))) hyp
set_option maxHeartbeats 4000000 in
set_option maxRecDepth 100000 in
theorem t_X3_firstFault_b85 {p : Program} {l : Launch} {e : Env} {s : State} {mi : MethodId} {args : Array Value} {below : List Frame} {meth : Method} {c : Code} {D : va_G} {cy : Nat → ClassId} {B sz : Nat} {sh : jm_S} {res : (Int × jm_M)} {N : Nat} {k11 : Nat → Int → Int → jm_M → Option (Int × jm_M)} {k85 : Nat → Int → Int → Int → Int → Int → jm_M → Option (Int × jm_M)} (C : jCx p s mi args meth c cX3_firstFault 6 RX3 (some .int) D cy) (K11 : ∀ (a0 : Nat) (x1 : Int) (x2 : Int) , jIn x1 → jIn x2 → ∀ (m : jm_M) (H : Heap) (locs : List Loc) (ls : Array Slot), jHs D cy B sz sh (jA B sz) s.heap H locs m → jL ls [some (jR B a0), some (jI x1), some (jI x2), none, none, none] → k11 a0 x1 x2 m = some res → W p l e (jrm 2 0 0) s mi args below meth c H locs 0 0 (MQ below (jQc D cy B sz sh res.2 (some (jI res.1)) (jIn res.1)) args s 0 0 (jA B sz)) (F0 mi 11 ls [])) (K85 : ∀ (a0 : Nat) (x1 : Int) (x2 : Int) (x3 : Int) (x4 : Int) (x5 : Int) , jIn x1 → jIn x2 → jIn x3 → jIn x4 → jIn x5 → ∀ (m : jm_M) (H : Heap) (locs : List Loc) (ls : Array Slot), jHs D cy B sz sh (jA B sz) s.heap H locs m → jL ls [some (jR B a0), some (jI x1), some (jI x2), some (jI x3), some (jI x4), some (jI x5)] → k85 a0 x1 x2 x3 x4 x5 m = some res → W p l e (jrm 2 0 0) s mi args below meth c H locs 0 0 (MQ below (jQc D cy B sz sh res.2 (some (jI res.1)) (jIn res.1)) args s 0 0 (jA B sz)) (F0 mi 85 ls [])) {a0 : Nat} {x1 : Int} (h_x1 : jIn x1) {x2 : Int} (h_x2 : jIn x2) {x3 : Int} (h_x3 : jIn x3) {x4 : Int} (h_x4 : jIn x4) {x5 : Int} (h_x5 : jIn x5) {m : jm_M} {H : Heap} {locs : List Loc} {ls : Array Slot} (S : jHs D cy B sz sh (jA B sz) s.heap H locs m) (L : jL ls [some (jR B a0), some (jI x1), some (jI x2), some (jI x3), some (jI x4), some (jI x5)]) (hyp : f_X3_firstFault_b85 N sh k11 k85 a0 x1 x2 x3 x4 x5 m = some res) : W p l e (jrm 2 0 0) s mi args below meth c H locs 0 0 (MQ below (jQc D cy B sz sh res.2 (some (jI res.1)) (jIn res.1)) args s 0 0 (jA B sz)) (F0 mi 85 ls []) := by
  unfold f_X3_firstFault_b85 at hyp
  refine jr_iload (pc := 85) C L dX3_firstFault_85 rfl ?_
  refine jr_iload (pc := 87) C L dX3_firstFault_87 rfl ?_
  refine jr_icmp_ge (pc := 89) C h_x5 h_x4 (tgt := 119) dX3_firstFault_89 (by decide) (fun c3 => ?_) (fun c3 => ?_)
  · have hyp := (if_pos c3).symm.trans hyp
    refine jr_iload_n (pc := 92) C L dX3_firstFault_92 rfl rfl ?_
    refine jr_aload_n (pc := 93) C L dX3_firstFault_93 rfl rfl ?_
    obtain ⟨v4, hv4, hyp⟩ := jbind hyp
    refine jr_getR (pc := 94) C S lf_X3_15 rfl hv4 dX3_firstFault_94 ?_
    obtain ⟨v5, hv5, hyp⟩ := jbind hyp
    refine jr_alen (pc := 97) C S hv5 dX3_firstFault_97 ?_
    refine jr_icmp_ge (pc := 98) C h_x1 (jlen_in hv5) (tgt := 119) dX3_firstFault_98 (by decide) (fun c6 => ?_) (fun c6 => ?_)
    · have hyp := (if_pos c6).symm.trans hyp
      refine jr_aload_n (pc := 101) C L dX3_firstFault_101 rfl rfl ?_
      obtain ⟨v7, hv7, hyp⟩ := jbind hyp
      refine jr_getR (pc := 102) C S lf_X3_15 rfl hv7 dX3_firstFault_102 ?_
      refine jr_iload_n (pc := 105) C L dX3_firstFault_105 rfl rfl ?_
      refine jr_iload_n (pc := 106) C L dX3_firstFault_106 rfl rfl ?_
      refine jr_iconst (pc := 107) C dX3_firstFault_107 ?_
      refine jr_iadd (pc := 108) C dX3_firstFault_108 ?_
      obtain ⟨m8, hm8, hyp⟩ := jbind hyp
      refine jr_ias (pc := 109) C S h_x1 (jIn_w _) hm8 dX3_firstFault_109 (fun H locs S => ?_)
      refine jr_iinc (pc := 110) C L dX3_firstFault_110 rfl (Nat.le_of_ble_eq_true rfl) (fun ls L => ?_)
      have L : jL ls [some (jR B a0), some (jI (jw (x1 + 1))), some (jI x2), some (jI x3), some (jI x4), some (jI x5)] := L
      refine jr_iinc (pc := 113) C L dX3_firstFault_113 rfl (Nat.le_of_ble_eq_true rfl) (fun ls L => ?_)
      have L : jL ls [some (jR B a0), some (jI (jw (x1 + 1))), some (jI x2), some (jI x3), some (jI x4), some (jI (jw (x5 + 1)))] := L
      refine jr_goto (pc := 116) C (tgt := 85) dX3_firstFault_116 (by decide) ?_
      exact K85 a0 (jw (x1 + 1)) x2 x3 x4 (jw (x5 + 1)) (jIn_w _) h_x2 h_x3 h_x4 (jIn_w _) m8 _ _ _ S (L.sub (jsub_s (jsub_s (jsub_s (jsub_s (jsub_s (jsub_s jsub_0))))))) hyp
    · have hyp := (if_neg c6).symm.trans hyp
      exact t_X3_firstFault_b119 C  K11 h_x1 h_x2 S (L.sub (jsub_s (jsub_s (jsub_s (jsub_n (jsub_n (jsub_n jsub_0))))))) hyp
  · have hyp := (if_neg c3).symm.trans hyp
    exact t_X3_firstFault_b119 C  K11 h_x1 h_x2 S (L.sub (jsub_s (jsub_s (jsub_s (jsub_n (jsub_n (jsub_n jsub_0))))))) hyp
theorem t_X3_firstFault_l85 {p : Program} {l : Launch} {e : Env} {s : State} {mi : MethodId} {args : Array Value} {below : List Frame} {meth : Method} {c : Code} {D : va_G} {cy : Nat → ClassId} {B sz : Nat} {sh : jm_S} {res : (Int × jm_M)} {N : Nat} {k11 : Nat → Int → Int → jm_M → Option (Int × jm_M)} (C : jCx p s mi args meth c cX3_firstFault 6 RX3 (some .int) D cy) (K11 : ∀ (a0 : Nat) (x1 : Int) (x2 : Int) , jIn x1 → jIn x2 → ∀ (m : jm_M) (H : Heap) (locs : List Loc) (ls : Array Slot), jHs D cy B sz sh (jA B sz) s.heap H locs m → jL ls [some (jR B a0), some (jI x1), some (jI x2), none, none, none] → k11 a0 x1 x2 m = some res → W p l e (jrm 2 0 0) s mi args below meth c H locs 0 0 (MQ below (jQc D cy B sz sh res.2 (some (jI res.1)) (jIn res.1)) args s 0 0 (jA B sz)) (F0 mi 11 ls [])) : ∀ (n : Nat) (a0 : Nat) (x1 : Int) (x2 : Int) (x3 : Int) (x4 : Int) (x5 : Int), jIn x1 → jIn x2 → jIn x3 → jIn x4 → jIn x5 → ∀ (m : jm_M) (H : Heap) (locs : List Loc) (ls : Array Slot), jHs D cy B sz sh (jA B sz) s.heap H locs m → jL ls [some (jR B a0), some (jI x1), some (jI x2), some (jI x3), some (jI x4), some (jI x5)] → f_X3_firstFault_l85 N sh k11 n a0 x1 x2 x3 x4 x5 m = some res → W p l e (jrm 2 0 0) s mi args below meth c H locs 0 0 (MQ below (jQc D cy B sz sh res.2 (some (jI res.1)) (jIn res.1)) args s 0 0 (jA B sz)) (F0 mi 85 ls []) := by
  intro n
  induction n with
  | zero => intro a0 x1 x2 x3 x4 x5 h_x1 h_x2 h_x3 h_x4 h_x5 m H locs ls S L hyp; cases hyp
  | succ n ih => intro a0 x1 x2 x3 x4 x5 h_x1 h_x2 h_x3 h_x4 h_x5 m H locs ls S L hyp; exact t_X3_firstFault_b85 (N := N) C  K11 ih h_x1 h_x2 h_x3 h_x4 h_x5 S L hyp
set_option maxHeartbeats 4000000 in
set_option maxRecDepth 100000 in
theorem t_X3_firstFault_b82 {p : Program} {l : Launch} {e : Env} {s : State} {mi : MethodId} {args : Array Value} {below : List Frame} {meth : Method} {c : Code} {D : va_G} {cy : Nat → ClassId} {B sz : Nat} {sh : jm_S} {res : (Int × jm_M)} {N : Nat} {k11 : Nat → Int → Int → jm_M → Option (Int × jm_M)} (C : jCx p s mi args meth c cX3_firstFault 6 RX3 (some .int) D cy) (K11 : ∀ (a0 : Nat) (x1 : Int) (x2 : Int) , jIn x1 → jIn x2 → ∀ (m : jm_M) (H : Heap) (locs : List Loc) (ls : Array Slot), jHs D cy B sz sh (jA B sz) s.heap H locs m → jL ls [some (jR B a0), some (jI x1), some (jI x2), none, none, none] → k11 a0 x1 x2 m = some res → W p l e (jrm 2 0 0) s mi args below meth c H locs 0 0 (MQ below (jQc D cy B sz sh res.2 (some (jI res.1)) (jIn res.1)) args s 0 0 (jA B sz)) (F0 mi 11 ls [])) {a0 : Nat} {x1 : Int} (h_x1 : jIn x1) {x2 : Int} (h_x2 : jIn x2) {x3 : Int} (h_x3 : jIn x3) {x4 : Int} (h_x4 : jIn x4) {m : jm_M} {H : Heap} {locs : List Loc} {ls : Array Slot} (S : jHs D cy B sz sh (jA B sz) s.heap H locs m) (L : jL ls [some (jR B a0), some (jI x1), some (jI x2), some (jI x3), some (jI x4), none]) (hyp : f_X3_firstFault_b82 N sh k11 a0 x1 x2 x3 x4 m = some res) : W p l e (jrm 2 0 0) s mi args below meth c H locs 0 0 (MQ below (jQc D cy B sz sh res.2 (some (jI res.1)) (jIn res.1)) args s 0 0 (jA B sz)) (F0 mi 82 ls []) := by
  unfold f_X3_firstFault_b82 at hyp
  refine jr_iconst (pc := 82) C dX3_firstFault_82 ?_
  refine jr_istore (pc := 83) C L dX3_firstFault_83 (Nat.le_of_ble_eq_true rfl) (fun ls L => ?_)
  have L : jL ls [some (jR B a0), some (jI x1), some (jI x2), some (jI x3), some (jI x4), some (jI 0)] := L
  exact t_X3_firstFault_l85 C  K11 N a0 x1 x2 x3 x4 0 h_x1 h_x2 h_x3 h_x4 (show jIn 0 from ⟨by decide, by decide⟩) m _ _ _ S (L.sub (jsub_s (jsub_s (jsub_s (jsub_s (jsub_s (jsub_s jsub_0))))))) hyp
set_option maxHeartbeats 4000000 in
set_option maxRecDepth 100000 in
theorem t_X3_firstFault_b11 {p : Program} {l : Launch} {e : Env} {s : State} {mi : MethodId} {args : Array Value} {below : List Frame} {meth : Method} {c : Code} {D : va_G} {cy : Nat → ClassId} {B sz : Nat} {sh : jm_S} {res : (Int × jm_M)} {N : Nat} {k11 : Nat → Int → Int → jm_M → Option (Int × jm_M)} (C : jCx p s mi args meth c cX3_firstFault 6 RX3 (some .int) D cy) (K11 : ∀ (a0 : Nat) (x1 : Int) (x2 : Int) , jIn x1 → jIn x2 → ∀ (m : jm_M) (H : Heap) (locs : List Loc) (ls : Array Slot), jHs D cy B sz sh (jA B sz) s.heap H locs m → jL ls [some (jR B a0), some (jI x1), some (jI x2), none, none, none] → k11 a0 x1 x2 m = some res → W p l e (jrm 2 0 0) s mi args below meth c H locs 0 0 (MQ below (jQc D cy B sz sh res.2 (some (jI res.1)) (jIn res.1)) args s 0 0 (jA B sz)) (F0 mi 11 ls [])) {a0 : Nat} {x1 : Int} (h_x1 : jIn x1) {x2 : Int} (h_x2 : jIn x2) {m : jm_M} {H : Heap} {locs : List Loc} {ls : Array Slot} (S : jHs D cy B sz sh (jA B sz) s.heap H locs m) (L : jL ls [some (jR B a0), some (jI x1), some (jI x2), none, none, none]) (hyp : f_X3_firstFault_b11 N sh k11 a0 x1 x2 m = some res) : W p l e (jrm 2 0 0) s mi args below meth c H locs 0 0 (MQ below (jQc D cy B sz sh res.2 (some (jI res.1)) (jIn res.1)) args s 0 0 (jA B sz)) (F0 mi 11 ls []) := by
  unfold f_X3_firstFault_b11 at hyp
  refine jr_iload_n (pc := 11) C L dX3_firstFault_11 rfl rfl ?_
  refine jr_aload_n (pc := 12) C L dX3_firstFault_12 rfl rfl ?_
  obtain ⟨v9, hv9, hyp⟩ := jbind hyp
  have iv9 := jrf_in S hv9
  refine jr_getI (pc := 13) C S lf_X3_18 rfl hv9 dX3_firstFault_13 ?_
  refine jr_icmp_ge (pc := 16) C h_x2 iv9 (tgt := 125) dX3_firstFault_16 (by decide) (fun c10 => ?_) (fun c10 => ?_)
  · have hyp := (if_pos c10).symm.trans hyp
    refine jr_iload_n (pc := 19) C L dX3_firstFault_19 rfl rfl ?_
    refine jr_aload_n (pc := 20) C L dX3_firstFault_20 rfl rfl ?_
    obtain ⟨v11, hv11, hyp⟩ := jbind hyp
    refine jr_getR (pc := 21) C S lf_X3_9 rfl hv11 dX3_firstFault_21 ?_
    obtain ⟨v12, hv12, hyp⟩ := jbind hyp
    refine jr_alen (pc := 24) C S hv12 dX3_firstFault_24 ?_
    refine jr_icmp_ge (pc := 25) C h_x2 (jlen_in hv12) (tgt := 125) dX3_firstFault_25 (by decide) (fun c13 => ?_) (fun c13 => ?_)
    · have hyp := (if_pos c13).symm.trans hyp
      refine jr_iload_n (pc := 28) C L dX3_firstFault_28 rfl rfl ?_
      refine jr_iconst (pc := 29) C dX3_firstFault_29 ?_
      refine jr_icmp_lt (pc := 30) C h_x1 (show jIn 1 from ⟨by decide, by decide⟩) (tgt := 42) dX3_firstFault_30 (by decide) (fun c14 => ?_) (fun c14 => ?_)
      · have hyp := (if_pos c14).symm.trans hyp
        refine jr_iload_n (pc := 42) C L dX3_firstFault_42 rfl rfl ?_
        cases hyp
        exact jr_iret C S h_x2 dX3_firstFault_43
      · have hyp := (if_neg c14).symm.trans hyp
        refine jr_iload_n (pc := 33) C L dX3_firstFault_33 rfl rfl ?_
        refine jr_aload_n (pc := 34) C L dX3_firstFault_34 rfl rfl ?_
        obtain ⟨v15, hv15, hyp⟩ := jbind hyp
        refine jr_getR (pc := 35) C S lf_X3_15 rfl hv15 dX3_firstFault_35 ?_
        obtain ⟨v16, hv16, hyp⟩ := jbind hyp
        refine jr_alen (pc := 38) C S hv16 dX3_firstFault_38 ?_
        refine jr_icmp_le (pc := 39) C h_x1 (jlen_in hv16) (tgt := 44) dX3_firstFault_39 (by decide) (fun c17 => ?_) (fun c17 => ?_)
        · have hyp := (if_pos c17).symm.trans hyp
          refine jr_iload_n (pc := 42) C L dX3_firstFault_42 rfl rfl ?_
          cases hyp
          exact jr_iret C S h_x2 dX3_firstFault_43
        · have hyp := (if_neg c17).symm.trans hyp
          refine jr_iinc (pc := 44) C L dX3_firstFault_44 rfl (Nat.le_of_ble_eq_true rfl) (fun ls L => ?_)
          have L : jL ls [some (jR B a0), some (jI (jw (x1 + (-1)))), some (jI x2), none, none, none] := L
          refine jr_aload_n (pc := 47) C L dX3_firstFault_47 rfl rfl ?_
          obtain ⟨v18, hv18, hyp⟩ := jbind hyp
          refine jr_getR (pc := 48) C S lf_X3_15 rfl hv18 dX3_firstFault_48 ?_
          refine jr_iload_n (pc := 51) C L dX3_firstFault_51 rfl rfl ?_
          obtain ⟨v19, hv19, hyp⟩ := jbind hyp
          have iv19 := jra_in S hv19
          refine jr_ial (pc := 52) C S (jIn_w _) hv19 dX3_firstFault_52 ?_
          refine jr_istore_n (pc := 53) C L dX3_firstFault_53 rfl (Nat.le_of_ble_eq_true rfl) (fun ls L => ?_)
          have L : jL ls [some (jR B a0), some (jI (jw (x1 + (-1)))), some (jI x2), some (jI v19), none, none] := L
          refine jr_aload_n (pc := 54) C L dX3_firstFault_54 rfl rfl ?_
          obtain ⟨v20, hv20, hyp⟩ := jbind hyp
          refine jr_getR (pc := 55) C S lf_X3_9 rfl hv20 dX3_firstFault_55 ?_
          refine jr_iload_n (pc := 58) C L dX3_firstFault_58 rfl rfl ?_
          obtain ⟨v21, hv21, hyp⟩ := jbind hyp
          have iv21 := jra_in S hv21
          refine jr_ial (pc := 59) C S h_x2 hv21 dX3_firstFault_59 ?_
          obtain ⟨q22, hq22, hyp⟩ := jbind hyp
          refine jr_callSN_I (pc := 60) C S L (As := [jI v21]) (rest := []) (c_X11_partsOf (m0 := m) iv21 hq22) ms_X11_partsOf mn_X3_22 (by decide) rfl rfl rfl (Nat.le_of_ble_eq_true rfl) ⟨Nat.le_refl 0, Nat.le_refl 0⟩ dX3_firstFault_60 (fun p23 H locs S => ?_)
          refine jr_istore (pc := 63) C L dX3_firstFault_63 (Nat.le_of_ble_eq_true rfl) (fun ls L => ?_)
          have L : jL ls [some (jR B a0), some (jI (jw (x1 + (-1)))), some (jI x2), some (jI v19), some (jI q22), none] := L
          refine jr_iload (pc := 65) C L dX3_firstFault_65 rfl ?_
          refine jr_if_lt (pc := 67) C p23 (tgt := 80) dX3_firstFault_67 (by decide) (fun c24 => ?_) (fun c24 => ?_)
          · have hyp := (if_pos c24).symm.trans hyp
            refine jr_iload_n (pc := 80) C L dX3_firstFault_80 rfl rfl ?_
            cases hyp
            exact jr_iret C S h_x2 dX3_firstFault_81
          · have hyp := (if_neg c24).symm.trans hyp
            refine jr_iload (pc := 70) C L dX3_firstFault_70 rfl ?_
            refine jr_if_le (pc := 72) C p23 (tgt := 82) dX3_firstFault_72 (by decide) (fun c25 => ?_) (fun c25 => ?_)
            · have hyp := (if_pos c25).symm.trans hyp
              refine jr_iload_n (pc := 75) C L dX3_firstFault_75 rfl rfl ?_
              refine jr_iconst (pc := 76) C dX3_firstFault_76 ?_
              refine jr_icmp_lt (pc := 77) C iv19 (show jIn 4 from ⟨by decide, by decide⟩) (tgt := 82) dX3_firstFault_77 (by decide) (fun c26 => ?_) (fun c26 => ?_)
              · have hyp := (if_pos c26).symm.trans hyp
                exact t_X3_firstFault_b82 C  K11 (jIn_w _) h_x2 iv19 p23 S (L.sub (jsub_s (jsub_s (jsub_s (jsub_s (jsub_s (jsub_n jsub_0))))))) hyp
              · have hyp := (if_neg c26).symm.trans hyp
                refine jr_iload_n (pc := 80) C L dX3_firstFault_80 rfl rfl ?_
                cases hyp
                exact jr_iret C S h_x2 dX3_firstFault_81
            · have hyp := (if_neg c25).symm.trans hyp
              exact t_X3_firstFault_b82 C  K11 (jIn_w _) h_x2 iv19 p23 S (L.sub (jsub_s (jsub_s (jsub_s (jsub_s (jsub_s (jsub_n jsub_0))))))) hyp
    · have hyp := (if_neg c13).symm.trans hyp
      exact t_X3_firstFault_b125 C   h_x1 S (L.sub (jsub_s (jsub_s (jsub_n (jsub_n (jsub_n (jsub_n jsub_0))))))) hyp
  · have hyp := (if_neg c10).symm.trans hyp
    exact t_X3_firstFault_b125 C   h_x1 S (L.sub (jsub_s (jsub_s (jsub_n (jsub_n (jsub_n (jsub_n jsub_0))))))) hyp
theorem t_X3_firstFault_l11 {p : Program} {l : Launch} {e : Env} {s : State} {mi : MethodId} {args : Array Value} {below : List Frame} {meth : Method} {c : Code} {D : va_G} {cy : Nat → ClassId} {B sz : Nat} {sh : jm_S} {res : (Int × jm_M)} {N : Nat} (C : jCx p s mi args meth c cX3_firstFault 6 RX3 (some .int) D cy) : ∀ (n : Nat) (a0 : Nat) (x1 : Int) (x2 : Int), jIn x1 → jIn x2 → ∀ (m : jm_M) (H : Heap) (locs : List Loc) (ls : Array Slot), jHs D cy B sz sh (jA B sz) s.heap H locs m → jL ls [some (jR B a0), some (jI x1), some (jI x2), none, none, none] → f_X3_firstFault_l11 N sh n a0 x1 x2 m = some res → W p l e (jrm 2 0 0) s mi args below meth c H locs 0 0 (MQ below (jQc D cy B sz sh res.2 (some (jI res.1)) (jIn res.1)) args s 0 0 (jA B sz)) (F0 mi 11 ls []) := by
  intro n
  induction n with
  | zero => intro a0 x1 x2 h_x1 h_x2 m H locs ls S L hyp; cases hyp
  | succ n ih => intro a0 x1 x2 h_x1 h_x2 m H locs ls S L hyp; exact t_X3_firstFault_b11 (N := N) C  ih h_x1 h_x2 S L hyp
set_option maxHeartbeats 4000000 in
set_option maxRecDepth 100000 in
theorem t_X3_firstFault_e {p : Program} {l : Launch} {e : Env} {s : State} {mi : MethodId} {args : Array Value} {below : List Frame} {meth : Method} {c : Code} {D : va_G} {cy : Nat → ClassId} {B sz : Nat} {sh : jm_S} {res : (Int × jm_M)} {N : Nat} (C : jCx p s mi args meth c cX3_firstFault 6 RX3 (some .int) D cy) {a0 : Nat} {m : jm_M} {H : Heap} {locs : List Loc} {ls : Array Slot} (S : jHs D cy B sz sh (jA B sz) s.heap H locs m) (L : jL ls [some (jR B a0), none, none, none, none, none]) (hyp : f_X3_firstFault N sh a0 m = some res) : W p l e (jrm 2 0 0) s mi args below meth c H locs 0 0 (MQ below (jQc D cy B sz sh res.2 (some (jI res.1)) (jIn res.1)) args s 0 0 (jA B sz)) (F0 mi 0 ls []) := by
  unfold f_X3_firstFault at hyp
  refine jr_iconst (pc := 0) C dX3_firstFault_0 ?_
  refine jr_istore_n (pc := 1) C L dX3_firstFault_1 rfl (Nat.le_of_ble_eq_true rfl) (fun ls L => ?_)
  have L : jL ls [some (jR B a0), some (jI 1), none, none, none, none] := L
  refine jr_aload_n (pc := 2) C L dX3_firstFault_2 rfl rfl ?_
  obtain ⟨v27, hv27, hyp⟩ := jbind hyp
  refine jr_getR (pc := 3) C S lf_X3_15 rfl hv27 dX3_firstFault_3 ?_
  refine jr_iconst (pc := 6) C dX3_firstFault_6 ?_
  refine jr_iconst (pc := 7) C dX3_firstFault_7 ?_
  obtain ⟨m28, hm28, hyp⟩ := jbind hyp
  refine jr_ias (pc := 8) C S (show jIn 0 from ⟨by decide, by decide⟩) (show jIn 0 from ⟨by decide, by decide⟩) hm28 dX3_firstFault_8 (fun H locs S => ?_)
  refine jr_iconst (pc := 9) C dX3_firstFault_9 ?_
  refine jr_istore_n (pc := 10) C L dX3_firstFault_10 rfl (Nat.le_of_ble_eq_true rfl) (fun ls L => ?_)
  have L : jL ls [some (jR B a0), some (jI 1), some (jI 0), none, none, none] := L
  exact t_X3_firstFault_l11 C   N a0 1 0 (show jIn 1 from ⟨by decide, by decide⟩) (show jIn 0 from ⟨by decide, by decide⟩) m28 _ _ _ S (L.sub (jsub_s (jsub_s (jsub_s (jsub_n (jsub_n (jsub_n jsub_0))))))) hyp
theorem c_X3_firstFault {l : Launch} {D : va_G} {cy : Nat → ClassId} {B sz : Nat} {sh : jm_S} {res : (Int × jm_M)} {N : Nat} {m : jm_M} {a0 : Nat} (hyp : f_X3_firstFault N sh a0 m = some res) : jCt l D cy B sz sh 2 yX3_firstFault cX3_firstFault 6 (some .int) [jR B a0] m (some (jI res.1)) res.2 (jIn res.1) :=
  jc_of (by decide) (fun v h => by rw [List.mem_singleton.mp h]; first | rfl | exact jR_cat _ _) (Nat.le_of_ble_eq_true rfl) (fun C S L => t_X3_firstFault_e C   S L hyp)
set_option maxHeartbeats 4000000 in
set_option maxRecDepth 100000 in
theorem t_X4_clear_b48 {p : Program} {l : Launch} {e : Env} {s : State} {mi : MethodId} {args : Array Value} {below : List Frame} {meth : Method} {c : Code} {D : va_G} {cy : Nat → ClassId} {B sz : Nat} {sh : jm_S} {res : jm_M} {N : Nat} (C : jCx p s mi args meth c cX4_clear 3 RX4 none D cy) {a0 : Nat} {m : jm_M} {H : Heap} {locs : List Loc} {ls : Array Slot} (S : jHs D cy B sz sh (jA B sz) s.heap H locs m) (L : jL ls [some (jR B a0), none, none]) (hyp : f_X4_clear_b48 N sh a0 m = some res) : W p l e (jrm 0 0 0) s mi args below meth c H locs 0 0 (MQ below (jQc D cy B sz sh res none True) args s 0 0 (jA B sz)) (F0 mi 48 ls []) := by
  unfold f_X4_clear_b48 at hyp
  refine jr_aload_n (pc := 48) C L dX4_clear_48 rfl rfl ?_
  refine jr_iconst (pc := 49) C dX4_clear_49 ?_
  obtain ⟨m1, hm1, hyp⟩ := jbind hyp
  refine jr_putI (pc := 50) C S lf_X4_21 fp_X4_0 rfl (show jIn 0 from ⟨by decide, by decide⟩) hm1 dX4_clear_50 (fun H locs S => ?_)
  cases hyp
  exact jr_vret C S trivial dX4_clear_53
set_option maxHeartbeats 4000000 in
set_option maxRecDepth 100000 in
theorem t_X4_clear_b42 {p : Program} {l : Launch} {e : Env} {s : State} {mi : MethodId} {args : Array Value} {below : List Frame} {meth : Method} {c : Code} {D : va_G} {cy : Nat → ClassId} {B sz : Nat} {sh : jm_S} {res : jm_M} {N : Nat} {k2 : Nat → Int → jm_M → Option jm_M} (C : jCx p s mi args meth c cX4_clear 3 RX4 none D cy) (K2 : ∀ (a0 : Nat) (x1 : Int) , jIn x1 → ∀ (m : jm_M) (H : Heap) (locs : List Loc) (ls : Array Slot), jHs D cy B sz sh (jA B sz) s.heap H locs m → jL ls [some (jR B a0), some (jI x1), none] → k2 a0 x1 m = some res → W p l e (jrm 0 0 0) s mi args below meth c H locs 0 0 (MQ below (jQc D cy B sz sh res none True) args s 0 0 (jA B sz)) (F0 mi 2 ls [])) {a0 : Nat} {x1 : Int} (h_x1 : jIn x1) {m : jm_M} {H : Heap} {locs : List Loc} {ls : Array Slot} (S : jHs D cy B sz sh (jA B sz) s.heap H locs m) (L : jL ls [some (jR B a0), some (jI x1), none]) (hyp : f_X4_clear_b42 N sh k2 a0 x1 m = some res) : W p l e (jrm 0 0 0) s mi args below meth c H locs 0 0 (MQ below (jQc D cy B sz sh res none True) args s 0 0 (jA B sz)) (F0 mi 42 ls []) := by
  unfold f_X4_clear_b42 at hyp
  refine jr_iinc (pc := 42) C L dX4_clear_42 rfl (Nat.le_of_ble_eq_true rfl) (fun ls L => ?_)
  have L : jL ls [some (jR B a0), some (jI (jw (x1 + 1))), none] := L
  refine jr_goto (pc := 45) C (tgt := 2) dX4_clear_45 (by decide) ?_
  exact K2 a0 (jw (x1 + 1)) (jIn_w _) m _ _ _ S (L.sub (jsub_s (jsub_s (jsub_n jsub_0)))) hyp
set_option maxHeartbeats 4000000 in
set_option maxRecDepth 100000 in
theorem t_X4_clear_b2 {p : Program} {l : Launch} {e : Env} {s : State} {mi : MethodId} {args : Array Value} {below : List Frame} {meth : Method} {c : Code} {D : va_G} {cy : Nat → ClassId} {B sz : Nat} {sh : jm_S} {res : jm_M} {N : Nat} {k2 : Nat → Int → jm_M → Option jm_M} (C : jCx p s mi args meth c cX4_clear 3 RX4 none D cy) (K2 : ∀ (a0 : Nat) (x1 : Int) , jIn x1 → ∀ (m : jm_M) (H : Heap) (locs : List Loc) (ls : Array Slot), jHs D cy B sz sh (jA B sz) s.heap H locs m → jL ls [some (jR B a0), some (jI x1), none] → k2 a0 x1 m = some res → W p l e (jrm 0 0 0) s mi args below meth c H locs 0 0 (MQ below (jQc D cy B sz sh res none True) args s 0 0 (jA B sz)) (F0 mi 2 ls [])) {a0 : Nat} {x1 : Int} (h_x1 : jIn x1) {m : jm_M} {H : Heap} {locs : List Loc} {ls : Array Slot} (S : jHs D cy B sz sh (jA B sz) s.heap H locs m) (L : jL ls [some (jR B a0), some (jI x1), none]) (hyp : f_X4_clear_b2 N sh k2 a0 x1 m = some res) : W p l e (jrm 0 0 0) s mi args below meth c H locs 0 0 (MQ below (jQc D cy B sz sh res none True) args s 0 0 (jA B sz)) (F0 mi 2 ls []) := by
  unfold f_X4_clear_b2 at hyp
  refine jr_iload_n (pc := 2) C L dX4_clear_2 rfl rfl ?_
  refine jr_aload_n (pc := 3) C L dX4_clear_3 rfl rfl ?_
  obtain ⟨v2, hv2, hyp⟩ := jbind hyp
  have iv2 := jrf_in S hv2
  refine jr_getI (pc := 4) C S lf_X4_21 rfl hv2 dX4_clear_4 ?_
  refine jr_icmp_ge (pc := 7) C h_x1 iv2 (tgt := 48) dX4_clear_7 (by decide) (fun c3 => ?_) (fun c3 => ?_)
  · have hyp := (if_pos c3).symm.trans hyp
    refine jr_iload_n (pc := 10) C L dX4_clear_10 rfl rfl ?_
    refine jr_sipush (pc := 11) C dX4_clear_11 (by decide) ?_
    refine jr_icmp_ge (pc := 14) C h_x1 (show jIn 625 from ⟨by decide, by decide⟩) (tgt := 48) dX4_clear_14 (by decide) (fun c4 => ?_) (fun c4 => ?_)
    · have hyp := (if_pos c4).symm.trans hyp
      refine jr_aload_n (pc := 17) C L dX4_clear_17 rfl rfl ?_
      obtain ⟨v5, hv5, hyp⟩ := jbind hyp
      refine jr_getR (pc := 18) C S lf_X4_9 rfl hv5 dX4_clear_18 ?_
      refine jr_iload_n (pc := 21) C L dX4_clear_21 rfl rfl ?_
      obtain ⟨v6, hv6, hyp⟩ := jbind hyp
      have iv6 := jra_in S hv6
      refine jr_ial (pc := 22) C S h_x1 hv6 dX4_clear_22 ?_
      refine jr_istore_n (pc := 23) C L dX4_clear_23 rfl (Nat.le_of_ble_eq_true rfl) (fun ls L => ?_)
      have L : jL ls [some (jR B a0), some (jI x1), some (jI v6)] := L
      refine jr_iload_n (pc := 24) C L dX4_clear_24 rfl rfl ?_
      refine jr_if_lt (pc := 25) C iv6 (tgt := 42) dX4_clear_25 (by decide) (fun c7 => ?_) (fun c7 => ?_)
      · have hyp := (if_pos c7).symm.trans hyp
        exact t_X4_clear_b42 C  K2 h_x1 S (L.sub (jsub_s (jsub_s (jsub_n jsub_0)))) hyp
      · have hyp := (if_neg c7).symm.trans hyp
        refine jr_iload_n (pc := 28) C L dX4_clear_28 rfl rfl ?_
        refine jr_sipush (pc := 29) C dX4_clear_29 (by decide) ?_
        refine jr_icmp_ge (pc := 32) C iv6 (show jIn 625 from ⟨by decide, by decide⟩) (tgt := 42) dX4_clear_32 (by decide) (fun c8 => ?_) (fun c8 => ?_)
        · have hyp := (if_pos c8).symm.trans hyp
          refine jr_aload_n (pc := 35) C L dX4_clear_35 rfl rfl ?_
          obtain ⟨v9, hv9, hyp⟩ := jbind hyp
          refine jr_getR (pc := 36) C S lf_X4_18 rfl hv9 dX4_clear_36 ?_
          refine jr_iload_n (pc := 39) C L dX4_clear_39 rfl rfl ?_
          refine jr_iconst (pc := 40) C dX4_clear_40 ?_
          obtain ⟨m10, hm10, hyp⟩ := jbind hyp
          refine jr_ias (pc := 41) C S iv6 (show jIn 0 from ⟨by decide, by decide⟩) hm10 dX4_clear_41 (fun H locs S => ?_)
          exact t_X4_clear_b42 C  K2 h_x1 S (L.sub (jsub_s (jsub_s (jsub_n jsub_0)))) hyp
        · have hyp := (if_neg c8).symm.trans hyp
          exact t_X4_clear_b42 C  K2 h_x1 S (L.sub (jsub_s (jsub_s (jsub_n jsub_0)))) hyp
    · have hyp := (if_neg c4).symm.trans hyp
      exact t_X4_clear_b48 C    S (L.sub (jsub_s (jsub_n (jsub_n jsub_0)))) hyp
  · have hyp := (if_neg c3).symm.trans hyp
    exact t_X4_clear_b48 C    S (L.sub (jsub_s (jsub_n (jsub_n jsub_0)))) hyp
theorem t_X4_clear_l2 {p : Program} {l : Launch} {e : Env} {s : State} {mi : MethodId} {args : Array Value} {below : List Frame} {meth : Method} {c : Code} {D : va_G} {cy : Nat → ClassId} {B sz : Nat} {sh : jm_S} {res : jm_M} {N : Nat} (C : jCx p s mi args meth c cX4_clear 3 RX4 none D cy) : ∀ (n : Nat) (a0 : Nat) (x1 : Int), jIn x1 → ∀ (m : jm_M) (H : Heap) (locs : List Loc) (ls : Array Slot), jHs D cy B sz sh (jA B sz) s.heap H locs m → jL ls [some (jR B a0), some (jI x1), none] → f_X4_clear_l2 N sh n a0 x1 m = some res → W p l e (jrm 0 0 0) s mi args below meth c H locs 0 0 (MQ below (jQc D cy B sz sh res none True) args s 0 0 (jA B sz)) (F0 mi 2 ls []) := by
  intro n
  induction n with
  | zero => intro a0 x1 h_x1 m H locs ls S L hyp; cases hyp
  | succ n ih => intro a0 x1 h_x1 m H locs ls S L hyp; exact t_X4_clear_b2 (N := N) C  ih h_x1 S L hyp
set_option maxHeartbeats 4000000 in
set_option maxRecDepth 100000 in
theorem t_X4_clear_e {p : Program} {l : Launch} {e : Env} {s : State} {mi : MethodId} {args : Array Value} {below : List Frame} {meth : Method} {c : Code} {D : va_G} {cy : Nat → ClassId} {B sz : Nat} {sh : jm_S} {res : jm_M} {N : Nat} (C : jCx p s mi args meth c cX4_clear 3 RX4 none D cy) {a0 : Nat} {m : jm_M} {H : Heap} {locs : List Loc} {ls : Array Slot} (S : jHs D cy B sz sh (jA B sz) s.heap H locs m) (L : jL ls [some (jR B a0), none, none]) (hyp : f_X4_clear N sh a0 m = some res) : W p l e (jrm 0 0 0) s mi args below meth c H locs 0 0 (MQ below (jQc D cy B sz sh res none True) args s 0 0 (jA B sz)) (F0 mi 0 ls []) := by
  unfold f_X4_clear at hyp
  refine jr_iconst (pc := 0) C dX4_clear_0 ?_
  refine jr_istore_n (pc := 1) C L dX4_clear_1 rfl (Nat.le_of_ble_eq_true rfl) (fun ls L => ?_)
  have L : jL ls [some (jR B a0), some (jI 0), none] := L
  exact t_X4_clear_l2 C   N a0 0 (show jIn 0 from ⟨by decide, by decide⟩) m _ _ _ S (L.sub (jsub_s (jsub_s (jsub_n jsub_0)))) hyp
theorem c_X4_clear {l : Launch} {D : va_G} {cy : Nat → ClassId} {B sz : Nat} {sh : jm_S} {res : jm_M} {N : Nat} {m : jm_M} {a0 : Nat} (hyp : f_X4_clear N sh a0 m = some res) : jCt l D cy B sz sh 0 yX4_clear cX4_clear 3 none [jR B a0] m none res True :=
  jc_of (by decide) (fun v h => by rw [List.mem_singleton.mp h]; first | rfl | exact jR_cat _ _) (Nat.le_of_ble_eq_true rfl) (fun C S L => t_X4_clear_e C   S L hyp)
set_option maxHeartbeats 4000000 in
set_option maxRecDepth 100000 in
theorem t_X4_add_b74 {p : Program} {l : Launch} {e : Env} {s : State} {mi : MethodId} {args : Array Value} {below : List Frame} {meth : Method} {c : Code} {D : va_G} {cy : Nat → ClassId} {B sz : Nat} {sh : jm_S} {res : jm_M} (C : jCx p s mi args meth c cX4_add 5 RX4 none D cy) {a0 : Nat} {x1 : Int} (h_x1 : jIn x1) {x2 : Int} (h_x2 : jIn x2) {m : jm_M} {H : Heap} {locs : List Loc} {ls : Array Slot} (S : jHs D cy B sz sh (jA B sz) s.heap H locs m) (L : jL ls [some (jR B a0), some (jI x1), some (jI x2), none, none]) (hyp : f_X4_add_b74 sh a0 x1 x2 m = some res) : W p l e (jrm 1 0 0) s mi args below meth c H locs 0 0 (MQ below (jQc D cy B sz sh res none True) args s 0 0 (jA B sz)) (F0 mi 74 ls []) := by
  unfold f_X4_add_b74 at hyp
  refine jr_aload_n (pc := 74) C L dX4_add_74 rfl rfl ?_
  obtain ⟨v1, hv1, hyp⟩ := jbind hyp
  have iv1 := jrf_in S hv1
  refine jr_getI (pc := 75) C S lf_X4_21 rfl hv1 dX4_add_75 ?_
  refine jr_sipush (pc := 78) C dX4_add_78 (by decide) ?_
  refine jr_icmp_ge (pc := 81) C iv1 (show jIn 625 from ⟨by decide, by decide⟩) (tgt := 124) dX4_add_81 (by decide) (fun c2 => ?_) (fun c2 => ?_)
  · have hyp := (if_pos c2).symm.trans hyp
    refine jr_aload_n (pc := 84) C L dX4_add_84 rfl rfl ?_
    obtain ⟨v3, hv3, hyp⟩ := jbind hyp
    refine jr_getR (pc := 85) C S lf_X4_9 rfl hv3 dX4_add_85 ?_
    refine jr_aload_n (pc := 88) C L dX4_add_88 rfl rfl ?_
    obtain ⟨v4, hv4, hyp⟩ := jbind hyp
    have iv4 := jrf_in S hv4
    refine jr_getI (pc := 89) C S lf_X4_21 rfl hv4 dX4_add_89 ?_
    refine jr_iload_n (pc := 92) C L dX4_add_92 rfl rfl ?_
    obtain ⟨m5, hm5, hyp⟩ := jbind hyp
    refine jr_ias (pc := 93) C S iv4 h_x1 hm5 dX4_add_93 (fun H locs S => ?_)
    refine jr_aload_n (pc := 94) C L dX4_add_94 rfl rfl ?_
    obtain ⟨v6, hv6, hyp⟩ := jbind hyp
    refine jr_getR (pc := 95) C S lf_X4_15 rfl hv6 dX4_add_95 ?_
    refine jr_aload_n (pc := 98) C L dX4_add_98 rfl rfl ?_
    obtain ⟨v7, hv7, hyp⟩ := jbind hyp
    have iv7 := jrf_in S hv7
    refine jr_getI (pc := 99) C S lf_X4_21 rfl hv7 dX4_add_99 ?_
    refine jr_iload_n (pc := 102) C L dX4_add_102 rfl rfl ?_
    obtain ⟨m8, hm8, hyp⟩ := jbind hyp
    refine jr_ias (pc := 103) C S iv7 h_x2 hm8 dX4_add_103 (fun H locs S => ?_)
    refine jr_aload_n (pc := 104) C L dX4_add_104 rfl rfl ?_
    refine jr_dupR (pc := 105) C dX4_add_105 ?_
    obtain ⟨v9, hv9, hyp⟩ := jbind hyp
    have iv9 := jrf_in S hv9
    refine jr_getI (pc := 106) C S lf_X4_21 rfl hv9 dX4_add_106 ?_
    refine jr_iconst (pc := 109) C dX4_add_109 ?_
    refine jr_iadd (pc := 110) C dX4_add_110 ?_
    obtain ⟨m10, hm10, hyp⟩ := jbind hyp
    refine jr_putI (pc := 111) C S lf_X4_21 fp_X4_0 rfl (jIn_w _) hm10 dX4_add_111 (fun H locs S => ?_)
    refine jr_aload_n (pc := 114) C L dX4_add_114 rfl rfl ?_
    obtain ⟨v11, hv11, hyp⟩ := jbind hyp
    refine jr_getR (pc := 115) C S lf_X4_18 rfl hv11 dX4_add_115 ?_
    refine jr_iload_n (pc := 118) C L dX4_add_118 rfl rfl ?_
    refine jr_aload_n (pc := 119) C L dX4_add_119 rfl rfl ?_
    obtain ⟨v12, hv12, hyp⟩ := jbind hyp
    have iv12 := jrf_in S hv12
    refine jr_getI (pc := 120) C S lf_X4_21 rfl hv12 dX4_add_120 ?_
    obtain ⟨m13, hm13, hyp⟩ := jbind hyp
    refine jr_ias (pc := 123) C S h_x1 iv12 hm13 dX4_add_123 (fun H locs S => ?_)
    cases hyp
    exact jr_vret C S trivial dX4_add_124
  · have hyp := (if_neg c2).symm.trans hyp
    cases hyp
    exact jr_vret C S trivial dX4_add_124
set_option maxHeartbeats 4000000 in
set_option maxRecDepth 100000 in
theorem t_X4_add_b70 {p : Program} {l : Launch} {e : Env} {s : State} {mi : MethodId} {args : Array Value} {below : List Frame} {meth : Method} {c : Code} {D : va_G} {cy : Nat → ClassId} {B sz : Nat} {sh : jm_S} {res : jm_M} (C : jCx p s mi args meth c cX4_add 5 RX4 none D cy) {r0 : Nat} {s1 : Int} (h_s1 : jIn s1) {s2 : Int} (h_s2 : jIn s2) {m : jm_M} {H : Heap} {locs : List Loc} {ls : Array Slot} (S : jHs D cy B sz sh (jA B sz) s.heap H locs m) (L : jL ls [none, none, none, none, none]) (hyp : f_X4_add_b70 sh r0 s1 s2 m = some res) : W p l e (jrm 1 0 0) s mi args below meth c H locs 0 0 (MQ below (jQc D cy B sz sh res none True) args s 0 0 (jA B sz)) (F0 mi 70 ls [jI s2, jI s1, jR B r0]) := by
  unfold f_X4_add_b70 at hyp
  obtain ⟨m14, hm14, hyp⟩ := jbind hyp
  refine jr_ias (pc := 70) C S h_s1 h_s2 hm14 dX4_add_70 (fun H locs S => ?_)
  refine jr_goto (pc := 71) C (tgt := 124) dX4_add_71 (by decide) ?_
  cases hyp
  exact jr_vret C S trivial dX4_add_124
set_option maxHeartbeats 4000000 in
set_option maxRecDepth 100000 in
theorem t_X4_add_e {p : Program} {l : Launch} {e : Env} {s : State} {mi : MethodId} {args : Array Value} {below : List Frame} {meth : Method} {c : Code} {D : va_G} {cy : Nat → ClassId} {B sz : Nat} {sh : jm_S} {res : jm_M} (C : jCx p s mi args meth c cX4_add 5 RX4 none D cy) {a0 : Nat} {x1 : Int} (h_x1 : jIn x1) {x2 : Int} (h_x2 : jIn x2) {x3 : Int} (h_x3 : jIn x3) {m : jm_M} {H : Heap} {locs : List Loc} {ls : Array Slot} (S : jHs D cy B sz sh (jA B sz) s.heap H locs m) (L : jL ls [some (jR B a0), some (jI x1), some (jI x2), some (jI x3), none]) (hyp : f_X4_add sh a0 x1 x2 x3 m = some res) : W p l e (jrm 1 0 0) s mi args below meth c H locs 0 0 (MQ below (jQc D cy B sz sh res none True) args s 0 0 (jA B sz)) (F0 mi 0 ls []) := by
  unfold f_X4_add at hyp
  refine jr_iload_n (pc := 0) C L dX4_add_0 rfl rfl ?_
  refine jr_if_lt (pc := 1) C h_x1 (tgt := 11) dX4_add_1 (by decide) (fun c15 => ?_) (fun c15 => ?_)
  · have hyp := (if_pos c15).symm.trans hyp
    cases hyp
    exact jr_vret C S trivial dX4_add_11
  · have hyp := (if_neg c15).symm.trans hyp
    refine jr_iload_n (pc := 4) C L dX4_add_4 rfl rfl ?_
    refine jr_sipush (pc := 5) C dX4_add_5 (by decide) ?_
    refine jr_icmp_lt (pc := 8) C h_x1 (show jIn 625 from ⟨by decide, by decide⟩) (tgt := 12) dX4_add_8 (by decide) (fun c16 => ?_) (fun c16 => ?_)
    · have hyp := (if_pos c16).symm.trans hyp
      refine jr_aload_n (pc := 12) C L dX4_add_12 rfl rfl ?_
      obtain ⟨v17, hv17, hyp⟩ := jbind hyp
      refine jr_getR (pc := 13) C S lf_X4_18 rfl hv17 dX4_add_13 ?_
      refine jr_iload_n (pc := 16) C L dX4_add_16 rfl rfl ?_
      obtain ⟨v18, hv18, hyp⟩ := jbind hyp
      have iv18 := jra_in S hv18
      refine jr_ial (pc := 17) C S h_x1 hv18 dX4_add_17 ?_
      refine jr_iconst (pc := 18) C dX4_add_18 ?_
      refine jr_isub (pc := 19) C dX4_add_19 ?_
      refine jr_istore (pc := 20) C L dX4_add_20 (Nat.le_of_ble_eq_true rfl) (fun ls L => ?_)
      have L : jL ls [some (jR B a0), some (jI x1), some (jI x2), some (jI x3), some (jI (jw (v18 - 1)))] := L
      refine jr_iload (pc := 22) C L dX4_add_22 rfl ?_
      refine jr_if_lt (pc := 24) C (jIn_w _) (tgt := 74) dX4_add_24 (by decide) (fun c19 => ?_) (fun c19 => ?_)
      · have hyp := (if_pos c19).symm.trans hyp
        exact t_X4_add_b74 C   h_x1 h_x2 S (L.sub (jsub_s (jsub_s (jsub_s (jsub_n (jsub_n jsub_0)))))) hyp
      · have hyp := (if_neg c19).symm.trans hyp
        refine jr_iload (pc := 27) C L dX4_add_27 rfl ?_
        refine jr_sipush (pc := 29) C dX4_add_29 (by decide) ?_
        refine jr_icmp_ge (pc := 32) C (jIn_w _) (show jIn 625 from ⟨by decide, by decide⟩) (tgt := 74) dX4_add_32 (by decide) (fun c20 => ?_) (fun c20 => ?_)
        · have hyp := (if_pos c20).symm.trans hyp
          refine jr_aload_n (pc := 35) C L dX4_add_35 rfl rfl ?_
          obtain ⟨v21, hv21, hyp⟩ := jbind hyp
          refine jr_getR (pc := 36) C S lf_X4_15 rfl hv21 dX4_add_36 ?_
          refine jr_iload (pc := 39) C L dX4_add_39 rfl ?_
          refine jr_iload_n (pc := 41) C L dX4_add_41 rfl rfl ?_
          refine jr_if_eq (pc := 42) C h_x3 (tgt := 59) dX4_add_42 (by decide) (fun c22 => ?_) (fun c22 => ?_)
          · have hyp := (if_pos c22).symm.trans hyp
            refine jr_aload_n (pc := 59) C L dX4_add_59 rfl rfl ?_
            obtain ⟨v23, hv23, hyp⟩ := jbind hyp
            refine jr_getR (pc := 60) C S lf_X4_15 rfl hv23 dX4_add_60 ?_
            refine jr_iload (pc := 63) C L dX4_add_63 rfl ?_
            obtain ⟨v24, hv24, hyp⟩ := jbind hyp
            have iv24 := jra_in S hv24
            refine jr_ial (pc := 65) C S (jIn_w _) hv24 dX4_add_65 ?_
            refine jr_iload_n (pc := 66) C L dX4_add_66 rfl rfl ?_
            obtain ⟨q25, hq25, hyp⟩ := jbind hyp
            refine jr_callS_I (pc := 67) C S L (As := [jI v24, jI x2]) (rest := [jI (jw (v18 - 1)), jR B v21.toNat]) (c_J9_min_7cf53 (m0 := m) iv24 h_x2 hq25) ms_J9_min_7cf53 ml_X4_31 (by decide) rfl rfl rfl (by simp [jR_cat, jI_cat]) ⟨Nat.le_refl 0, Nat.le_refl 0⟩ dX4_add_67 (fun p26 H locs S => ?_)
            exact t_X4_add_b70 C   (jIn_w _) p26 S (L.sub (jsub_n (jsub_n (jsub_n (jsub_n (jsub_n jsub_0)))))) hyp
          · have hyp := (if_neg c22).symm.trans hyp
            refine jr_aload_n (pc := 45) C L dX4_add_45 rfl rfl ?_
            obtain ⟨v27, hv27, hyp⟩ := jbind hyp
            refine jr_getR (pc := 46) C S lf_X4_15 rfl hv27 dX4_add_46 ?_
            refine jr_iload (pc := 49) C L dX4_add_49 rfl ?_
            obtain ⟨v28, hv28, hyp⟩ := jbind hyp
            have iv28 := jra_in S hv28
            refine jr_ial (pc := 51) C S (jIn_w _) hv28 dX4_add_51 ?_
            refine jr_iload_n (pc := 52) C L dX4_add_52 rfl rfl ?_
            obtain ⟨q29, hq29, hyp⟩ := jbind hyp
            refine jr_callS_I (pc := 53) C S L (As := [jI v28, jI x2]) (rest := [jI (jw (v18 - 1)), jR B v21.toNat]) (c_J9_max_7cf53 (m0 := m) iv28 h_x2 hq29) ms_J9_max_7cf53 ml_X4_25 (by decide) rfl rfl rfl (by simp [jR_cat, jI_cat]) ⟨Nat.le_refl 0, Nat.le_refl 0⟩ dX4_add_53 (fun p30 H locs S => ?_)
            refine jr_goto (pc := 56) C (tgt := 70) dX4_add_56 (by decide) ?_
            exact t_X4_add_b70 C   (jIn_w _) p30 S (L.sub (jsub_n (jsub_n (jsub_n (jsub_n (jsub_n jsub_0)))))) hyp
        · have hyp := (if_neg c20).symm.trans hyp
          exact t_X4_add_b74 C   h_x1 h_x2 S (L.sub (jsub_s (jsub_s (jsub_s (jsub_n (jsub_n jsub_0)))))) hyp
    · have hyp := (if_neg c16).symm.trans hyp
      cases hyp
      exact jr_vret C S trivial dX4_add_11
theorem c_X4_add {l : Launch} {D : va_G} {cy : Nat → ClassId} {B sz : Nat} {sh : jm_S} {res : jm_M} {m : jm_M} {a0 : Nat} {x1 : Int} (h_x1 : jIn x1) {x2 : Int} (h_x2 : jIn x2) {x3 : Int} (h_x3 : jIn x3) (hyp : f_X4_add sh a0 x1 x2 x3 m = some res) : jCt l D cy B sz sh 1 yX4_add cX4_add 5 none [jR B a0, jI x1, jI x2, jI x3] m none res True :=
  jc_of (by decide) (fun v h => by simp only [List.mem_cons, List.not_mem_nil, or_false] at h; rcases h with rfl | rfl | rfl | rfl <;> first | rfl | exact jR_cat _ _) (Nat.le_of_ble_eq_true rfl) (fun C S L => t_X4_add_e C  h_x1 h_x2 h_x3 S L hyp)
set_option maxHeartbeats 4000000 in
set_option maxRecDepth 100000 in
theorem t_X4_shelfAt_e {p : Program} {l : Launch} {e : Env} {s : State} {mi : MethodId} {args : Array Value} {below : List Frame} {meth : Method} {c : Code} {D : va_G} {cy : Nat → ClassId} {B sz : Nat} {sh : jm_S} {res : Int} {m0 : jm_M} (C : jCx p s mi args meth c cX4_shelfAt 2 RX4 (some .int) D cy) {a0 : Nat} {x1 : Int} (h_x1 : jIn x1) {H : Heap} {locs : List Loc} {ls : Array Slot} (S : jHs D cy B sz sh (jA B sz) s.heap H locs m0) (L : jL ls [some (jR B a0), some (jI x1)]) (hyp : f_X4_shelfAt sh a0 x1 m0 = some res) : W p l e (jrm 0 0 0) s mi args below meth c H locs 0 0 (MQ below (jQc D cy B sz sh m0 (some (jI res)) (jIn res)) args s 0 0 (jA B sz)) (F0 mi 0 ls []) := by
  unfold f_X4_shelfAt at hyp
  refine jr_iload_n (pc := 0) C L dX4_shelfAt_0 rfl rfl ?_
  refine jr_if_lt (pc := 1) C h_x1 (tgt := 20) dX4_shelfAt_1 (by decide) (fun c1 => ?_) (fun c1 => ?_)
  · have hyp := (if_pos c1).symm.trans hyp
    refine jr_iconst (pc := 20) C dX4_shelfAt_20 ?_
    cases hyp
    exact jr_iret C S (show jIn 0 from ⟨by decide, by decide⟩) dX4_shelfAt_21
  · have hyp := (if_neg c1).symm.trans hyp
    refine jr_iload_n (pc := 4) C L dX4_shelfAt_4 rfl rfl ?_
    refine jr_sipush (pc := 5) C dX4_shelfAt_5 (by decide) ?_
    refine jr_icmp_ge (pc := 8) C h_x1 (show jIn 625 from ⟨by decide, by decide⟩) (tgt := 20) dX4_shelfAt_8 (by decide) (fun c2 => ?_) (fun c2 => ?_)
    · have hyp := (if_pos c2).symm.trans hyp
      refine jr_aload_n (pc := 11) C L dX4_shelfAt_11 rfl rfl ?_
      obtain ⟨v3, hv3, hyp⟩ := jbind hyp
      refine jr_getR (pc := 12) C S lf_X4_9 rfl hv3 dX4_shelfAt_12 ?_
      refine jr_iload_n (pc := 15) C L dX4_shelfAt_15 rfl rfl ?_
      obtain ⟨v4, hv4, hyp⟩ := jbind hyp
      have iv4 := jra_in S hv4
      refine jr_ial (pc := 16) C S h_x1 hv4 dX4_shelfAt_16 ?_
      refine jr_goto (pc := 17) C (tgt := 21) dX4_shelfAt_17 (by decide) ?_
      cases hyp
      exact jr_iret C S iv4 dX4_shelfAt_21
    · have hyp := (if_neg c2).symm.trans hyp
      refine jr_iconst (pc := 20) C dX4_shelfAt_20 ?_
      cases hyp
      exact jr_iret C S (show jIn 0 from ⟨by decide, by decide⟩) dX4_shelfAt_21
theorem c_X4_shelfAt {l : Launch} {D : va_G} {cy : Nat → ClassId} {B sz : Nat} {sh : jm_S} {res : Int} {m0 : jm_M} {a0 : Nat} {x1 : Int} (h_x1 : jIn x1) (hyp : f_X4_shelfAt sh a0 x1 m0 = some res) : jCt l D cy B sz sh 0 yX4_shelfAt cX4_shelfAt 2 (some .int) [jR B a0, jI x1] m0 (some (jI res)) m0 (jIn res) :=
  jc_of (by decide) (fun v h => by simp only [List.mem_cons, List.not_mem_nil, or_false] at h; rcases h with rfl | rfl <;> first | rfl | exact jR_cat _ _) (Nat.le_of_ble_eq_true rfl) (fun C S L => t_X4_shelfAt_e C  h_x1 S L hyp)
set_option maxHeartbeats 4000000 in
set_option maxRecDepth 100000 in
theorem t_X4_costAt_e {p : Program} {l : Launch} {e : Env} {s : State} {mi : MethodId} {args : Array Value} {below : List Frame} {meth : Method} {c : Code} {D : va_G} {cy : Nat → ClassId} {B sz : Nat} {sh : jm_S} {res : Int} {m0 : jm_M} (C : jCx p s mi args meth c cX4_costAt 2 RX4 (some .int) D cy) {a0 : Nat} {x1 : Int} (h_x1 : jIn x1) {H : Heap} {locs : List Loc} {ls : Array Slot} (S : jHs D cy B sz sh (jA B sz) s.heap H locs m0) (L : jL ls [some (jR B a0), some (jI x1)]) (hyp : f_X4_costAt sh a0 x1 m0 = some res) : W p l e (jrm 0 0 0) s mi args below meth c H locs 0 0 (MQ below (jQc D cy B sz sh m0 (some (jI res)) (jIn res)) args s 0 0 (jA B sz)) (F0 mi 0 ls []) := by
  unfold f_X4_costAt at hyp
  refine jr_iload_n (pc := 0) C L dX4_costAt_0 rfl rfl ?_
  refine jr_if_lt (pc := 1) C h_x1 (tgt := 20) dX4_costAt_1 (by decide) (fun c1 => ?_) (fun c1 => ?_)
  · have hyp := (if_pos c1).symm.trans hyp
    refine jr_iconst (pc := 20) C dX4_costAt_20 ?_
    cases hyp
    exact jr_iret C S (show jIn 0 from ⟨by decide, by decide⟩) dX4_costAt_21
  · have hyp := (if_neg c1).symm.trans hyp
    refine jr_iload_n (pc := 4) C L dX4_costAt_4 rfl rfl ?_
    refine jr_sipush (pc := 5) C dX4_costAt_5 (by decide) ?_
    refine jr_icmp_ge (pc := 8) C h_x1 (show jIn 625 from ⟨by decide, by decide⟩) (tgt := 20) dX4_costAt_8 (by decide) (fun c2 => ?_) (fun c2 => ?_)
    · have hyp := (if_pos c2).symm.trans hyp
      refine jr_aload_n (pc := 11) C L dX4_costAt_11 rfl rfl ?_
      obtain ⟨v3, hv3, hyp⟩ := jbind hyp
      refine jr_getR (pc := 12) C S lf_X4_15 rfl hv3 dX4_costAt_12 ?_
      refine jr_iload_n (pc := 15) C L dX4_costAt_15 rfl rfl ?_
      obtain ⟨v4, hv4, hyp⟩ := jbind hyp
      have iv4 := jra_in S hv4
      refine jr_ial (pc := 16) C S h_x1 hv4 dX4_costAt_16 ?_
      refine jr_goto (pc := 17) C (tgt := 21) dX4_costAt_17 (by decide) ?_
      cases hyp
      exact jr_iret C S iv4 dX4_costAt_21
    · have hyp := (if_neg c2).symm.trans hyp
      refine jr_iconst (pc := 20) C dX4_costAt_20 ?_
      cases hyp
      exact jr_iret C S (show jIn 0 from ⟨by decide, by decide⟩) dX4_costAt_21
theorem c_X4_costAt {l : Launch} {D : va_G} {cy : Nat → ClassId} {B sz : Nat} {sh : jm_S} {res : Int} {m0 : jm_M} {a0 : Nat} {x1 : Int} (h_x1 : jIn x1) (hyp : f_X4_costAt sh a0 x1 m0 = some res) : jCt l D cy B sz sh 0 yX4_costAt cX4_costAt 2 (some .int) [jR B a0, jI x1] m0 (some (jI res)) m0 (jIn res) :=
  jc_of (by decide) (fun v h => by simp only [List.mem_cons, List.not_mem_nil, or_false] at h; rcases h with rfl | rfl <;> first | rfl | exact jR_cat _ _) (Nat.le_of_ble_eq_true rfl) (fun C S L => t_X4_costAt_e C  h_x1 S L hyp)
set_option maxHeartbeats 4000000 in
set_option maxRecDepth 100000 in
theorem t_X4_addAll_b2 {p : Program} {l : Launch} {e : Env} {s : State} {mi : MethodId} {args : Array Value} {below : List Frame} {meth : Method} {c : Code} {D : va_G} {cy : Nat → ClassId} {B sz : Nat} {sh : jm_S} {res : jm_M} {N : Nat} {k2 : Nat → Nat → Int → Int → jm_M → Option jm_M} (C : jCx p s mi args meth c cX4_addAll 4 RX4 none D cy) (K2 : ∀ (a0 : Nat) (a1 : Nat) (x2 : Int) (x3 : Int) , jIn x2 → jIn x3 → ∀ (m : jm_M) (H : Heap) (locs : List Loc) (ls : Array Slot), jHs D cy B sz sh (jA B sz) s.heap H locs m → jL ls [some (jR B a0), some (jR B a1), some (jI x2), some (jI x3)] → k2 a0 a1 x2 x3 m = some res → W p l e (jrm 2 0 0) s mi args below meth c H locs 0 0 (MQ below (jQc D cy B sz sh res none True) args s 0 0 (jA B sz)) (F0 mi 2 ls [])) {a0 : Nat} {a1 : Nat} {x2 : Int} (h_x2 : jIn x2) {x3 : Int} (h_x3 : jIn x3) {m : jm_M} {H : Heap} {locs : List Loc} {ls : Array Slot} (S : jHs D cy B sz sh (jA B sz) s.heap H locs m) (L : jL ls [some (jR B a0), some (jR B a1), some (jI x2), some (jI x3)]) (hyp : f_X4_addAll_b2 N sh k2 a0 a1 x2 x3 m = some res) : W p l e (jrm 2 0 0) s mi args below meth c H locs 0 0 (MQ below (jQc D cy B sz sh res none True) args s 0 0 (jA B sz)) (F0 mi 2 ls []) := by
  unfold f_X4_addAll_b2 at hyp
  refine jr_iload_n (pc := 2) C L dX4_addAll_2 rfl rfl ?_
  refine jr_aload_n (pc := 3) C L dX4_addAll_3 rfl rfl ?_
  obtain ⟨v1, hv1, hyp⟩ := jbind hyp
  have iv1 := jrf_in S hv1
  refine jr_getI (pc := 4) C S lf_X4_21 rfl hv1 dX4_addAll_4 ?_
  refine jr_icmp_ge (pc := 7) C h_x3 iv1 (tgt := 31) dX4_addAll_7 (by decide) (fun c2 => ?_) (fun c2 => ?_)
  · have hyp := (if_pos c2).symm.trans hyp
    refine jr_aload_n (pc := 10) C L dX4_addAll_10 rfl rfl ?_
    refine jr_aload_n (pc := 11) C L dX4_addAll_11 rfl rfl ?_
    refine jr_iload_n (pc := 12) C L dX4_addAll_12 rfl rfl ?_
    obtain ⟨u3, hu3, hyp⟩ := jbind hyp
    obtain ⟨q4, hq4, hyp⟩ := jbind hyp
    refine jr_callV_I (pc := 13) C S L (As := [jI x3]) (rest := [jR B a0]) (c_X4_shelfAt (m0 := m) h_x3 hq4) mv_X4_shelfAt ml_X4_34 rfl (jck_spec hu3) (by decide) rfl rfl rfl (by simp [jR_cat, jI_cat]) ⟨Nat.le_refl 0, Nat.le_refl 0⟩ dX4_addAll_13 (fun p5 H locs S => ?_)
    refine jr_aload_n (pc := 16) C L dX4_addAll_16 rfl rfl ?_
    refine jr_iload_n (pc := 17) C L dX4_addAll_17 rfl rfl ?_
    obtain ⟨u6, hu6, hyp⟩ := jbind hyp
    obtain ⟨q7, hq7, hyp⟩ := jbind hyp
    refine jr_callV_I (pc := 18) C S L (As := [jI x3]) (rest := [jI q4, jR B a0]) (c_X4_costAt (m0 := m) h_x3 hq7) mv_X4_costAt ml_X4_38 rfl (jck_spec hu6) (by decide) rfl rfl rfl (by simp [jR_cat, jI_cat]) ⟨Nat.le_refl 0, Nat.le_refl 0⟩ dX4_addAll_18 (fun p8 H locs S => ?_)
    refine jr_iload_n (pc := 21) C L dX4_addAll_21 rfl rfl ?_
    obtain ⟨u9, hu9, hyp⟩ := jbind hyp
    obtain ⟨q10, hq10, hyp⟩ := jbind hyp
    refine jr_callV_N (pc := 22) C S L (As := [jI q4, jI q7, jI x2]) (rest := []) (c_X4_add p5 p8 h_x2 hq10) mv_X4_add ml_X4_41 rfl (jck_spec hu9) (by decide) rfl rfl rfl (Nat.le_of_ble_eq_true rfl) ⟨Nat.le_refl 0, Nat.le_refl 0⟩ dX4_addAll_22 (fun p11 H locs S => ?_)
    refine jr_iinc (pc := 25) C L dX4_addAll_25 rfl (Nat.le_of_ble_eq_true rfl) (fun ls L => ?_)
    have L : jL ls [some (jR B a0), some (jR B a1), some (jI x2), some (jI (jw (x3 + 1)))] := L
    refine jr_goto (pc := 28) C (tgt := 2) dX4_addAll_28 (by decide) ?_
    exact K2 a0 a1 x2 (jw (x3 + 1)) h_x2 (jIn_w _) q10 _ _ _ S (L.sub (jsub_s (jsub_s (jsub_s (jsub_s jsub_0))))) hyp
  · have hyp := (if_neg c2).symm.trans hyp
    cases hyp
    exact jr_vret C S trivial dX4_addAll_31
theorem t_X4_addAll_l2 {p : Program} {l : Launch} {e : Env} {s : State} {mi : MethodId} {args : Array Value} {below : List Frame} {meth : Method} {c : Code} {D : va_G} {cy : Nat → ClassId} {B sz : Nat} {sh : jm_S} {res : jm_M} {N : Nat} (C : jCx p s mi args meth c cX4_addAll 4 RX4 none D cy) : ∀ (n : Nat) (a0 : Nat) (a1 : Nat) (x2 : Int) (x3 : Int), jIn x2 → jIn x3 → ∀ (m : jm_M) (H : Heap) (locs : List Loc) (ls : Array Slot), jHs D cy B sz sh (jA B sz) s.heap H locs m → jL ls [some (jR B a0), some (jR B a1), some (jI x2), some (jI x3)] → f_X4_addAll_l2 N sh n a0 a1 x2 x3 m = some res → W p l e (jrm 2 0 0) s mi args below meth c H locs 0 0 (MQ below (jQc D cy B sz sh res none True) args s 0 0 (jA B sz)) (F0 mi 2 ls []) := by
  intro n
  induction n with
  | zero => intro a0 a1 x2 x3 h_x2 h_x3 m H locs ls S L hyp; cases hyp
  | succ n ih => intro a0 a1 x2 x3 h_x2 h_x3 m H locs ls S L hyp; exact t_X4_addAll_b2 (N := N) C  ih h_x2 h_x3 S L hyp
set_option maxHeartbeats 4000000 in
set_option maxRecDepth 100000 in
theorem t_X4_addAll_e {p : Program} {l : Launch} {e : Env} {s : State} {mi : MethodId} {args : Array Value} {below : List Frame} {meth : Method} {c : Code} {D : va_G} {cy : Nat → ClassId} {B sz : Nat} {sh : jm_S} {res : jm_M} {N : Nat} (C : jCx p s mi args meth c cX4_addAll 4 RX4 none D cy) {a0 : Nat} {a1 : Nat} {x2 : Int} (h_x2 : jIn x2) {m : jm_M} {H : Heap} {locs : List Loc} {ls : Array Slot} (S : jHs D cy B sz sh (jA B sz) s.heap H locs m) (L : jL ls [some (jR B a0), some (jR B a1), some (jI x2), none]) (hyp : f_X4_addAll N sh a0 a1 x2 m = some res) : W p l e (jrm 2 0 0) s mi args below meth c H locs 0 0 (MQ below (jQc D cy B sz sh res none True) args s 0 0 (jA B sz)) (F0 mi 0 ls []) := by
  unfold f_X4_addAll at hyp
  refine jr_iconst (pc := 0) C dX4_addAll_0 ?_
  refine jr_istore_n (pc := 1) C L dX4_addAll_1 rfl (Nat.le_of_ble_eq_true rfl) (fun ls L => ?_)
  have L : jL ls [some (jR B a0), some (jR B a1), some (jI x2), some (jI 0)] := L
  exact t_X4_addAll_l2 C   N a0 a1 x2 0 h_x2 (show jIn 0 from ⟨by decide, by decide⟩) m _ _ _ S (L.sub (jsub_s (jsub_s (jsub_s (jsub_s jsub_0))))) hyp
theorem c_X4_addAll {l : Launch} {D : va_G} {cy : Nat → ClassId} {B sz : Nat} {sh : jm_S} {res : jm_M} {N : Nat} {m : jm_M} {a0 : Nat} {a1 : Nat} {x2 : Int} (h_x2 : jIn x2) (hyp : f_X4_addAll N sh a0 a1 x2 m = some res) : jCt l D cy B sz sh 2 yX4_addAll cX4_addAll 4 none [jR B a0, jR B a1, jI x2] m none res True :=
  jc_of (by decide) (fun v h => by simp only [List.mem_cons, List.not_mem_nil, or_false] at h; rcases h with rfl | rfl | rfl <;> first | rfl | exact jR_cat _ _) (Nat.le_of_ble_eq_true rfl) (fun C S L => t_X4_addAll_e C  h_x2 S L hyp)
set_option maxHeartbeats 4000000 in
set_option maxRecDepth 100000 in
theorem t_X10_allLines_e {p : Program} {l : Launch} {e : Env} {s : State} {mi : MethodId} {args : Array Value} {below : List Frame} {meth : Method} {c : Code} {D : va_G} {cy : Nat → ClassId} {B sz : Nat} {sh : jm_S} {res : Int} {m0 : jm_M} (C : jCx p s mi args meth c cX10_allLines 1 RX10 (some .int) D cy) {a0 : Nat} {H : Heap} {locs : List Loc} {ls : Array Slot} (S : jHs D cy B sz sh (jA B sz) s.heap H locs m0) (L : jL ls [some (jR B a0)]) (hyp : f_X10_allLines sh a0 m0 = some res) : W p l e (jrm 0 0 0) s mi args below meth c H locs 0 0 (MQ below (jQc D cy B sz sh m0 (some (jI res)) (jIn res)) args s 0 0 (jA B sz)) (F0 mi 0 ls []) := by
  unfold f_X10_allLines at hyp
  refine jr_aload_n (pc := 0) C L dX10_allLines_0 rfl rfl ?_
  obtain ⟨v1, hv1, hyp⟩ := jbind hyp
  refine jr_getR (pc := 1) C S lf_X10_22 rfl hv1 dX10_allLines_1 ?_
  refine jr_iconst (pc := 4) C dX10_allLines_4 ?_
  obtain ⟨v2, hv2, hyp⟩ := jbind hyp
  have iv2 := jra_in S hv2
  refine jr_ial (pc := 5) C S (show jIn 0 from ⟨by decide, by decide⟩) hv2 dX10_allLines_5 ?_
  cases hyp
  exact jr_iret C S iv2 dX10_allLines_6
theorem c_X10_allLines {l : Launch} {D : va_G} {cy : Nat → ClassId} {B sz : Nat} {sh : jm_S} {res : Int} {m0 : jm_M} {a0 : Nat} (hyp : f_X10_allLines sh a0 m0 = some res) : jCt l D cy B sz sh 0 yX10_allLines cX10_allLines 1 (some .int) [jR B a0] m0 (some (jI res)) m0 (jIn res) :=
  jc_of (by decide) (fun v h => by rw [List.mem_singleton.mp h]; first | rfl | exact jR_cat _ _) (Nat.le_of_ble_eq_true rfl) (fun C S L => t_X10_allLines_e C   S L hyp)
set_option maxHeartbeats 4000000 in
set_option maxRecDepth 100000 in
theorem t_X7_enrol_e {p : Program} {l : Launch} {e : Env} {s : State} {mi : MethodId} {args : Array Value} {below : List Frame} {meth : Method} {c : Code} {D : va_G} {cy : Nat → ClassId} {B sz : Nat} {sh : jm_S} {res : jm_M} (C : jCx p s mi args meth c cX7_enrol 3 RX7 none D cy) {a0 : Nat} {x1 : Int} (h_x1 : jIn x1) {x2 : Int} (h_x2 : jIn x2) {m : jm_M} {H : Heap} {locs : List Loc} {ls : Array Slot} (S : jHs D cy B sz sh (jA B sz) s.heap H locs m) (L : jL ls [some (jR B a0), some (jI x1), some (jI x2)]) (hyp : f_X7_enrol sh a0 x1 x2 m = some res) : W p l e (jrm 1 0 0) s mi args below meth c H locs 0 0 (MQ below (jQc D cy B sz sh res none True) args s 0 0 (jA B sz)) (F0 mi 0 ls []) := by
  unfold f_X7_enrol at hyp
  refine jr_iload_n (pc := 0) C L dX7_enrol_0 rfl rfl ?_
  refine jr_if_lt (pc := 1) C h_x1 (tgt := 19) dX7_enrol_1 (by decide) (fun c1 => ?_) (fun c1 => ?_)
  · have hyp := (if_pos c1).symm.trans hyp
    cases hyp
    exact jr_vret C S trivial dX7_enrol_19
  · have hyp := (if_neg c1).symm.trans hyp
    refine jr_iload_n (pc := 4) C L dX7_enrol_4 rfl rfl ?_
    refine jr_bipush (pc := 5) C dX7_enrol_5 (by decide) ?_
    refine jr_icmp_ge (pc := 7) C h_x1 (show jIn 8 from ⟨by decide, by decide⟩) (tgt := 19) dX7_enrol_7 (by decide) (fun c2 => ?_) (fun c2 => ?_)
    · have hyp := (if_pos c2).symm.trans hyp
      refine jr_iload_n (pc := 10) C L dX7_enrol_10 rfl rfl ?_
      refine jr_if_lt (pc := 11) C h_x2 (tgt := 19) dX7_enrol_11 (by decide) (fun c3 => ?_) (fun c3 => ?_)
      · have hyp := (if_pos c3).symm.trans hyp
        cases hyp
        exact jr_vret C S trivial dX7_enrol_19
      · have hyp := (if_neg c3).symm.trans hyp
        refine jr_iload_n (pc := 14) C L dX7_enrol_14 rfl rfl ?_
        refine jr_iconst (pc := 15) C dX7_enrol_15 ?_
        refine jr_icmp_lt (pc := 16) C h_x2 (show jIn 4 from ⟨by decide, by decide⟩) (tgt := 20) dX7_enrol_16 (by decide) (fun c4 => ?_) (fun c4 => ?_)
        · have hyp := (if_pos c4).symm.trans hyp
          refine jr_aload_n (pc := 20) C L dX7_enrol_20 rfl rfl ?_
          obtain ⟨v5, hv5, hyp⟩ := jbind hyp
          refine jr_getR (pc := 21) C S lf_X7_9 rfl hv5 dX7_enrol_21 ?_
          refine jr_iload_n (pc := 24) C L dX7_enrol_24 rfl rfl ?_
          refine jr_iload_n (pc := 25) C L dX7_enrol_25 rfl rfl ?_
          obtain ⟨m6, hm6, hyp⟩ := jbind hyp
          refine jr_ias (pc := 26) C S h_x1 h_x2 hm6 dX7_enrol_26 (fun H locs S => ?_)
          refine jr_aload_n (pc := 27) C L dX7_enrol_27 rfl rfl ?_
          obtain ⟨v7, hv7, hyp⟩ := jbind hyp
          refine jr_getR (pc := 28) C S lf_X7_15 rfl hv7 dX7_enrol_28 ?_
          refine jr_iload_n (pc := 31) C L dX7_enrol_31 rfl rfl ?_
          refine jr_iconst (pc := 32) C dX7_enrol_32 ?_
          obtain ⟨m8, hm8, hyp⟩ := jbind hyp
          refine jr_ias (pc := 33) C S h_x1 (show jIn (-1) from ⟨by decide, by decide⟩) hm8 dX7_enrol_33 (fun H locs S => ?_)
          refine jr_aload_n (pc := 34) C L dX7_enrol_34 rfl rfl ?_
          obtain ⟨v9, hv9, hyp⟩ := jbind hyp
          have iv9 := jrf_in S hv9
          refine jr_getI (pc := 35) C S lf_X7_35 rfl hv9 dX7_enrol_35 ?_
          refine jr_iload_n (pc := 38) C L dX7_enrol_38 rfl rfl ?_
          obtain ⟨q10, hq10, hyp⟩ := jbind hyp
          refine jr_callSN_I (pc := 39) C S L (As := [jI v9, jI x1]) (rest := []) (c_X11_isIn (m0 := m8) iv9 h_x1 hq10) ms_X11_isIn mn_X7_62 (by decide) rfl rfl rfl (Nat.le_of_ble_eq_true rfl) ⟨Nat.le_refl 0, Nat.le_refl 0⟩ dX7_enrol_39 (fun p11 H locs S => ?_)
          refine jr_if_eq (pc := 42) C p11 (tgt := 58) dX7_enrol_42 (by decide) (fun c12 => ?_) (fun c12 => ?_)
          · have hyp := (if_pos c12).symm.trans hyp
            refine jr_aload_n (pc := 58) C L dX7_enrol_58 rfl rfl ?_
            obtain ⟨v13, hv13, hyp⟩ := jbind hyp
            have iv13 := jrf_in S hv13
            refine jr_getI (pc := 59) C S lf_X7_39 rfl hv13 dX7_enrol_59 ?_
            refine jr_iload_n (pc := 62) C L dX7_enrol_62 rfl rfl ?_
            obtain ⟨q14, hq14, hyp⟩ := jbind hyp
            refine jr_callSN_I (pc := 63) C S L (As := [jI v13, jI x1]) (rest := []) (c_X11_isIn (m0 := m8) iv13 h_x1 hq14) ms_X11_isIn mn_X7_62 (by decide) rfl rfl rfl (Nat.le_of_ble_eq_true rfl) ⟨Nat.le_refl 0, Nat.le_refl 0⟩ dX7_enrol_63 (fun p15 H locs S => ?_)
            refine jr_if_eq (pc := 66) C p15 (tgt := 91) dX7_enrol_66 (by decide) (fun c16 => ?_) (fun c16 => ?_)
            · have hyp := (if_pos c16).symm.trans hyp
              cases hyp
              exact jr_vret C S trivial dX7_enrol_91
            · have hyp := (if_neg c16).symm.trans hyp
              refine jr_aload_n (pc := 69) C L dX7_enrol_69 rfl rfl ?_
              obtain ⟨v17, hv17, hyp⟩ := jbind hyp
              refine jr_getR (pc := 70) C S lf_X7_15 rfl hv17 dX7_enrol_70 ?_
              refine jr_iload_n (pc := 73) C L dX7_enrol_73 rfl rfl ?_
              refine jr_aload_n (pc := 74) C L dX7_enrol_74 rfl rfl ?_
              obtain ⟨v18, hv18, hyp⟩ := jbind hyp
              refine jr_getR (pc := 75) C S lf_X7_21 rfl hv18 dX7_enrol_75 ?_
              refine jr_iload_n (pc := 78) C L dX7_enrol_78 rfl rfl ?_
              obtain ⟨v19, hv19, hyp⟩ := jbind hyp
              have iv19 := jra_in S hv19
              refine jr_ial (pc := 79) C S h_x2 hv19 dX7_enrol_79 ?_
              obtain ⟨m20, hm20, hyp⟩ := jbind hyp
              refine jr_ias (pc := 80) C S h_x1 iv19 hm20 dX7_enrol_80 (fun H locs S => ?_)
              refine jr_aload_n (pc := 81) C L dX7_enrol_81 rfl rfl ?_
              obtain ⟨v21, hv21, hyp⟩ := jbind hyp
              refine jr_getR (pc := 82) C S lf_X7_21 rfl hv21 dX7_enrol_82 ?_
              refine jr_iload_n (pc := 85) C L dX7_enrol_85 rfl rfl ?_
              refine jr_dup2 (pc := 86) C dX7_enrol_86 ?_
              obtain ⟨v22, hv22, hyp⟩ := jbind hyp
              have iv22 := jra_in S hv22
              refine jr_ial (pc := 87) C S h_x2 hv22 dX7_enrol_87 ?_
              refine jr_iconst (pc := 88) C dX7_enrol_88 ?_
              refine jr_iadd (pc := 89) C dX7_enrol_89 ?_
              obtain ⟨m23, hm23, hyp⟩ := jbind hyp
              refine jr_ias (pc := 90) C S h_x2 (jIn_w _) hm23 dX7_enrol_90 (fun H locs S => ?_)
              cases hyp
              exact jr_vret C S trivial dX7_enrol_91
          · have hyp := (if_neg c12).symm.trans hyp
            refine jr_aload_n (pc := 45) C L dX7_enrol_45 rfl rfl ?_
            obtain ⟨v24, hv24, hyp⟩ := jbind hyp
            refine jr_getR (pc := 46) C S lf_X7_18 rfl hv24 dX7_enrol_46 ?_
            refine jr_iload_n (pc := 49) C L dX7_enrol_49 rfl rfl ?_
            refine jr_dup2 (pc := 50) C dX7_enrol_50 ?_
            obtain ⟨v25, hv25, hyp⟩ := jbind hyp
            have iv25 := jra_in S hv25
            refine jr_ial (pc := 51) C S h_x2 hv25 dX7_enrol_51 ?_
            refine jr_iconst (pc := 52) C dX7_enrol_52 ?_
            refine jr_isub (pc := 53) C dX7_enrol_53 ?_
            obtain ⟨m26, hm26, hyp⟩ := jbind hyp
            refine jr_ias (pc := 54) C S h_x2 (jIn_w _) hm26 dX7_enrol_54 (fun H locs S => ?_)
            refine jr_goto (pc := 55) C (tgt := 91) dX7_enrol_55 (by decide) ?_
            cases hyp
            exact jr_vret C S trivial dX7_enrol_91
        · have hyp := (if_neg c4).symm.trans hyp
          cases hyp
          exact jr_vret C S trivial dX7_enrol_19
    · have hyp := (if_neg c2).symm.trans hyp
      cases hyp
      exact jr_vret C S trivial dX7_enrol_19
theorem c_X7_enrol {l : Launch} {D : va_G} {cy : Nat → ClassId} {B sz : Nat} {sh : jm_S} {res : jm_M} {m : jm_M} {a0 : Nat} {x1 : Int} (h_x1 : jIn x1) {x2 : Int} (h_x2 : jIn x2) (hyp : f_X7_enrol sh a0 x1 x2 m = some res) : jCt l D cy B sz sh 1 yX7_enrol cX7_enrol 3 none [jR B a0, jI x1, jI x2] m none res True :=
  jc_of (by decide) (fun v h => by simp only [List.mem_cons, List.not_mem_nil, or_false] at h; rcases h with rfl | rfl | rfl <;> first | rfl | exact jR_cat _ _) (Nat.le_of_ble_eq_true rfl) (fun C S L => t_X7_enrol_e C  h_x1 h_x2 S L hyp)
set_option maxHeartbeats 4000000 in
set_option maxRecDepth 100000 in
theorem t_X7_looksOf_e {p : Program} {l : Launch} {e : Env} {s : State} {mi : MethodId} {args : Array Value} {below : List Frame} {meth : Method} {c : Code} {D : va_G} {cy : Nat → ClassId} {B sz : Nat} {sh : jm_S} {res : Int} {m0 : jm_M} (C : jCx p s mi args meth c cX7_looksOf 2 RX7 (some .int) D cy) {x0 : Int} (h_x0 : jIn x0) {x1 : Int} (h_x1 : jIn x1) {H : Heap} {locs : List Loc} {ls : Array Slot} (S : jHs D cy B sz sh (jA B sz) s.heap H locs m0) (L : jL ls [some (jI x0), some (jI x1)]) (hyp : f_X7_looksOf x0 x1 = some res) : W p l e (jrm 0 0 0) s mi args below meth c H locs 0 0 (MQ below (jQc D cy B sz sh m0 (some (jI res)) (jIn res)) args s 0 0 (jA B sz)) (F0 mi 0 ls []) := by
  unfold f_X7_looksOf at hyp
  refine jr_iload_n (pc := 0) C L dX7_looksOf_0 rfl rfl ?_
  by_cases c1 : (1 : Int) = x0
  · have hyp := (if_pos c1).symm.trans hyp
    refine jr_lookup (pc := 1) C h_x0 (off := 27) (tgt := 28) dX7_looksOf_1 rfl (if_pos c1) (by decide) ?_
    refine jr_iconst (pc := 28) C dX7_looksOf_28 ?_
    refine jr_iload_n (pc := 29) C L dX7_looksOf_29 rfl rfl ?_
    refine jr_iadd (pc := 30) C dX7_looksOf_30 ?_
    cases hyp
    exact jr_iret C S (jIn_w _) dX7_looksOf_31
  have hyp := (if_neg c1).symm.trans hyp
  by_cases c2 : (2 : Int) = x0
  · have hyp := (if_pos c2).symm.trans hyp
    refine jr_lookup (pc := 1) C h_x0 (off := 31) (tgt := 32) dX7_looksOf_1 rfl ((if_neg c1).trans (if_pos c2)) (by decide) ?_
    refine jr_iconst (pc := 32) C dX7_looksOf_32 ?_
    refine jr_iload_n (pc := 33) C L dX7_looksOf_33 rfl rfl ?_
    refine jr_iload_n (pc := 34) C L dX7_looksOf_34 rfl rfl ?_
    refine jr_imul (pc := 35) C dX7_looksOf_35 ?_
    refine jr_iadd (pc := 36) C dX7_looksOf_36 ?_
    cases hyp
    exact jr_iret C S (jIn_w _) dX7_looksOf_37
  have hyp := (if_neg c2).symm.trans hyp
  refine jr_lookup (pc := 1) C h_x0 (off := 37) (tgt := 38) dX7_looksOf_1 rfl ((if_neg c1).trans ((if_neg c2).trans rfl)) (by decide) ?_
  refine jr_iconst (pc := 38) C dX7_looksOf_38 ?_
  cases hyp
  exact jr_iret C S (show jIn 1 from ⟨by decide, by decide⟩) dX7_looksOf_39
theorem c_X7_looksOf {l : Launch} {D : va_G} {cy : Nat → ClassId} {B sz : Nat} {sh : jm_S} {res : Int} {m0 : jm_M} {x0 : Int} (h_x0 : jIn x0) {x1 : Int} (h_x1 : jIn x1) (hyp : f_X7_looksOf x0 x1 = some res) : jCt l D cy B sz sh 0 yX7_looksOf cX7_looksOf 2 (some .int) [jI x0, jI x1] m0 (some (jI res)) m0 (jIn res) :=
  jc_of (by decide) (fun v h => by simp only [List.mem_cons, List.not_mem_nil, or_false] at h; rcases h with rfl | rfl <;> first | rfl | exact jR_cat _ _) (Nat.le_of_ble_eq_true rfl) (fun C S L => t_X7_looksOf_e C  h_x0 h_x1 S L hyp)
set_option maxHeartbeats 4000000 in
set_option maxRecDepth 100000 in
theorem t_X7_newestOf_e {p : Program} {l : Launch} {e : Env} {s : State} {mi : MethodId} {args : Array Value} {below : List Frame} {meth : Method} {c : Code} {D : va_G} {cy : Nat → ClassId} {B sz : Nat} {sh : jm_S} {res : Int} {m0 : jm_M} (C : jCx p s mi args meth c cX7_newestOf 4 RX7 (some .int) D cy) {a0 : Nat} {x1 : Int} (h_x1 : jIn x1) {x2 : Int} (h_x2 : jIn x2) {H : Heap} {locs : List Loc} {ls : Array Slot} (S : jHs D cy B sz sh (jA B sz) s.heap H locs m0) (L : jL ls [some (jR B a0), some (jI x1), some (jI x2), none]) (hyp : f_X7_newestOf sh a0 x1 x2 m0 = some res) : W p l e (jrm 0 0 0) s mi args below meth c H locs 0 0 (MQ below (jQc D cy B sz sh m0 (some (jI res)) (jIn res)) args s 0 0 (jA B sz)) (F0 mi 0 ls []) := by
  unfold f_X7_newestOf at hyp
  refine jr_aload_n (pc := 0) C L dX7_newestOf_0 rfl rfl ?_
  obtain ⟨v1, hv1, hyp⟩ := jbind hyp
  refine jr_getR (pc := 1) C S lf_X7_21 rfl hv1 dX7_newestOf_1 ?_
  refine jr_iload_n (pc := 4) C L dX7_newestOf_4 rfl rfl ?_
  obtain ⟨v2, hv2, hyp⟩ := jbind hyp
  have iv2 := jra_in S hv2
  refine jr_ial (pc := 5) C S h_x2 hv2 dX7_newestOf_5 ?_
  refine jr_istore_n (pc := 6) C L dX7_newestOf_6 rfl (Nat.le_of_ble_eq_true rfl) (fun ls L => ?_)
  have L : jL ls [some (jR B a0), some (jI x1), some (jI x2), some (jI v2)] := L
  refine jr_iload_n (pc := 7) C L dX7_newestOf_7 rfl rfl ?_
  refine jr_if_le (pc := 8) C h_x1 (tgt := 23) dX7_newestOf_8 (by decide) (fun c3 => ?_) (fun c3 => ?_)
  · have hyp := (if_pos c3).symm.trans hyp
    refine jr_iload_n (pc := 11) C L dX7_newestOf_11 rfl rfl ?_
    refine jr_if_le (pc := 12) C iv2 (tgt := 23) dX7_newestOf_12 (by decide) (fun c4 => ?_) (fun c4 => ?_)
    · have hyp := (if_pos c4).symm.trans hyp
      refine jr_iload_n (pc := 15) C L dX7_newestOf_15 rfl rfl ?_
      refine jr_iconst (pc := 16) C dX7_newestOf_16 ?_
      refine jr_isub (pc := 17) C dX7_newestOf_17 ?_
      refine jr_iload_n (pc := 18) C L dX7_newestOf_18 rfl rfl ?_
      by_cases c5 : v2 = 0
      · exact absurd ((if_pos c5).symm.trans hyp) (by intro h; cases h)
      have hyp := (if_neg c5).symm.trans hyp
      refine jr_idiv (pc := 19) C (jIn_w _) iv2 c5 dX7_newestOf_19 ?_
      refine jr_goto (pc := 20) C (tgt := 24) dX7_newestOf_20 (by decide) ?_
      cases hyp
      exact jr_iret C S (jIn_div _ _) dX7_newestOf_24
    · have hyp := (if_neg c4).symm.trans hyp
      refine jr_iconst (pc := 23) C dX7_newestOf_23 ?_
      cases hyp
      exact jr_iret C S (show jIn (-1) from ⟨by decide, by decide⟩) dX7_newestOf_24
  · have hyp := (if_neg c3).symm.trans hyp
    refine jr_iconst (pc := 23) C dX7_newestOf_23 ?_
    cases hyp
    exact jr_iret C S (show jIn (-1) from ⟨by decide, by decide⟩) dX7_newestOf_24
theorem c_X7_newestOf {l : Launch} {D : va_G} {cy : Nat → ClassId} {B sz : Nat} {sh : jm_S} {res : Int} {m0 : jm_M} {a0 : Nat} {x1 : Int} (h_x1 : jIn x1) {x2 : Int} (h_x2 : jIn x2) (hyp : f_X7_newestOf sh a0 x1 x2 m0 = some res) : jCt l D cy B sz sh 0 yX7_newestOf cX7_newestOf 4 (some .int) [jR B a0, jI x1, jI x2] m0 (some (jI res)) m0 (jIn res) :=
  jc_of (by decide) (fun v h => by simp only [List.mem_cons, List.not_mem_nil, or_false] at h; rcases h with rfl | rfl | rfl <;> first | rfl | exact jR_cat _ _) (Nat.le_of_ble_eq_true rfl) (fun C S L => t_X7_newestOf_e C  h_x1 h_x2 S L hyp)
set_option maxHeartbeats 4000000 in
set_option maxRecDepth 100000 in
theorem t_X7_nextLook_b81 {p : Program} {l : Launch} {e : Env} {s : State} {mi : MethodId} {args : Array Value} {below : List Frame} {meth : Method} {c : Code} {D : va_G} {cy : Nat → ClassId} {B sz : Nat} {sh : jm_S} {res : Int} {m0 : jm_M} (C : jCx p s mi args meth c cX7_nextLook 6 RX7 (some .int) D cy) {s0 : Int} (h_s0 : jIn s0) {s1 : Int} (h_s1 : jIn s1) {H : Heap} {locs : List Loc} {ls : Array Slot} (S : jHs D cy B sz sh (jA B sz) s.heap H locs m0) (L : jL ls [none, none, none, none, none, none]) (hyp : f_X7_nextLook_b81 sh s0 s1 m0 = some res) : W p l e (jrm 1 0 0) s mi args below meth c H locs 0 0 (MQ below (jQc D cy B sz sh m0 (some (jI res)) (jIn res)) args s 0 0 (jA B sz)) (F0 mi 81 ls [jI s1, jI s0]) := by
  unfold f_X7_nextLook_b81 at hyp
  refine jr_iadd (pc := 81) C dX7_nextLook_81 ?_
  cases hyp
  exact jr_iret C S (jIn_w _) dX7_nextLook_82
set_option maxHeartbeats 4000000 in
set_option maxRecDepth 100000 in
theorem t_X7_nextLook_e {p : Program} {l : Launch} {e : Env} {s : State} {mi : MethodId} {args : Array Value} {below : List Frame} {meth : Method} {c : Code} {D : va_G} {cy : Nat → ClassId} {B sz : Nat} {sh : jm_S} {res : Int} {m0 : jm_M} (C : jCx p s mi args meth c cX7_nextLook 6 RX7 (some .int) D cy) {a0 : Nat} {x1 : Int} (h_x1 : jIn x1) {x2 : Int} (h_x2 : jIn x2) {H : Heap} {locs : List Loc} {ls : Array Slot} (S : jHs D cy B sz sh (jA B sz) s.heap H locs m0) (L : jL ls [some (jR B a0), some (jI x1), some (jI x2), none, none, none]) (hyp : f_X7_nextLook sh a0 x1 x2 m0 = some res) : W p l e (jrm 1 0 0) s mi args below meth c H locs 0 0 (MQ below (jQc D cy B sz sh m0 (some (jI res)) (jIn res)) args s 0 0 (jA B sz)) (F0 mi 0 ls []) := by
  unfold f_X7_nextLook at hyp
  refine jr_aload_n (pc := 0) C L dX7_nextLook_0 rfl rfl ?_
  obtain ⟨v1, hv1, hyp⟩ := jbind hyp
  refine jr_getR (pc := 1) C S lf_X7_9 rfl hv1 dX7_nextLook_1 ?_
  refine jr_iload_n (pc := 4) C L dX7_nextLook_4 rfl rfl ?_
  obtain ⟨v2, hv2, hyp⟩ := jbind hyp
  have iv2 := jra_in S hv2
  refine jr_ial (pc := 5) C S h_x1 hv2 dX7_nextLook_5 ?_
  refine jr_istore_n (pc := 6) C L dX7_nextLook_6 rfl (Nat.le_of_ble_eq_true rfl) (fun ls L => ?_)
  have L : jL ls [some (jR B a0), some (jI x1), some (jI x2), some (jI v2), none, none] := L
  refine jr_aload_n (pc := 7) C L dX7_nextLook_7 rfl rfl ?_
  obtain ⟨v3, hv3, hyp⟩ := jbind hyp
  refine jr_getR (pc := 8) C S lf_X7_15 rfl hv3 dX7_nextLook_8 ?_
  refine jr_iload_n (pc := 11) C L dX7_nextLook_11 rfl rfl ?_
  obtain ⟨v4, hv4, hyp⟩ := jbind hyp
  have iv4 := jra_in S hv4
  refine jr_ial (pc := 12) C S h_x1 hv4 dX7_nextLook_12 ?_
  refine jr_istore (pc := 13) C L dX7_nextLook_13 (Nat.le_of_ble_eq_true rfl) (fun ls L => ?_)
  have L : jL ls [some (jR B a0), some (jI x1), some (jI x2), some (jI v2), some (jI v4), none] := L
  refine jr_aload_n (pc := 15) C L dX7_nextLook_15 rfl rfl ?_
  obtain ⟨v5, hv5, hyp⟩ := jbind hyp
  refine jr_getR (pc := 16) C S lf_X7_18 rfl hv5 dX7_nextLook_16 ?_
  refine jr_iload_n (pc := 19) C L dX7_nextLook_19 rfl rfl ?_
  obtain ⟨v6, hv6, hyp⟩ := jbind hyp
  have iv6 := jra_in S hv6
  refine jr_ial (pc := 20) C S iv2 hv6 dX7_nextLook_20 ?_
  refine jr_if_ne (pc := 21) C iv6 (tgt := 26) dX7_nextLook_21 (by decide) (fun c7 => ?_) (fun c7 => ?_)
  · have hyp := (if_pos c7).symm.trans hyp
    refine jr_iconst (pc := 24) C dX7_nextLook_24 ?_
    cases hyp
    exact jr_iret C S (show jIn 0 from ⟨by decide, by decide⟩) dX7_nextLook_25
  · have hyp := (if_neg c7).symm.trans hyp
    refine jr_aload_n (pc := 26) C L dX7_nextLook_26 rfl rfl ?_
    obtain ⟨v8, hv8, hyp⟩ := jbind hyp
    refine jr_getR (pc := 27) C S lf_X7_18 rfl hv8 dX7_nextLook_27 ?_
    refine jr_iload_n (pc := 30) C L dX7_nextLook_30 rfl rfl ?_
    obtain ⟨v9, hv9, hyp⟩ := jbind hyp
    have iv9 := jra_in S hv9
    refine jr_ial (pc := 31) C S iv2 hv9 dX7_nextLook_31 ?_
    refine jr_iconst (pc := 32) C dX7_nextLook_32 ?_
    refine jr_icmp_ne (pc := 33) C iv9 (show jIn 1 from ⟨by decide, by decide⟩) (tgt := 41) dX7_nextLook_33 (by decide) (fun c10 => ?_) (fun c10 => ?_)
    · have hyp := (if_pos c10).symm.trans hyp
      refine jr_iconst (pc := 36) C dX7_nextLook_36 ?_
      refine jr_iload (pc := 37) C L dX7_nextLook_37 rfl ?_
      refine jr_iadd (pc := 39) C dX7_nextLook_39 ?_
      cases hyp
      exact jr_iret C S (jIn_w _) dX7_nextLook_40
    · have hyp := (if_neg c10).symm.trans hyp
      refine jr_aload_n (pc := 41) C L dX7_nextLook_41 rfl rfl ?_
      refine jr_iload_n (pc := 42) C L dX7_nextLook_42 rfl rfl ?_
      refine jr_iload_n (pc := 43) C L dX7_nextLook_43 rfl rfl ?_
      obtain ⟨u11, hu11, hyp⟩ := jbind hyp
      obtain ⟨q12, hq12, hyp⟩ := jbind hyp
      refine jr_callV_I (pc := 44) C S L (As := [jI x2, jI v2]) (rest := []) (c_X7_newestOf (m0 := m0) h_x2 iv2 hq12) mv_X7_newestOf ml_X7_76 rfl (jck_spec hu11) (by decide) rfl rfl rfl (Nat.le_of_ble_eq_true rfl) ⟨Nat.le_refl 0, Nat.le_refl 0⟩ dX7_nextLook_44 (fun p13 H locs S => ?_)
      refine jr_istore (pc := 47) C L dX7_nextLook_47 (Nat.le_of_ble_eq_true rfl) (fun ls L => ?_)
      have L : jL ls [some (jR B a0), some (jI x1), some (jI x2), some (jI v2), some (jI v4), some (jI q12)] := L
      refine jr_iload (pc := 49) C L dX7_nextLook_49 rfl ?_
      refine jr_iload (pc := 51) C L dX7_nextLook_51 rfl ?_
      refine jr_icmp_ne (pc := 53) C p13 iv4 (tgt := 58) dX7_nextLook_53 (by decide) (fun c14 => ?_) (fun c14 => ?_)
      · have hyp := (if_pos c14).symm.trans hyp
        refine jr_iload_n (pc := 56) C L dX7_nextLook_56 rfl rfl ?_
        cases hyp
        exact jr_iret C S h_x2 dX7_nextLook_57
      · have hyp := (if_neg c14).symm.trans hyp
        refine jr_iconst (pc := 58) C dX7_nextLook_58 ?_
        refine jr_aload_n (pc := 59) C L dX7_nextLook_59 rfl rfl ?_
        obtain ⟨v15, hv15, hyp⟩ := jbind hyp
        refine jr_getR (pc := 60) C S lf_X7_21 rfl hv15 dX7_nextLook_60 ?_
        refine jr_iload_n (pc := 63) C L dX7_nextLook_63 rfl rfl ?_
        obtain ⟨v16, hv16, hyp⟩ := jbind hyp
        have iv16 := jra_in S hv16
        refine jr_ial (pc := 64) C S iv2 hv16 dX7_nextLook_64 ?_
        refine jr_iload (pc := 65) C L dX7_nextLook_65 rfl ?_
        refine jr_imul (pc := 67) C dX7_nextLook_67 ?_
        refine jr_iadd (pc := 68) C dX7_nextLook_68 ?_
        refine jr_iload (pc := 69) C L dX7_nextLook_69 rfl ?_
        refine jr_if_ge (pc := 71) C p13 (tgt := 79) dX7_nextLook_71 (by decide) (fun c17 => ?_) (fun c17 => ?_)
        · have hyp := (if_pos c17).symm.trans hyp
          refine jr_iload (pc := 74) C L dX7_nextLook_74 rfl ?_
          refine jr_goto (pc := 76) C (tgt := 81) dX7_nextLook_76 (by decide) ?_
          exact t_X7_nextLook_b81 C   (jIn_w _) iv4 S (L.sub (jsub_n (jsub_n (jsub_n (jsub_n (jsub_n (jsub_n jsub_0))))))) hyp
        · have hyp := (if_neg c17).symm.trans hyp
          refine jr_iload (pc := 79) C L dX7_nextLook_79 rfl ?_
          exact t_X7_nextLook_b81 C   (jIn_w _) p13 S (L.sub (jsub_n (jsub_n (jsub_n (jsub_n (jsub_n (jsub_n jsub_0))))))) hyp
theorem c_X7_nextLook {l : Launch} {D : va_G} {cy : Nat → ClassId} {B sz : Nat} {sh : jm_S} {res : Int} {m0 : jm_M} {a0 : Nat} {x1 : Int} (h_x1 : jIn x1) {x2 : Int} (h_x2 : jIn x2) (hyp : f_X7_nextLook sh a0 x1 x2 m0 = some res) : jCt l D cy B sz sh 1 yX7_nextLook cX7_nextLook 6 (some .int) [jR B a0, jI x1, jI x2] m0 (some (jI res)) m0 (jIn res) :=
  jc_of (by decide) (fun v h => by simp only [List.mem_cons, List.not_mem_nil, or_false] at h; rcases h with rfl | rfl | rfl <;> first | rfl | exact jR_cat _ _) (Nat.le_of_ble_eq_true rfl) (fun C S L => t_X7_nextLook_e C  h_x1 h_x2 S L hyp)
set_option maxHeartbeats 4000000 in
set_option maxRecDepth 100000 in
theorem t_X7_olderOf_e {p : Program} {l : Launch} {e : Env} {s : State} {mi : MethodId} {args : Array Value} {below : List Frame} {meth : Method} {c : Code} {D : va_G} {cy : Nat → ClassId} {B sz : Nat} {sh : jm_S} {res : Int} {m0 : jm_M} (C : jCx p s mi args meth c cX7_olderOf 4 RX7 (some .int) D cy) {a0 : Nat} {x1 : Int} (h_x1 : jIn x1) {x2 : Int} (h_x2 : jIn x2) {H : Heap} {locs : List Loc} {ls : Array Slot} (S : jHs D cy B sz sh (jA B sz) s.heap H locs m0) (L : jL ls [some (jR B a0), some (jI x1), some (jI x2), none]) (hyp : f_X7_olderOf sh a0 x1 x2 m0 = some res) : W p l e (jrm 0 0 0) s mi args below meth c H locs 0 0 (MQ below (jQc D cy B sz sh m0 (some (jI res)) (jIn res)) args s 0 0 (jA B sz)) (F0 mi 0 ls []) := by
  unfold f_X7_olderOf at hyp
  refine jr_aload_n (pc := 0) C L dX7_olderOf_0 rfl rfl ?_
  obtain ⟨v1, hv1, hyp⟩ := jbind hyp
  refine jr_getR (pc := 1) C S lf_X7_21 rfl hv1 dX7_olderOf_1 ?_
  refine jr_iload_n (pc := 4) C L dX7_olderOf_4 rfl rfl ?_
  obtain ⟨v2, hv2, hyp⟩ := jbind hyp
  have iv2 := jra_in S hv2
  refine jr_ial (pc := 5) C S h_x2 hv2 dX7_olderOf_5 ?_
  refine jr_istore_n (pc := 6) C L dX7_olderOf_6 rfl (Nat.le_of_ble_eq_true rfl) (fun ls L => ?_)
  have L : jL ls [some (jR B a0), some (jI x1), some (jI x2), some (jI v2)] := L
  refine jr_iload_n (pc := 7) C L dX7_olderOf_7 rfl rfl ?_
  refine jr_if_le (pc := 8) C h_x1 (tgt := 23) dX7_olderOf_8 (by decide) (fun c3 => ?_) (fun c3 => ?_)
  · have hyp := (if_pos c3).symm.trans hyp
    refine jr_iload_n (pc := 11) C L dX7_olderOf_11 rfl rfl ?_
    refine jr_if_le (pc := 12) C iv2 (tgt := 23) dX7_olderOf_12 (by decide) (fun c4 => ?_) (fun c4 => ?_)
    · have hyp := (if_pos c4).symm.trans hyp
      refine jr_iload_n (pc := 15) C L dX7_olderOf_15 rfl rfl ?_
      refine jr_iconst (pc := 16) C dX7_olderOf_16 ?_
      refine jr_isub (pc := 17) C dX7_olderOf_17 ?_
      refine jr_iload_n (pc := 18) C L dX7_olderOf_18 rfl rfl ?_
      by_cases c5 : v2 = 0
      · exact absurd ((if_pos c5).symm.trans hyp) (by intro h; cases h)
      have hyp := (if_neg c5).symm.trans hyp
      refine jr_irem (pc := 19) C (jIn_w _) iv2 c5 dX7_olderOf_19 ?_
      refine jr_goto (pc := 20) C (tgt := 24) dX7_olderOf_20 (by decide) ?_
      cases hyp
      exact jr_iret C S (jIn_rem _ (jIn_w _)) dX7_olderOf_24
    · have hyp := (if_neg c4).symm.trans hyp
      refine jr_iconst (pc := 23) C dX7_olderOf_23 ?_
      cases hyp
      exact jr_iret C S (show jIn (-1) from ⟨by decide, by decide⟩) dX7_olderOf_24
  · have hyp := (if_neg c3).symm.trans hyp
    refine jr_iconst (pc := 23) C dX7_olderOf_23 ?_
    cases hyp
    exact jr_iret C S (show jIn (-1) from ⟨by decide, by decide⟩) dX7_olderOf_24
theorem c_X7_olderOf {l : Launch} {D : va_G} {cy : Nat → ClassId} {B sz : Nat} {sh : jm_S} {res : Int} {m0 : jm_M} {a0 : Nat} {x1 : Int} (h_x1 : jIn x1) {x2 : Int} (h_x2 : jIn x2) (hyp : f_X7_olderOf sh a0 x1 x2 m0 = some res) : jCt l D cy B sz sh 0 yX7_olderOf cX7_olderOf 4 (some .int) [jR B a0, jI x1, jI x2] m0 (some (jI res)) m0 (jIn res) :=
  jc_of (by decide) (fun v h => by simp only [List.mem_cons, List.not_mem_nil, or_false] at h; rcases h with rfl | rfl | rfl <;> first | rfl | exact jR_cat _ _) (Nat.le_of_ble_eq_true rfl) (fun C S L => t_X7_olderOf_e C  h_x1 h_x2 S L hyp)
set_option maxHeartbeats 4000000 in
set_option maxRecDepth 100000 in
theorem t_X7_lies_e {p : Program} {l : Launch} {e : Env} {s : State} {mi : MethodId} {args : Array Value} {below : List Frame} {meth : Method} {c : Code} {D : va_G} {cy : Nat → ClassId} {B sz : Nat} {sh : jm_S} {res : Int} {m0 : jm_M} (C : jCx p s mi args meth c cX7_lies 5 RX7 (some .boolean) D cy) {a0 : Nat} {x1 : Int} (h_x1 : jIn x1) {x2 : Int} (h_x2 : jIn x2) {H : Heap} {locs : List Loc} {ls : Array Slot} (S : jHs D cy B sz sh (jA B sz) s.heap H locs m0) (L : jL ls [some (jR B a0), some (jI x1), some (jI x2), none, none]) (hyp : f_X7_lies sh a0 x1 x2 m0 = some res) : W p l e (jrm 1 0 0) s mi args below meth c H locs 0 0 (MQ below (jQc D cy B sz sh m0 (some (jI res)) (jIn res)) args s 0 0 (jA B sz)) (F0 mi 0 ls []) := by
  unfold f_X7_lies at hyp
  refine jr_aload_n (pc := 0) C L dX7_lies_0 rfl rfl ?_
  obtain ⟨v1, hv1, hyp⟩ := jbind hyp
  refine jr_getR (pc := 1) C S lf_X7_9 rfl hv1 dX7_lies_1 ?_
  refine jr_iload_n (pc := 4) C L dX7_lies_4 rfl rfl ?_
  obtain ⟨v2, hv2, hyp⟩ := jbind hyp
  have iv2 := jra_in S hv2
  refine jr_ial (pc := 5) C S h_x1 hv2 dX7_lies_5 ?_
  refine jr_istore_n (pc := 6) C L dX7_lies_6 rfl (Nat.le_of_ble_eq_true rfl) (fun ls L => ?_)
  have L : jL ls [some (jR B a0), some (jI x1), some (jI x2), some (jI v2), none] := L
  refine jr_aload_n (pc := 7) C L dX7_lies_7 rfl rfl ?_
  obtain ⟨v3, hv3, hyp⟩ := jbind hyp
  refine jr_getR (pc := 8) C S lf_X7_15 rfl hv3 dX7_lies_8 ?_
  refine jr_iload_n (pc := 11) C L dX7_lies_11 rfl rfl ?_
  obtain ⟨v4, hv4, hyp⟩ := jbind hyp
  have iv4 := jra_in S hv4
  refine jr_ial (pc := 12) C S h_x1 hv4 dX7_lies_12 ?_
  refine jr_istore (pc := 13) C L dX7_lies_13 (Nat.le_of_ble_eq_true rfl) (fun ls L => ?_)
  have L : jL ls [some (jR B a0), some (jI x1), some (jI x2), some (jI v2), some (jI v4)] := L
  refine jr_aload_n (pc := 15) C L dX7_lies_15 rfl rfl ?_
  obtain ⟨v5, hv5, hyp⟩ := jbind hyp
  refine jr_getR (pc := 16) C S lf_X7_18 rfl hv5 dX7_lies_16 ?_
  refine jr_iload_n (pc := 19) C L dX7_lies_19 rfl rfl ?_
  obtain ⟨v6, hv6, hyp⟩ := jbind hyp
  have iv6 := jra_in S hv6
  refine jr_ial (pc := 20) C S iv2 hv6 dX7_lies_20 ?_
  refine jr_if_eq (pc := 21) C iv6 (tgt := 33) dX7_lies_21 (by decide) (fun c7 => ?_) (fun c7 => ?_)
  · have hyp := (if_pos c7).symm.trans hyp
    refine jr_iconst (pc := 33) C dX7_lies_33 ?_
    cases hyp
    exact jr_zret C S (show jIn 0 from ⟨by decide, by decide⟩) rfl dX7_lies_34
  · have hyp := (if_neg c7).symm.trans hyp
    refine jr_iload_n (pc := 24) C L dX7_lies_24 rfl rfl ?_
    refine jr_if_eq (pc := 25) C h_x2 (tgt := 33) dX7_lies_25 (by decide) (fun c8 => ?_) (fun c8 => ?_)
    · have hyp := (if_pos c8).symm.trans hyp
      refine jr_iconst (pc := 33) C dX7_lies_33 ?_
      cases hyp
      exact jr_zret C S (show jIn 0 from ⟨by decide, by decide⟩) rfl dX7_lies_34
    · have hyp := (if_neg c8).symm.trans hyp
      refine jr_iload (pc := 28) C L dX7_lies_28 rfl ?_
      refine jr_if_ge (pc := 30) C iv4 (tgt := 35) dX7_lies_30 (by decide) (fun c9 => ?_) (fun c9 => ?_)
      · have hyp := (if_pos c9).symm.trans hyp
        refine jr_iconst (pc := 33) C dX7_lies_33 ?_
        cases hyp
        exact jr_zret C S (show jIn 0 from ⟨by decide, by decide⟩) rfl dX7_lies_34
      · have hyp := (if_neg c9).symm.trans hyp
        refine jr_aload_n (pc := 35) C L dX7_lies_35 rfl rfl ?_
        obtain ⟨v10, hv10, hyp⟩ := jbind hyp
        refine jr_getR (pc := 36) C S lf_X7_18 rfl hv10 dX7_lies_36 ?_
        refine jr_iload_n (pc := 39) C L dX7_lies_39 rfl rfl ?_
        obtain ⟨v11, hv11, hyp⟩ := jbind hyp
        have iv11 := jra_in S hv11
        refine jr_ial (pc := 40) C S iv2 hv11 dX7_lies_40 ?_
        refine jr_iconst (pc := 41) C dX7_lies_41 ?_
        refine jr_icmp_ne (pc := 42) C iv11 (show jIn 1 from ⟨by decide, by decide⟩) (tgt := 59) dX7_lies_42 (by decide) (fun c12 => ?_) (fun c12 => ?_)
        · have hyp := (if_pos c12).symm.trans hyp
          refine jr_iload_n (pc := 45) C L dX7_lies_45 rfl rfl ?_
          refine jr_iconst (pc := 46) C dX7_lies_46 ?_
          refine jr_iload (pc := 47) C L dX7_lies_47 rfl ?_
          refine jr_iadd (pc := 49) C dX7_lies_49 ?_
          refine jr_icmp_ne (pc := 50) C h_x2 (jIn_w _) (tgt := 57) dX7_lies_50 (by decide) (fun c13 => ?_) (fun c13 => ?_)
          · have hyp := (if_pos c13).symm.trans hyp
            refine jr_iconst (pc := 53) C dX7_lies_53 ?_
            refine jr_goto (pc := 54) C (tgt := 58) dX7_lies_54 (by decide) ?_
            cases hyp
            exact jr_zret C S (show jIn 1 from ⟨by decide, by decide⟩) rfl dX7_lies_58
          · have hyp := (if_neg c13).symm.trans hyp
            refine jr_iconst (pc := 57) C dX7_lies_57 ?_
            cases hyp
            exact jr_zret C S (show jIn 0 from ⟨by decide, by decide⟩) rfl dX7_lies_58
        · have hyp := (if_neg c12).symm.trans hyp
          refine jr_aload_n (pc := 59) C L dX7_lies_59 rfl rfl ?_
          refine jr_iload_n (pc := 60) C L dX7_lies_60 rfl rfl ?_
          refine jr_iload_n (pc := 61) C L dX7_lies_61 rfl rfl ?_
          obtain ⟨u14, hu14, hyp⟩ := jbind hyp
          obtain ⟨q15, hq15, hyp⟩ := jbind hyp
          refine jr_callV_I (pc := 62) C S L (As := [jI x2, jI v2]) (rest := []) (c_X7_newestOf (m0 := m0) h_x2 iv2 hq15) mv_X7_newestOf ml_X7_76 rfl (jck_spec hu14) (by decide) rfl rfl rfl (Nat.le_of_ble_eq_true rfl) ⟨Nat.le_refl 0, Nat.le_refl 0⟩ dX7_lies_62 (fun p16 H locs S => ?_)
          refine jr_iload (pc := 65) C L dX7_lies_65 rfl ?_
          refine jr_icmp_eq (pc := 67) C p16 iv4 (tgt := 81) dX7_lies_67 (by decide) (fun c17 => ?_) (fun c17 => ?_)
          · have hyp := (if_pos c17).symm.trans hyp
            refine jr_iconst (pc := 81) C dX7_lies_81 ?_
            refine jr_goto (pc := 82) C (tgt := 86) dX7_lies_82 (by decide) ?_
            cases hyp
            exact jr_zret C S (show jIn 1 from ⟨by decide, by decide⟩) rfl dX7_lies_86
          · have hyp := (if_neg c17).symm.trans hyp
            refine jr_aload_n (pc := 70) C L dX7_lies_70 rfl rfl ?_
            refine jr_iload_n (pc := 71) C L dX7_lies_71 rfl rfl ?_
            refine jr_iload_n (pc := 72) C L dX7_lies_72 rfl rfl ?_
            obtain ⟨u18, hu18, hyp⟩ := jbind hyp
            obtain ⟨q19, hq19, hyp⟩ := jbind hyp
            refine jr_callV_I (pc := 73) C S L (As := [jI x2, jI v2]) (rest := []) (c_X7_olderOf (m0 := m0) h_x2 iv2 hq19) mv_X7_olderOf ml_X7_79 rfl (jck_spec hu18) (by decide) rfl rfl rfl (Nat.le_of_ble_eq_true rfl) ⟨Nat.le_refl 0, Nat.le_refl 0⟩ dX7_lies_73 (fun p20 H locs S => ?_)
            refine jr_iload (pc := 76) C L dX7_lies_76 rfl ?_
            refine jr_icmp_ne (pc := 78) C p20 iv4 (tgt := 85) dX7_lies_78 (by decide) (fun c21 => ?_) (fun c21 => ?_)
            · have hyp := (if_pos c21).symm.trans hyp
              refine jr_iconst (pc := 81) C dX7_lies_81 ?_
              refine jr_goto (pc := 82) C (tgt := 86) dX7_lies_82 (by decide) ?_
              cases hyp
              exact jr_zret C S (show jIn 1 from ⟨by decide, by decide⟩) rfl dX7_lies_86
            · have hyp := (if_neg c21).symm.trans hyp
              refine jr_iconst (pc := 85) C dX7_lies_85 ?_
              cases hyp
              exact jr_zret C S (show jIn 0 from ⟨by decide, by decide⟩) rfl dX7_lies_86
theorem c_X7_lies {l : Launch} {D : va_G} {cy : Nat → ClassId} {B sz : Nat} {sh : jm_S} {res : Int} {m0 : jm_M} {a0 : Nat} {x1 : Int} (h_x1 : jIn x1) {x2 : Int} (h_x2 : jIn x2) (hyp : f_X7_lies sh a0 x1 x2 m0 = some res) : jCt l D cy B sz sh 1 yX7_lies cX7_lies 5 (some .boolean) [jR B a0, jI x1, jI x2] m0 (some (jI res)) m0 (jIn res) :=
  jc_of (by decide) (fun v h => by simp only [List.mem_cons, List.not_mem_nil, or_false] at h; rcases h with rfl | rfl | rfl <;> first | rfl | exact jR_cat _ _) (Nat.le_of_ble_eq_true rfl) (fun C S L => t_X7_lies_e C  h_x1 h_x2 S L hyp)
set_option maxHeartbeats 4000000 in
set_option maxRecDepth 100000 in
theorem t_X7_fillMoves_b97 {p : Program} {l : Launch} {e : Env} {s : State} {mi : MethodId} {args : Array Value} {below : List Frame} {meth : Method} {c : Code} {D : va_G} {cy : Nat → ClassId} {B sz : Nat} {sh : jm_S} {res : jm_M} {N : Nat} {k17 : Nat → Int → Nat → Int → Int → jm_M → Option jm_M} (C : jCx p s mi args meth c cX7_fillMoves 6 RX7 none D cy) (K17 : ∀ (a0 : Nat) (x1 : Int) (a2 : Nat) (x3 : Int) (x4 : Int) , jIn x1 → jIn x3 → jIn x4 → ∀ (m : jm_M) (H : Heap) (locs : List Loc) (ls : Array Slot), jHs D cy B sz sh (jA B sz) s.heap H locs m → jL ls [some (jR B a0), some (jI x1), some (jR B a2), some (jI x3), some (jI x4), none] → k17 a0 x1 a2 x3 x4 m = some res → W p l e (jrm 2 0 0) s mi args below meth c H locs 0 0 (MQ below (jQc D cy B sz sh res none True) args s 0 0 (jA B sz)) (F0 mi 17 ls [])) {a0 : Nat} {x1 : Int} (h_x1 : jIn x1) {a2 : Nat} {x3 : Int} (h_x3 : jIn x3) {x4 : Int} (h_x4 : jIn x4) {m : jm_M} {H : Heap} {locs : List Loc} {ls : Array Slot} (S : jHs D cy B sz sh (jA B sz) s.heap H locs m) (L : jL ls [some (jR B a0), some (jI x1), some (jR B a2), some (jI x3), some (jI x4), none]) (hyp : f_X7_fillMoves_b97 N sh k17 a0 x1 a2 x3 x4 m = some res) : W p l e (jrm 2 0 0) s mi args below meth c H locs 0 0 (MQ below (jQc D cy B sz sh res none True) args s 0 0 (jA B sz)) (F0 mi 97 ls []) := by
  unfold f_X7_fillMoves_b97 at hyp
  refine jr_iinc (pc := 97) C L dX7_fillMoves_97 rfl (Nat.le_of_ble_eq_true rfl) (fun ls L => ?_)
  have L : jL ls [some (jR B a0), some (jI x1), some (jR B a2), some (jI x3), some (jI (jw (x4 + 1))), none] := L
  refine jr_goto (pc := 100) C (tgt := 17) dX7_fillMoves_100 (by decide) ?_
  exact K17 a0 x1 a2 x3 (jw (x4 + 1)) h_x1 h_x3 (jIn_w _) m _ _ _ S (L.sub (jsub_s (jsub_s (jsub_s (jsub_s (jsub_s (jsub_n jsub_0))))))) hyp
set_option maxHeartbeats 4000000 in
set_option maxRecDepth 100000 in
theorem t_X7_fillMoves_b95 {p : Program} {l : Launch} {e : Env} {s : State} {mi : MethodId} {args : Array Value} {below : List Frame} {meth : Method} {c : Code} {D : va_G} {cy : Nat → ClassId} {B sz : Nat} {sh : jm_S} {res : jm_M} {N : Nat} {k17 : Nat → Int → Nat → Int → Int → jm_M → Option jm_M} (C : jCx p s mi args meth c cX7_fillMoves 6 RX7 none D cy) (K17 : ∀ (a0 : Nat) (x1 : Int) (a2 : Nat) (x3 : Int) (x4 : Int) , jIn x1 → jIn x3 → jIn x4 → ∀ (m : jm_M) (H : Heap) (locs : List Loc) (ls : Array Slot), jHs D cy B sz sh (jA B sz) s.heap H locs m → jL ls [some (jR B a0), some (jI x1), some (jR B a2), some (jI x3), some (jI x4), none] → k17 a0 x1 a2 x3 x4 m = some res → W p l e (jrm 2 0 0) s mi args below meth c H locs 0 0 (MQ below (jQc D cy B sz sh res none True) args s 0 0 (jA B sz)) (F0 mi 17 ls [])) {a0 : Nat} {x1 : Int} (h_x1 : jIn x1) {a2 : Nat} {x3 : Int} (h_x3 : jIn x3) {x4 : Int} (h_x4 : jIn x4) {r0 : Nat} {s1 : Int} (h_s1 : jIn s1) {s2 : Int} (h_s2 : jIn s2) {s3 : Int} (h_s3 : jIn s3) {m : jm_M} {H : Heap} {locs : List Loc} {ls : Array Slot} (S : jHs D cy B sz sh (jA B sz) s.heap H locs m) (L : jL ls [some (jR B a0), some (jI x1), some (jR B a2), some (jI x3), some (jI x4), none]) (hyp : f_X7_fillMoves_b95 N sh k17 a0 x1 a2 x3 x4 r0 s1 s2 s3 m = some res) : W p l e (jrm 2 0 0) s mi args below meth c H locs 0 0 (MQ below (jQc D cy B sz sh res none True) args s 0 0 (jA B sz)) (F0 mi 95 ls [jI s3, jI s2, jI s1, jR B r0]) := by
  unfold f_X7_fillMoves_b95 at hyp
  refine jr_iadd (pc := 95) C dX7_fillMoves_95 ?_
  obtain ⟨m1, hm1, hyp⟩ := jbind hyp
  refine jr_ias (pc := 96) C S h_s1 (jIn_w _) hm1 dX7_fillMoves_96 (fun H locs S => ?_)
  exact t_X7_fillMoves_b97 C  K17 h_x1 h_x3 h_x4 S (L.sub (jsub_s (jsub_s (jsub_s (jsub_s (jsub_s (jsub_n jsub_0))))))) hyp
set_option maxHeartbeats 4000000 in
set_option maxRecDepth 100000 in
theorem t_X7_fillMoves_b17 {p : Program} {l : Launch} {e : Env} {s : State} {mi : MethodId} {args : Array Value} {below : List Frame} {meth : Method} {c : Code} {D : va_G} {cy : Nat → ClassId} {B sz : Nat} {sh : jm_S} {res : jm_M} {N : Nat} {k17 : Nat → Int → Nat → Int → Int → jm_M → Option jm_M} (C : jCx p s mi args meth c cX7_fillMoves 6 RX7 none D cy) (K17 : ∀ (a0 : Nat) (x1 : Int) (a2 : Nat) (x3 : Int) (x4 : Int) , jIn x1 → jIn x3 → jIn x4 → ∀ (m : jm_M) (H : Heap) (locs : List Loc) (ls : Array Slot), jHs D cy B sz sh (jA B sz) s.heap H locs m → jL ls [some (jR B a0), some (jI x1), some (jR B a2), some (jI x3), some (jI x4), none] → k17 a0 x1 a2 x3 x4 m = some res → W p l e (jrm 2 0 0) s mi args below meth c H locs 0 0 (MQ below (jQc D cy B sz sh res none True) args s 0 0 (jA B sz)) (F0 mi 17 ls [])) {a0 : Nat} {x1 : Int} (h_x1 : jIn x1) {a2 : Nat} {x3 : Int} (h_x3 : jIn x3) {x4 : Int} (h_x4 : jIn x4) {m : jm_M} {H : Heap} {locs : List Loc} {ls : Array Slot} (S : jHs D cy B sz sh (jA B sz) s.heap H locs m) (L : jL ls [some (jR B a0), some (jI x1), some (jR B a2), some (jI x3), some (jI x4), none]) (hyp : f_X7_fillMoves_b17 N sh k17 a0 x1 a2 x3 x4 m = some res) : W p l e (jrm 2 0 0) s mi args below meth c H locs 0 0 (MQ below (jQc D cy B sz sh res none True) args s 0 0 (jA B sz)) (F0 mi 17 ls []) := by
  unfold f_X7_fillMoves_b17 at hyp
  refine jr_iload (pc := 17) C L dX7_fillMoves_17 rfl ?_
  refine jr_aload_n (pc := 19) C L dX7_fillMoves_19 rfl rfl ?_
  obtain ⟨v2, hv2, hyp⟩ := jbind hyp
  refine jr_getR (pc := 20) C S lf_X7_24 rfl hv2 dX7_fillMoves_20 ?_
  refine jr_iload_n (pc := 23) C L dX7_fillMoves_23 rfl rfl ?_
  obtain ⟨v3, hv3, hyp⟩ := jbind hyp
  have iv3 := jra_in S hv3
  refine jr_ial (pc := 24) C S h_x3 hv3 dX7_fillMoves_24 ?_
  refine jr_icmp_ge (pc := 25) C h_x4 iv3 (tgt := 103) dX7_fillMoves_25 (by decide) (fun c4 => ?_) (fun c4 => ?_)
  · have hyp := (if_pos c4).symm.trans hyp
    refine jr_iload (pc := 28) C L dX7_fillMoves_28 rfl ?_
    refine jr_aload_n (pc := 30) C L dX7_fillMoves_30 rfl rfl ?_
    obtain ⟨v5, hv5, hyp⟩ := jbind hyp
    refine jr_alen (pc := 31) C S hv5 dX7_fillMoves_31 ?_
    refine jr_icmp_ge (pc := 32) C h_x4 (jlen_in hv5) (tgt := 103) dX7_fillMoves_32 (by decide) (fun c6 => ?_) (fun c6 => ?_)
    · have hyp := (if_pos c6).symm.trans hyp
      refine jr_aload_n (pc := 35) C L dX7_fillMoves_35 rfl rfl ?_
      obtain ⟨v7, hv7, hyp⟩ := jbind hyp
      have iv7 := jrf_in S hv7
      refine jr_getI (pc := 36) C S lf_X7_35 rfl hv7 dX7_fillMoves_36 ?_
      refine jr_iload_n (pc := 39) C L dX7_fillMoves_39 rfl rfl ?_
      obtain ⟨q8, hq8, hyp⟩ := jbind hyp
      refine jr_callSN_I (pc := 40) C S L (As := [jI v7, jI x1]) (rest := []) (c_X11_isIn (m0 := m) iv7 h_x1 hq8) ms_X11_isIn mn_X7_62 (by decide) rfl rfl rfl (Nat.le_of_ble_eq_true rfl) ⟨Nat.le_refl 0, Nat.le_refl 0⟩ dX7_fillMoves_40 (fun p9 H locs S => ?_)
      refine jr_if_eq (pc := 43) C p9 (tgt := 54) dX7_fillMoves_43 (by decide) (fun c10 => ?_) (fun c10 => ?_)
      · have hyp := (if_pos c10).symm.trans hyp
        refine jr_aload_n (pc := 54) C L dX7_fillMoves_54 rfl rfl ?_
        refine jr_iload_n (pc := 55) C L dX7_fillMoves_55 rfl rfl ?_
        refine jr_iload (pc := 56) C L dX7_fillMoves_56 rfl ?_
        obtain ⟨u11, hu11, hyp⟩ := jbind hyp
        obtain ⟨q12, hq12, hyp⟩ := jbind hyp
        refine jr_callV_I (pc := 58) C S L (As := [jI x1, jI x4]) (rest := []) (c_X7_nextLook (m0 := m) h_x1 h_x4 hq12) mv_X7_nextLook ml_X7_70 rfl (jck_spec hu11) (by decide) rfl rfl rfl (Nat.le_of_ble_eq_true rfl) ⟨Nat.le_refl 0, Nat.le_refl 0⟩ dX7_fillMoves_58 (fun p13 H locs S => ?_)
        refine jr_iload (pc := 61) C L dX7_fillMoves_61 rfl ?_
        refine jr_isub (pc := 63) C dX7_fillMoves_63 ?_
        refine jr_aload_n (pc := 64) C L dX7_fillMoves_64 rfl rfl ?_
        obtain ⟨v14, hv14, hyp⟩ := jbind hyp
        refine jr_getR (pc := 65) C S lf_X7_27 rfl hv14 dX7_fillMoves_65 ?_
        refine jr_iload_n (pc := 68) C L dX7_fillMoves_68 rfl rfl ?_
        obtain ⟨v15, hv15, hyp⟩ := jbind hyp
        have iv15 := jra_in S hv15
        refine jr_ial (pc := 69) C S h_x3 hv15 dX7_fillMoves_69 ?_
        refine jr_imul (pc := 70) C dX7_fillMoves_70 ?_
        refine jr_istore (pc := 71) C L dX7_fillMoves_71 (Nat.le_of_ble_eq_true rfl) (fun ls L => ?_)
        have L : jL ls [some (jR B a0), some (jI x1), some (jR B a2), some (jI x3), some (jI x4), some (jI (jw ((jw (q12 - x4)) * v15)))] := L
        refine jr_aload_n (pc := 73) C L dX7_fillMoves_73 rfl rfl ?_
        refine jr_iload (pc := 74) C L dX7_fillMoves_74 rfl ?_
        refine jr_iconst (pc := 76) C dX7_fillMoves_76 ?_
        refine jr_iload (pc := 77) C L dX7_fillMoves_77 rfl ?_
        refine jr_imul (pc := 79) C dX7_fillMoves_79 ?_
        refine jr_aload_n (pc := 80) C L dX7_fillMoves_80 rfl rfl ?_
        refine jr_iload_n (pc := 81) C L dX7_fillMoves_81 rfl rfl ?_
        refine jr_iload (pc := 82) C L dX7_fillMoves_82 rfl ?_
        obtain ⟨u16, hu16, hyp⟩ := jbind hyp
        obtain ⟨q17, hq17, hyp⟩ := jbind hyp
        refine jr_callV_I (pc := 84) C S L (As := [jI x1, jI x4]) (rest := [jI (jw (2 * (jw ((jw (q12 - x4)) * v15)))), jI x4, jR B a2]) (c_X7_lies (m0 := m) h_x1 h_x4 hq17) mv_X7_lies ml_X7_73 rfl (jck_spec hu16) (by decide) rfl rfl rfl (by simp [jR_cat, jI_cat]) ⟨Nat.le_refl 0, Nat.le_refl 0⟩ dX7_fillMoves_84 (fun p18 H locs S => ?_)
        refine jr_if_eq (pc := 87) C p18 (tgt := 94) dX7_fillMoves_87 (by decide) (fun c19 => ?_) (fun c19 => ?_)
        · have hyp := (if_pos c19).symm.trans hyp
          refine jr_iconst (pc := 94) C dX7_fillMoves_94 ?_
          exact t_X7_fillMoves_b95 C  K17 h_x1 h_x3 h_x4 h_x4 (jIn_w _) (show jIn 0 from ⟨by decide, by decide⟩) S (L.sub (jsub_s (jsub_s (jsub_s (jsub_s (jsub_s (jsub_n jsub_0))))))) hyp
        · have hyp := (if_neg c19).symm.trans hyp
          refine jr_iconst (pc := 90) C dX7_fillMoves_90 ?_
          refine jr_goto (pc := 91) C (tgt := 95) dX7_fillMoves_91 (by decide) ?_
          exact t_X7_fillMoves_b95 C  K17 h_x1 h_x3 h_x4 h_x4 (jIn_w _) (show jIn 1 from ⟨by decide, by decide⟩) S (L.sub (jsub_s (jsub_s (jsub_s (jsub_s (jsub_s (jsub_n jsub_0))))))) hyp
      · have hyp := (if_neg c10).symm.trans hyp
        refine jr_aload_n (pc := 46) C L dX7_fillMoves_46 rfl rfl ?_
        refine jr_iload (pc := 47) C L dX7_fillMoves_47 rfl ?_
        refine jr_iconst (pc := 49) C dX7_fillMoves_49 ?_
        obtain ⟨m20, hm20, hyp⟩ := jbind hyp
        refine jr_ias (pc := 50) C S h_x4 (show jIn 1 from ⟨by decide, by decide⟩) hm20 dX7_fillMoves_50 (fun H locs S => ?_)
        refine jr_goto (pc := 51) C (tgt := 97) dX7_fillMoves_51 (by decide) ?_
        exact t_X7_fillMoves_b97 C  K17 h_x1 h_x3 h_x4 S (L.sub (jsub_s (jsub_s (jsub_s (jsub_s (jsub_s (jsub_n jsub_0))))))) hyp
    · have hyp := (if_neg c6).symm.trans hyp
      cases hyp
      exact jr_vret C S trivial dX7_fillMoves_103
  · have hyp := (if_neg c4).symm.trans hyp
    cases hyp
    exact jr_vret C S trivial dX7_fillMoves_103
theorem t_X7_fillMoves_l17 {p : Program} {l : Launch} {e : Env} {s : State} {mi : MethodId} {args : Array Value} {below : List Frame} {meth : Method} {c : Code} {D : va_G} {cy : Nat → ClassId} {B sz : Nat} {sh : jm_S} {res : jm_M} {N : Nat} (C : jCx p s mi args meth c cX7_fillMoves 6 RX7 none D cy) : ∀ (n : Nat) (a0 : Nat) (x1 : Int) (a2 : Nat) (x3 : Int) (x4 : Int), jIn x1 → jIn x3 → jIn x4 → ∀ (m : jm_M) (H : Heap) (locs : List Loc) (ls : Array Slot), jHs D cy B sz sh (jA B sz) s.heap H locs m → jL ls [some (jR B a0), some (jI x1), some (jR B a2), some (jI x3), some (jI x4), none] → f_X7_fillMoves_l17 N sh n a0 x1 a2 x3 x4 m = some res → W p l e (jrm 2 0 0) s mi args below meth c H locs 0 0 (MQ below (jQc D cy B sz sh res none True) args s 0 0 (jA B sz)) (F0 mi 17 ls []) := by
  intro n
  induction n with
  | zero => intro a0 x1 a2 x3 x4 h_x1 h_x3 h_x4 m H locs ls S L hyp; cases hyp
  | succ n ih => intro a0 x1 a2 x3 x4 h_x1 h_x3 h_x4 m H locs ls S L hyp; exact t_X7_fillMoves_b17 (N := N) C  ih h_x1 h_x3 h_x4 S L hyp
set_option maxHeartbeats 4000000 in
set_option maxRecDepth 100000 in
theorem t_X7_fillMoves_e {p : Program} {l : Launch} {e : Env} {s : State} {mi : MethodId} {args : Array Value} {below : List Frame} {meth : Method} {c : Code} {D : va_G} {cy : Nat → ClassId} {B sz : Nat} {sh : jm_S} {res : jm_M} {N : Nat} (C : jCx p s mi args meth c cX7_fillMoves 6 RX7 none D cy) {a0 : Nat} {x1 : Int} (h_x1 : jIn x1) {m : jm_M} {H : Heap} {locs : List Loc} {ls : Array Slot} (S : jHs D cy B sz sh (jA B sz) s.heap H locs m) (L : jL ls [some (jR B a0), some (jI x1), none, none, none, none]) (hyp : f_X7_fillMoves N sh a0 x1 m = some res) : W p l e (jrm 2 0 0) s mi args below meth c H locs 0 0 (MQ below (jQc D cy B sz sh res none True) args s 0 0 (jA B sz)) (F0 mi 0 ls []) := by
  unfold f_X7_fillMoves at hyp
  refine jr_aload_n (pc := 0) C L dX7_fillMoves_0 rfl rfl ?_
  obtain ⟨v21, hv21, hyp⟩ := jbind hyp
  refine jr_getR (pc := 1) C S lf_X7_32 rfl hv21 dX7_fillMoves_1 ?_
  refine jr_iload_n (pc := 4) C L dX7_fillMoves_4 rfl rfl ?_
  obtain ⟨v22, hv22, hyp⟩ := jbind hyp
  refine jr_aal (pc := 5) C S (by decide) h_x1 hv22 dX7_fillMoves_5 ?_
  refine jr_astore_n (pc := 6) C L dX7_fillMoves_6 rfl (Nat.le_of_ble_eq_true rfl) (fun ls L => ?_)
  have L : jL ls [some (jR B a0), some (jI x1), some (jR B v22.toNat), none, none, none] := L
  refine jr_aload_n (pc := 7) C L dX7_fillMoves_7 rfl rfl ?_
  obtain ⟨v23, hv23, hyp⟩ := jbind hyp
  refine jr_getR (pc := 8) C S lf_X7_9 rfl hv23 dX7_fillMoves_8 ?_
  refine jr_iload_n (pc := 11) C L dX7_fillMoves_11 rfl rfl ?_
  obtain ⟨v24, hv24, hyp⟩ := jbind hyp
  have iv24 := jra_in S hv24
  refine jr_ial (pc := 12) C S h_x1 hv24 dX7_fillMoves_12 ?_
  refine jr_istore_n (pc := 13) C L dX7_fillMoves_13 rfl (Nat.le_of_ble_eq_true rfl) (fun ls L => ?_)
  have L : jL ls [some (jR B a0), some (jI x1), some (jR B v22.toNat), some (jI v24), none, none] := L
  refine jr_iconst (pc := 14) C dX7_fillMoves_14 ?_
  refine jr_istore (pc := 15) C L dX7_fillMoves_15 (Nat.le_of_ble_eq_true rfl) (fun ls L => ?_)
  have L : jL ls [some (jR B a0), some (jI x1), some (jR B v22.toNat), some (jI v24), some (jI 0), none] := L
  exact t_X7_fillMoves_l17 C   N a0 x1 v22.toNat v24 0 h_x1 iv24 (show jIn 0 from ⟨by decide, by decide⟩) m _ _ _ S (L.sub (jsub_s (jsub_s (jsub_s (jsub_s (jsub_s (jsub_n jsub_0))))))) hyp
theorem c_X7_fillMoves {l : Launch} {D : va_G} {cy : Nat → ClassId} {B sz : Nat} {sh : jm_S} {res : jm_M} {N : Nat} {m : jm_M} {a0 : Nat} {x1 : Int} (h_x1 : jIn x1) (hyp : f_X7_fillMoves N sh a0 x1 m = some res) : jCt l D cy B sz sh 2 yX7_fillMoves cX7_fillMoves 6 none [jR B a0, jI x1] m none res True :=
  jc_of (by decide) (fun v h => by simp only [List.mem_cons, List.not_mem_nil, or_false] at h; rcases h with rfl | rfl <;> first | rfl | exact jR_cat _ _) (Nat.le_of_ble_eq_true rfl) (fun C S L => t_X7_fillMoves_e C  h_x1 S L hyp)
set_option maxHeartbeats 4000000 in
set_option maxRecDepth 100000 in
theorem t_X7_lay_b173 {p : Program} {l : Launch} {e : Env} {s : State} {mi : MethodId} {args : Array Value} {below : List Frame} {meth : Method} {c : Code} {D : va_G} {cy : Nat → ClassId} {B sz : Nat} {sh : jm_S} {res : jm_M} {N : Nat} {k151 : Nat → Int → Int → jm_M → Option jm_M} (C : jCx p s mi args meth c cX7_lay 5 RX7 none D cy) (K151 : ∀ (a0 : Nat) (x3 : Int) (x4 : Int) , jIn x3 → jIn x4 → ∀ (m : jm_M) (H : Heap) (locs : List Loc) (ls : Array Slot), jHs D cy B sz sh (jA B sz) s.heap H locs m → jL ls [some (jR B a0), none, none, some (jI x3), some (jI x4)] → k151 a0 x3 x4 m = some res → W p l e (jrm 3 0 0) s mi args below meth c H locs 0 0 (MQ below (jQc D cy B sz sh res none True) args s 0 0 (jA B sz)) (F0 mi 151 ls [])) {a0 : Nat} {x3 : Int} (h_x3 : jIn x3) {x4 : Int} (h_x4 : jIn x4) {m : jm_M} {H : Heap} {locs : List Loc} {ls : Array Slot} (S : jHs D cy B sz sh (jA B sz) s.heap H locs m) (L : jL ls [some (jR B a0), none, none, some (jI x3), some (jI x4)]) (hyp : f_X7_lay_b173 N sh k151 a0 x3 x4 m = some res) : W p l e (jrm 3 0 0) s mi args below meth c H locs 0 0 (MQ below (jQc D cy B sz sh res none True) args s 0 0 (jA B sz)) (F0 mi 173 ls []) := by
  unfold f_X7_lay_b173 at hyp
  refine jr_iinc (pc := 173) C L dX7_lay_173 rfl (Nat.le_of_ble_eq_true rfl) (fun ls L => ?_)
  have L : jL ls [some (jR B a0), none, none, some (jI x3), some (jI (jw (x4 + 1)))] := L
  refine jr_goto (pc := 176) C (tgt := 151) dX7_lay_176 (by decide) ?_
  exact K151 a0 x3 (jw (x4 + 1)) h_x3 (jIn_w _) m _ _ _ S (L.sub (jsub_s (jsub_n (jsub_n (jsub_s (jsub_s jsub_0)))))) hyp
set_option maxHeartbeats 4000000 in
set_option maxRecDepth 100000 in
theorem t_X7_lay_b151 {p : Program} {l : Launch} {e : Env} {s : State} {mi : MethodId} {args : Array Value} {below : List Frame} {meth : Method} {c : Code} {D : va_G} {cy : Nat → ClassId} {B sz : Nat} {sh : jm_S} {res : jm_M} {N : Nat} {k151 : Nat → Int → Int → jm_M → Option jm_M} (C : jCx p s mi args meth c cX7_lay 5 RX7 none D cy) (K151 : ∀ (a0 : Nat) (x3 : Int) (x4 : Int) , jIn x3 → jIn x4 → ∀ (m : jm_M) (H : Heap) (locs : List Loc) (ls : Array Slot), jHs D cy B sz sh (jA B sz) s.heap H locs m → jL ls [some (jR B a0), none, none, some (jI x3), some (jI x4)] → k151 a0 x3 x4 m = some res → W p l e (jrm 3 0 0) s mi args below meth c H locs 0 0 (MQ below (jQc D cy B sz sh res none True) args s 0 0 (jA B sz)) (F0 mi 151 ls [])) {a0 : Nat} {x3 : Int} (h_x3 : jIn x3) {x4 : Int} (h_x4 : jIn x4) {m : jm_M} {H : Heap} {locs : List Loc} {ls : Array Slot} (S : jHs D cy B sz sh (jA B sz) s.heap H locs m) (L : jL ls [some (jR B a0), none, none, some (jI x3), some (jI x4)]) (hyp : f_X7_lay_b151 N sh k151 a0 x3 x4 m = some res) : W p l e (jrm 3 0 0) s mi args below meth c H locs 0 0 (MQ below (jQc D cy B sz sh res none True) args s 0 0 (jA B sz)) (F0 mi 151 ls []) := by
  unfold f_X7_lay_b151 at hyp
  refine jr_iload (pc := 151) C L dX7_lay_151 rfl ?_
  refine jr_bipush (pc := 153) C dX7_lay_153 (by decide) ?_
  refine jr_icmp_ge (pc := 155) C h_x4 (show jIn 8 from ⟨by decide, by decide⟩) (tgt := 179) dX7_lay_155 (by decide) (fun c1 => ?_) (fun c1 => ?_)
  · have hyp := (if_pos c1).symm.trans hyp
    refine jr_iload_n (pc := 158) C L dX7_lay_158 rfl rfl ?_
    refine jr_iload (pc := 159) C L dX7_lay_159 rfl ?_
    obtain ⟨q2, hq2, hyp⟩ := jbind hyp
    refine jr_callSN_I (pc := 161) C S L (As := [jI x3, jI x4]) (rest := []) (c_X11_isIn (m0 := m) h_x3 h_x4 hq2) ms_X11_isIn mn_X7_62 (by decide) rfl rfl rfl (Nat.le_of_ble_eq_true rfl) ⟨Nat.le_refl 0, Nat.le_refl 0⟩ dX7_lay_161 (fun p3 H locs S => ?_)
    refine jr_if_eq (pc := 164) C p3 (tgt := 173) dX7_lay_164 (by decide) (fun c4 => ?_) (fun c4 => ?_)
    · have hyp := (if_pos c4).symm.trans hyp
      exact t_X7_lay_b173 C  K151 h_x3 h_x4 S (L.sub (jsub_s (jsub_n (jsub_n (jsub_s (jsub_s jsub_0)))))) hyp
    · have hyp := (if_neg c4).symm.trans hyp
      refine jr_aload_n (pc := 167) C L dX7_lay_167 rfl rfl ?_
      refine jr_iload (pc := 168) C L dX7_lay_168 rfl ?_
      obtain ⟨u5, hu5, hyp⟩ := jbind hyp
      obtain ⟨q6, hq6, hyp⟩ := jbind hyp
      refine jr_callV_N (pc := 170) C S L (As := [jI x4]) (rest := []) (c_X7_fillMoves h_x4 hq6) mv_X7_fillMoves ml_X7_66 rfl (jck_spec hu5) (by decide) rfl rfl rfl (Nat.le_of_ble_eq_true rfl) ⟨Nat.le_refl 0, Nat.le_refl 0⟩ dX7_lay_170 (fun p7 H locs S => ?_)
      exact t_X7_lay_b173 C  K151 h_x3 h_x4 S (L.sub (jsub_s (jsub_n (jsub_n (jsub_s (jsub_s jsub_0)))))) hyp
  · have hyp := (if_neg c1).symm.trans hyp
    cases hyp
    exact jr_vret C S trivial dX7_lay_179
theorem t_X7_lay_l151 {p : Program} {l : Launch} {e : Env} {s : State} {mi : MethodId} {args : Array Value} {below : List Frame} {meth : Method} {c : Code} {D : va_G} {cy : Nat → ClassId} {B sz : Nat} {sh : jm_S} {res : jm_M} {N : Nat} (C : jCx p s mi args meth c cX7_lay 5 RX7 none D cy) : ∀ (n : Nat) (a0 : Nat) (x3 : Int) (x4 : Int), jIn x3 → jIn x4 → ∀ (m : jm_M) (H : Heap) (locs : List Loc) (ls : Array Slot), jHs D cy B sz sh (jA B sz) s.heap H locs m → jL ls [some (jR B a0), none, none, some (jI x3), some (jI x4)] → f_X7_lay_l151 N sh n a0 x3 x4 m = some res → W p l e (jrm 3 0 0) s mi args below meth c H locs 0 0 (MQ below (jQc D cy B sz sh res none True) args s 0 0 (jA B sz)) (F0 mi 151 ls []) := by
  intro n
  induction n with
  | zero => intro a0 x3 x4 h_x3 h_x4 m H locs ls S L hyp; cases hyp
  | succ n ih => intro a0 x3 x4 h_x3 h_x4 m H locs ls S L hyp; exact t_X7_lay_b151 (N := N) C  ih h_x3 h_x4 S L hyp
set_option maxHeartbeats 4000000 in
set_option maxRecDepth 100000 in
theorem t_X7_lay_b85 {p : Program} {l : Launch} {e : Env} {s : State} {mi : MethodId} {args : Array Value} {below : List Frame} {meth : Method} {c : Code} {D : va_G} {cy : Nat → ClassId} {B sz : Nat} {sh : jm_S} {res : jm_M} {N : Nat} {k85 : Nat → Int → Int → jm_M → Option jm_M} (C : jCx p s mi args meth c cX7_lay 5 RX7 none D cy) (K85 : ∀ (a0 : Nat) (x3 : Int) (x4 : Int) , jIn x3 → jIn x4 → ∀ (m : jm_M) (H : Heap) (locs : List Loc) (ls : Array Slot), jHs D cy B sz sh (jA B sz) s.heap H locs m → jL ls [some (jR B a0), none, none, some (jI x3), some (jI x4)] → k85 a0 x3 x4 m = some res → W p l e (jrm 3 0 0) s mi args below meth c H locs 0 0 (MQ below (jQc D cy B sz sh res none True) args s 0 0 (jA B sz)) (F0 mi 85 ls [])) {a0 : Nat} {x3 : Int} (h_x3 : jIn x3) {x4 : Int} (h_x4 : jIn x4) {m : jm_M} {H : Heap} {locs : List Loc} {ls : Array Slot} (S : jHs D cy B sz sh (jA B sz) s.heap H locs m) (L : jL ls [some (jR B a0), none, none, some (jI x3), some (jI x4)]) (hyp : f_X7_lay_b85 N sh k85 a0 x3 x4 m = some res) : W p l e (jrm 3 0 0) s mi args below meth c H locs 0 0 (MQ below (jQc D cy B sz sh res none True) args s 0 0 (jA B sz)) (F0 mi 85 ls []) := by
  unfold f_X7_lay_b85 at hyp
  refine jr_iload (pc := 85) C L dX7_lay_85 rfl ?_
  refine jr_iconst (pc := 87) C dX7_lay_87 ?_
  refine jr_icmp_ge (pc := 88) C h_x4 (show jIn 4 from ⟨by decide, by decide⟩) (tgt := 148) dX7_lay_88 (by decide) (fun c8 => ?_) (fun c8 => ?_)
  · have hyp := (if_pos c8).symm.trans hyp
    refine jr_aload_n (pc := 91) C L dX7_lay_91 rfl rfl ?_
    obtain ⟨v9, hv9, hyp⟩ := jbind hyp
    refine jr_getR (pc := 92) C S lf_X7_27 rfl hv9 dX7_lay_92 ?_
    refine jr_iload (pc := 95) C L dX7_lay_95 rfl ?_
    refine jr_aload_n (pc := 97) C L dX7_lay_97 rfl rfl ?_
    obtain ⟨v10, hv10, hyp⟩ := jbind hyp
    have iv10 := jrf_in S hv10
    refine jr_getI (pc := 98) C S lf_X7_56 rfl hv10 dX7_lay_98 ?_
    obtain ⟨m11, hm11, hyp⟩ := jbind hyp
    refine jr_ias (pc := 101) C S h_x4 iv10 hm11 dX7_lay_101 (fun H locs S => ?_)
    refine jr_aload_n (pc := 102) C L dX7_lay_102 rfl rfl ?_
    obtain ⟨v12, hv12, hyp⟩ := jbind hyp
    refine jr_getR (pc := 103) C S lf_X7_24 rfl hv12 dX7_lay_103 ?_
    refine jr_iload (pc := 106) C L dX7_lay_106 rfl ?_
    refine jr_aload_n (pc := 108) C L dX7_lay_108 rfl rfl ?_
    obtain ⟨v13, hv13, hyp⟩ := jbind hyp
    refine jr_getR (pc := 109) C S lf_X7_18 rfl hv13 dX7_lay_109 ?_
    refine jr_iload (pc := 112) C L dX7_lay_112 rfl ?_
    obtain ⟨v14, hv14, hyp⟩ := jbind hyp
    have iv14 := jra_in S hv14
    refine jr_ial (pc := 114) C S h_x4 hv14 dX7_lay_114 ?_
    refine jr_aload_n (pc := 115) C L dX7_lay_115 rfl rfl ?_
    obtain ⟨v15, hv15, hyp⟩ := jbind hyp
    refine jr_getR (pc := 116) C S lf_X7_21 rfl hv15 dX7_lay_116 ?_
    refine jr_iload (pc := 119) C L dX7_lay_119 rfl ?_
    obtain ⟨v16, hv16, hyp⟩ := jbind hyp
    have iv16 := jra_in S hv16
    refine jr_ial (pc := 121) C S h_x4 hv16 dX7_lay_121 ?_
    obtain ⟨q17, hq17, hyp⟩ := jbind hyp
    refine jr_callS_I (pc := 122) C S L (As := [jI v14, jI v16]) (rest := [jI x4, jR B v12.toNat]) (c_X7_looksOf (m0 := m11) iv14 iv16 hq17) ms_X7_looksOf ml_X7_59 (by decide) rfl rfl rfl (by simp [jR_cat, jI_cat]) ⟨Nat.le_refl 0, Nat.le_refl 0⟩ dX7_lay_122 (fun p18 H locs S => ?_)
    obtain ⟨m19, hm19, hyp⟩ := jbind hyp
    refine jr_ias (pc := 125) C S h_x4 p18 hm19 dX7_lay_125 (fun H locs S => ?_)
    refine jr_aload_n (pc := 126) C L dX7_lay_126 rfl rfl ?_
    refine jr_dupR (pc := 127) C dX7_lay_127 ?_
    obtain ⟨v20, hv20, hyp⟩ := jbind hyp
    have iv20 := jrf_in S hv20
    refine jr_getI (pc := 128) C S lf_X7_56 rfl hv20 dX7_lay_128 ?_
    refine jr_aload_n (pc := 131) C L dX7_lay_131 rfl rfl ?_
    obtain ⟨v21, hv21, hyp⟩ := jbind hyp
    refine jr_getR (pc := 132) C S lf_X7_24 rfl hv21 dX7_lay_132 ?_
    refine jr_iload (pc := 135) C L dX7_lay_135 rfl ?_
    obtain ⟨v22, hv22, hyp⟩ := jbind hyp
    have iv22 := jra_in S hv22
    refine jr_ial (pc := 137) C S h_x4 hv22 dX7_lay_137 ?_
    refine jr_imul (pc := 138) C dX7_lay_138 ?_
    obtain ⟨m23, hm23, hyp⟩ := jbind hyp
    refine jr_putI (pc := 139) C S lf_X7_56 fp_X7_0 rfl (jIn_w _) hm23 dX7_lay_139 (fun H locs S => ?_)
    refine jr_iinc (pc := 142) C L dX7_lay_142 rfl (Nat.le_of_ble_eq_true rfl) (fun ls L => ?_)
    have L : jL ls [some (jR B a0), none, none, some (jI x3), some (jI (jw (x4 + 1)))] := L
    refine jr_goto (pc := 145) C (tgt := 85) dX7_lay_145 (by decide) ?_
    exact K85 a0 x3 (jw (x4 + 1)) h_x3 (jIn_w _) m23 _ _ _ S (L.sub (jsub_s (jsub_n (jsub_n (jsub_s (jsub_s jsub_0)))))) hyp
  · have hyp := (if_neg c8).symm.trans hyp
    refine jr_iconst (pc := 148) C dX7_lay_148 ?_
    refine jr_istore (pc := 149) C L dX7_lay_149 (Nat.le_of_ble_eq_true rfl) (fun ls L => ?_)
    have L : jL ls [some (jR B a0), none, none, some (jI x3), some (jI 0)] := L
    exact t_X7_lay_l151 C   N a0 x3 0 h_x3 (show jIn 0 from ⟨by decide, by decide⟩) m _ _ _ S (L.sub (jsub_s (jsub_n (jsub_n (jsub_s (jsub_s jsub_0)))))) hyp
theorem t_X7_lay_l85 {p : Program} {l : Launch} {e : Env} {s : State} {mi : MethodId} {args : Array Value} {below : List Frame} {meth : Method} {c : Code} {D : va_G} {cy : Nat → ClassId} {B sz : Nat} {sh : jm_S} {res : jm_M} {N : Nat} (C : jCx p s mi args meth c cX7_lay 5 RX7 none D cy) : ∀ (n : Nat) (a0 : Nat) (x3 : Int) (x4 : Int), jIn x3 → jIn x4 → ∀ (m : jm_M) (H : Heap) (locs : List Loc) (ls : Array Slot), jHs D cy B sz sh (jA B sz) s.heap H locs m → jL ls [some (jR B a0), none, none, some (jI x3), some (jI x4)] → f_X7_lay_l85 N sh n a0 x3 x4 m = some res → W p l e (jrm 3 0 0) s mi args below meth c H locs 0 0 (MQ below (jQc D cy B sz sh res none True) args s 0 0 (jA B sz)) (F0 mi 85 ls []) := by
  intro n
  induction n with
  | zero => intro a0 x3 x4 h_x3 h_x4 m H locs ls S L hyp; cases hyp
  | succ n ih => intro a0 x3 x4 h_x3 h_x4 m H locs ls S L hyp; exact t_X7_lay_b85 (N := N) C  ih h_x3 h_x4 S L hyp
set_option maxHeartbeats 4000000 in
set_option maxRecDepth 100000 in
theorem t_X7_lay_b48 {p : Program} {l : Launch} {e : Env} {s : State} {mi : MethodId} {args : Array Value} {below : List Frame} {meth : Method} {c : Code} {D : va_G} {cy : Nat → ClassId} {B sz : Nat} {sh : jm_S} {res : jm_M} {N : Nat} {k48 : Nat → Nat → Int → Int → jm_M → Option jm_M} (C : jCx p s mi args meth c cX7_lay 5 RX7 none D cy) (K48 : ∀ (a0 : Nat) (a1 : Nat) (x3 : Int) (x4 : Int) , jIn x3 → jIn x4 → ∀ (m : jm_M) (H : Heap) (locs : List Loc) (ls : Array Slot), jHs D cy B sz sh (jA B sz) s.heap H locs m → jL ls [some (jR B a0), some (jR B a1), none, some (jI x3), some (jI x4)] → k48 a0 a1 x3 x4 m = some res → W p l e (jrm 3 0 0) s mi args below meth c H locs 0 0 (MQ below (jQc D cy B sz sh res none True) args s 0 0 (jA B sz)) (F0 mi 48 ls [])) {a0 : Nat} {a1 : Nat} {x3 : Int} (h_x3 : jIn x3) {x4 : Int} (h_x4 : jIn x4) {m : jm_M} {H : Heap} {locs : List Loc} {ls : Array Slot} (S : jHs D cy B sz sh (jA B sz) s.heap H locs m) (L : jL ls [some (jR B a0), some (jR B a1), none, some (jI x3), some (jI x4)]) (hyp : f_X7_lay_b48 N sh k48 a0 a1 x3 x4 m = some res) : W p l e (jrm 3 0 0) s mi args below meth c H locs 0 0 (MQ below (jQc D cy B sz sh res none True) args s 0 0 (jA B sz)) (F0 mi 48 ls []) := by
  unfold f_X7_lay_b48 at hyp
  refine jr_iload (pc := 48) C L dX7_lay_48 rfl ?_
  refine jr_bipush (pc := 50) C dX7_lay_50 (by decide) ?_
  refine jr_icmp_ge (pc := 52) C h_x4 (show jIn 8 from ⟨by decide, by decide⟩) (tgt := 77) dX7_lay_52 (by decide) (fun c24 => ?_) (fun c24 => ?_)
  · have hyp := (if_pos c24).symm.trans hyp
    refine jr_aload_n (pc := 55) C L dX7_lay_55 rfl rfl ?_
    refine jr_iload (pc := 56) C L dX7_lay_56 rfl ?_
    refine jr_iload (pc := 58) C L dX7_lay_58 rfl ?_
    refine jr_aload_n (pc := 60) C L dX7_lay_60 rfl rfl ?_
    refine jr_iconst (pc := 61) C dX7_lay_61 ?_
    obtain ⟨u25, hu25, hyp⟩ := jbind hyp
    obtain ⟨q26, hq26, hyp⟩ := jbind hyp
    refine jr_callV_I (pc := 62) C S L (As := [jI 0]) (rest := [jI x4, jI x4, jR B a0]) (c_X1_setting (m0 := m) (show jIn 0 from ⟨by decide, by decide⟩) hq26) mv_X1_setting ml_X7_42 rfl (jck_spec hu25) (by decide) rfl rfl rfl (by simp [jR_cat, jI_cat]) ⟨Nat.le_refl 0, Nat.le_refl 0⟩ dX7_lay_62 (fun p27 H locs S => ?_)
    obtain ⟨q28, hq28, hyp⟩ := jbind hyp
    refine jr_callSN_I (pc := 65) C S L (As := [jI x4, jI q26]) (rest := [jI x4, jR B a0]) (c_X11_setOf (m0 := m) h_x4 p27 hq28) ms_X11_setOf mn_X7_48 (by decide) rfl rfl rfl (by simp [jR_cat, jI_cat]) ⟨Nat.le_refl 0, Nat.le_refl 0⟩ dX7_lay_65 (fun p29 H locs S => ?_)
    obtain ⟨u30, hu30, hyp⟩ := jbind hyp
    obtain ⟨q31, hq31, hyp⟩ := jbind hyp
    refine jr_callV_N (pc := 68) C S L (As := [jI x4, jI q28]) (rest := []) (c_X7_enrol h_x4 p29 hq31) mv_X7_enrol ml_X7_52 rfl (jck_spec hu30) (by decide) rfl rfl rfl (Nat.le_of_ble_eq_true rfl) ⟨Nat.le_refl 0, Nat.le_refl 0⟩ dX7_lay_68 (fun p32 H locs S => ?_)
    refine jr_iinc (pc := 71) C L dX7_lay_71 rfl (Nat.le_of_ble_eq_true rfl) (fun ls L => ?_)
    have L : jL ls [some (jR B a0), some (jR B a1), none, some (jI x3), some (jI (jw (x4 + 1)))] := L
    refine jr_goto (pc := 74) C (tgt := 48) dX7_lay_74 (by decide) ?_
    exact K48 a0 a1 x3 (jw (x4 + 1)) h_x3 (jIn_w _) q31 _ _ _ S (L.sub (jsub_s (jsub_s (jsub_n (jsub_s (jsub_s jsub_0)))))) hyp
  · have hyp := (if_neg c24).symm.trans hyp
    refine jr_aload_n (pc := 77) C L dX7_lay_77 rfl rfl ?_
    refine jr_iconst (pc := 78) C dX7_lay_78 ?_
    obtain ⟨m33, hm33, hyp⟩ := jbind hyp
    refine jr_putI (pc := 79) C S lf_X7_56 fp_X7_0 rfl (show jIn 1 from ⟨by decide, by decide⟩) hm33 dX7_lay_79 (fun H locs S => ?_)
    refine jr_iconst (pc := 82) C dX7_lay_82 ?_
    refine jr_istore (pc := 83) C L dX7_lay_83 (Nat.le_of_ble_eq_true rfl) (fun ls L => ?_)
    have L : jL ls [some (jR B a0), some (jR B a1), none, some (jI x3), some (jI 0)] := L
    exact t_X7_lay_l85 C   N a0 x3 0 h_x3 (show jIn 0 from ⟨by decide, by decide⟩) m33 _ _ _ S (L.sub (jsub_s (jsub_n (jsub_n (jsub_s (jsub_s jsub_0)))))) hyp
theorem t_X7_lay_l48 {p : Program} {l : Launch} {e : Env} {s : State} {mi : MethodId} {args : Array Value} {below : List Frame} {meth : Method} {c : Code} {D : va_G} {cy : Nat → ClassId} {B sz : Nat} {sh : jm_S} {res : jm_M} {N : Nat} (C : jCx p s mi args meth c cX7_lay 5 RX7 none D cy) : ∀ (n : Nat) (a0 : Nat) (a1 : Nat) (x3 : Int) (x4 : Int), jIn x3 → jIn x4 → ∀ (m : jm_M) (H : Heap) (locs : List Loc) (ls : Array Slot), jHs D cy B sz sh (jA B sz) s.heap H locs m → jL ls [some (jR B a0), some (jR B a1), none, some (jI x3), some (jI x4)] → f_X7_lay_l48 N sh n a0 a1 x3 x4 m = some res → W p l e (jrm 3 0 0) s mi args below meth c H locs 0 0 (MQ below (jQc D cy B sz sh res none True) args s 0 0 (jA B sz)) (F0 mi 48 ls []) := by
  intro n
  induction n with
  | zero => intro a0 a1 x3 x4 h_x3 h_x4 m H locs ls S L hyp; cases hyp
  | succ n ih => intro a0 a1 x3 x4 h_x3 h_x4 m H locs ls S L hyp; exact t_X7_lay_b48 (N := N) C  ih h_x3 h_x4 S L hyp
set_option maxHeartbeats 4000000 in
set_option maxRecDepth 100000 in
theorem t_X7_lay_b13 {p : Program} {l : Launch} {e : Env} {s : State} {mi : MethodId} {args : Array Value} {below : List Frame} {meth : Method} {c : Code} {D : va_G} {cy : Nat → ClassId} {B sz : Nat} {sh : jm_S} {res : jm_M} {N : Nat} {k13 : Nat → Nat → Int → Int → jm_M → Option jm_M} (C : jCx p s mi args meth c cX7_lay 5 RX7 none D cy) (K13 : ∀ (a0 : Nat) (a1 : Nat) (x3 : Int) (x4 : Int) , jIn x3 → jIn x4 → ∀ (m : jm_M) (H : Heap) (locs : List Loc) (ls : Array Slot), jHs D cy B sz sh (jA B sz) s.heap H locs m → jL ls [some (jR B a0), some (jR B a1), none, some (jI x3), some (jI x4)] → k13 a0 a1 x3 x4 m = some res → W p l e (jrm 3 0 0) s mi args below meth c H locs 0 0 (MQ below (jQc D cy B sz sh res none True) args s 0 0 (jA B sz)) (F0 mi 13 ls [])) {a0 : Nat} {a1 : Nat} {x3 : Int} (h_x3 : jIn x3) {x4 : Int} (h_x4 : jIn x4) {m : jm_M} {H : Heap} {locs : List Loc} {ls : Array Slot} (S : jHs D cy B sz sh (jA B sz) s.heap H locs m) (L : jL ls [some (jR B a0), some (jR B a1), none, some (jI x3), some (jI x4)]) (hyp : f_X7_lay_b13 N sh k13 a0 a1 x3 x4 m = some res) : W p l e (jrm 3 0 0) s mi args below meth c H locs 0 0 (MQ below (jQc D cy B sz sh res none True) args s 0 0 (jA B sz)) (F0 mi 13 ls []) := by
  unfold f_X7_lay_b13 at hyp
  refine jr_iload (pc := 13) C L dX7_lay_13 rfl ?_
  refine jr_iconst (pc := 15) C dX7_lay_15 ?_
  refine jr_icmp_ge (pc := 16) C h_x4 (show jIn 4 from ⟨by decide, by decide⟩) (tgt := 45) dX7_lay_16 (by decide) (fun c34 => ?_) (fun c34 => ?_)
  · have hyp := (if_pos c34).symm.trans hyp
    refine jr_aload_n (pc := 19) C L dX7_lay_19 rfl rfl ?_
    obtain ⟨v35, hv35, hyp⟩ := jbind hyp
    refine jr_getR (pc := 20) C S lf_X7_18 rfl hv35 dX7_lay_20 ?_
    refine jr_iload (pc := 23) C L dX7_lay_23 rfl ?_
    refine jr_aload_n (pc := 25) C L dX7_lay_25 rfl rfl ?_
    refine jr_iconst (pc := 26) C dX7_lay_26 ?_
    obtain ⟨u36, hu36, hyp⟩ := jbind hyp
    obtain ⟨q37, hq37, hyp⟩ := jbind hyp
    refine jr_callV_I (pc := 27) C S L (As := [jI 1]) (rest := [jI x4, jR B v35.toNat]) (c_X1_setting (m0 := m) (show jIn 1 from ⟨by decide, by decide⟩) hq37) mv_X1_setting ml_X7_42 rfl (jck_spec hu36) (by decide) rfl rfl rfl (by simp [jR_cat, jI_cat]) ⟨Nat.le_refl 0, Nat.le_refl 0⟩ dX7_lay_27 (fun p38 H locs S => ?_)
    obtain ⟨m39, hm39, hyp⟩ := jbind hyp
    refine jr_ias (pc := 30) C S h_x4 p38 hm39 dX7_lay_30 (fun H locs S => ?_)
    refine jr_aload_n (pc := 31) C L dX7_lay_31 rfl rfl ?_
    obtain ⟨v40, hv40, hyp⟩ := jbind hyp
    refine jr_getR (pc := 32) C S lf_X7_21 rfl hv40 dX7_lay_32 ?_
    refine jr_iload (pc := 35) C L dX7_lay_35 rfl ?_
    refine jr_iconst (pc := 37) C dX7_lay_37 ?_
    obtain ⟨m41, hm41, hyp⟩ := jbind hyp
    refine jr_ias (pc := 38) C S h_x4 (show jIn 0 from ⟨by decide, by decide⟩) hm41 dX7_lay_38 (fun H locs S => ?_)
    refine jr_iinc (pc := 39) C L dX7_lay_39 rfl (Nat.le_of_ble_eq_true rfl) (fun ls L => ?_)
    have L : jL ls [some (jR B a0), some (jR B a1), none, some (jI x3), some (jI (jw (x4 + 1)))] := L
    refine jr_goto (pc := 42) C (tgt := 13) dX7_lay_42 (by decide) ?_
    exact K13 a0 a1 x3 (jw (x4 + 1)) h_x3 (jIn_w _) m41 _ _ _ S (L.sub (jsub_s (jsub_s (jsub_n (jsub_s (jsub_s jsub_0)))))) hyp
  · have hyp := (if_neg c34).symm.trans hyp
    refine jr_iconst (pc := 45) C dX7_lay_45 ?_
    refine jr_istore (pc := 46) C L dX7_lay_46 (Nat.le_of_ble_eq_true rfl) (fun ls L => ?_)
    have L : jL ls [some (jR B a0), some (jR B a1), none, some (jI x3), some (jI 0)] := L
    exact t_X7_lay_l48 C   N a0 a1 x3 0 h_x3 (show jIn 0 from ⟨by decide, by decide⟩) m _ _ _ S (L.sub (jsub_s (jsub_s (jsub_n (jsub_s (jsub_s jsub_0)))))) hyp
theorem t_X7_lay_l13 {p : Program} {l : Launch} {e : Env} {s : State} {mi : MethodId} {args : Array Value} {below : List Frame} {meth : Method} {c : Code} {D : va_G} {cy : Nat → ClassId} {B sz : Nat} {sh : jm_S} {res : jm_M} {N : Nat} (C : jCx p s mi args meth c cX7_lay 5 RX7 none D cy) : ∀ (n : Nat) (a0 : Nat) (a1 : Nat) (x3 : Int) (x4 : Int), jIn x3 → jIn x4 → ∀ (m : jm_M) (H : Heap) (locs : List Loc) (ls : Array Slot), jHs D cy B sz sh (jA B sz) s.heap H locs m → jL ls [some (jR B a0), some (jR B a1), none, some (jI x3), some (jI x4)] → f_X7_lay_l13 N sh n a0 a1 x3 x4 m = some res → W p l e (jrm 3 0 0) s mi args below meth c H locs 0 0 (MQ below (jQc D cy B sz sh res none True) args s 0 0 (jA B sz)) (F0 mi 13 ls []) := by
  intro n
  induction n with
  | zero => intro a0 a1 x3 x4 h_x3 h_x4 m H locs ls S L hyp; cases hyp
  | succ n ih => intro a0 a1 x3 x4 h_x3 h_x4 m H locs ls S L hyp; exact t_X7_lay_b13 (N := N) C  ih h_x3 h_x4 S L hyp
set_option maxHeartbeats 4000000 in
set_option maxRecDepth 100000 in
theorem t_X7_lay_e {p : Program} {l : Launch} {e : Env} {s : State} {mi : MethodId} {args : Array Value} {below : List Frame} {meth : Method} {c : Code} {D : va_G} {cy : Nat → ClassId} {B sz : Nat} {sh : jm_S} {res : jm_M} {N : Nat} (C : jCx p s mi args meth c cX7_lay 5 RX7 none D cy) {a0 : Nat} {a1 : Nat} {x2 : Int} (h_x2 : jIn x2) {x3 : Int} (h_x3 : jIn x3) {m : jm_M} {H : Heap} {locs : List Loc} {ls : Array Slot} (S : jHs D cy B sz sh (jA B sz) s.heap H locs m) (L : jL ls [some (jR B a0), some (jR B a1), some (jI x2), some (jI x3), none]) (hyp : f_X7_lay N sh a0 a1 x2 x3 m = some res) : W p l e (jrm 3 0 0) s mi args below meth c H locs 0 0 (MQ below (jQc D cy B sz sh res none True) args s 0 0 (jA B sz)) (F0 mi 0 ls []) := by
  unfold f_X7_lay at hyp
  refine jr_aload_n (pc := 0) C L dX7_lay_0 rfl rfl ?_
  refine jr_iload_n (pc := 1) C L dX7_lay_1 rfl rfl ?_
  obtain ⟨m42, hm42, hyp⟩ := jbind hyp
  refine jr_putI (pc := 2) C S lf_X7_35 fp_X7_1 rfl h_x2 hm42 dX7_lay_2 (fun H locs S => ?_)
  refine jr_aload_n (pc := 5) C L dX7_lay_5 rfl rfl ?_
  refine jr_iload_n (pc := 6) C L dX7_lay_6 rfl rfl ?_
  obtain ⟨m43, hm43, hyp⟩ := jbind hyp
  refine jr_putI (pc := 7) C S lf_X7_39 fp_X7_2 rfl h_x3 hm43 dX7_lay_7 (fun H locs S => ?_)
  refine jr_iconst (pc := 10) C dX7_lay_10 ?_
  refine jr_istore (pc := 11) C L dX7_lay_11 (Nat.le_of_ble_eq_true rfl) (fun ls L => ?_)
  have L : jL ls [some (jR B a0), some (jR B a1), some (jI x2), some (jI x3), some (jI 0)] := L
  exact t_X7_lay_l13 C   N a0 a1 x3 0 h_x3 (show jIn 0 from ⟨by decide, by decide⟩) m43 _ _ _ S (L.sub (jsub_s (jsub_s (jsub_n (jsub_s (jsub_s jsub_0)))))) hyp
theorem c_X7_lay {l : Launch} {D : va_G} {cy : Nat → ClassId} {B sz : Nat} {sh : jm_S} {res : jm_M} {N : Nat} {m : jm_M} {a0 : Nat} {a1 : Nat} {x2 : Int} (h_x2 : jIn x2) {x3 : Int} (h_x3 : jIn x3) (hyp : f_X7_lay N sh a0 a1 x2 x3 m = some res) : jCt l D cy B sz sh 3 yX7_lay cX7_lay 5 none [jR B a0, jR B a1, jI x2, jI x3] m none res True :=
  jc_of (by decide) (fun v h => by simp only [List.mem_cons, List.not_mem_nil, or_false] at h; rcases h with rfl | rfl | rfl | rfl <;> first | rfl | exact jR_cat _ _) (Nat.le_of_ble_eq_true rfl) (fun C S L => t_X7_lay_e C  h_x2 h_x3 S L hyp)
