set_option maxHeartbeats 4000000 in
set_option maxRecDepth 100000 in
theorem t_X12_program_b31 {p : Program} {l : Launch} {e : Env} {s : State} {mi : MethodId} {args : Array Value} {below : List Frame} {meth : Method} {c : Code} {D : va_G} {cy : Nat → ClassId} {B sz : Nat} {sh : jm_S} {res : (Int × jm_M)} {N : Nat} {k31 : Nat → Int → Int → jm_M → Option (Int × jm_M)} (C : jCx p s mi args meth c cX12_program 3 RX12 (some .int) D cy) (K31 : ∀ (a0 : Nat) (x1 : Int) (x2 : Int) , jIn x1 → jIn x2 → ∀ (m : jm_M) (H : Heap) (locs : List Loc) (ls : Array Slot), jHs D cy B sz sh (jA B sz) s.heap H locs m → jL ls [some (jR B a0), some (jI x1), some (jI x2)] → k31 a0 x1 x2 m = some res → W p l e (jrm 4 0 0) s mi args below meth c H locs 0 0 (MQ below (jQc D cy B sz sh res.2 (some (jI res.1)) (jIn res.1)) args s 0 0 (jA B sz)) (F0 mi 31 ls [])) {a0 : Nat} {x1 : Int} (h_x1 : jIn x1) {x2 : Int} (h_x2 : jIn x2) {m : jm_M} {H : Heap} {locs : List Loc} {ls : Array Slot} (S : jHs D cy B sz sh (jA B sz) s.heap H locs m) (L : jL ls [some (jR B a0), some (jI x1), some (jI x2)]) (hyp : f_X12_program_b31 N sh k31 a0 x1 x2 m = some res) : W p l e (jrm 4 0 0) s mi args below meth c H locs 0 0 (MQ below (jQc D cy B sz sh res.2 (some (jI res.1)) (jIn res.1)) args s 0 0 (jA B sz)) (F0 mi 31 ls []) := by
  unfold f_X12_program_b31 at hyp
  refine jr_iload_n (pc := 31) C L dX12_program_31 rfl rfl ?_
  refine jr_aload_n (pc := 32) C L dX12_program_32 rfl rfl ?_
  obtain ⟨v1, hv1, hyp⟩ := jbind hyp
  have iv1 := jrf_in S hv1
  refine jr_getI (pc := 33) C S lf_X12_87 rfl hv1 dX12_program_33 ?_
  refine jr_icmp_ge (pc := 36) C h_x2 iv1 (tgt := 62) dX12_program_36 (by decide) (fun c2 => ?_) (fun c2 => ?_)
  · have hyp := (if_pos c2).symm.trans hyp
    refine jr_aload_n (pc := 39) C L dX12_program_39 rfl rfl ?_
    obtain ⟨v3, hv3, hyp⟩ := jbind hyp
    refine jr_getR (pc := 40) C S lf_X12_19 rfl hv3 dX12_program_40 ?_
    refine jr_bipush (pc := 43) C dX12_program_43 (by decide) ?_
    refine jr_iload_n (pc := 45) C L dX12_program_45 rfl rfl ?_
    refine jr_imul (pc := 46) C dX12_program_46 ?_
    refine jr_iload_n (pc := 47) C L dX12_program_47 rfl rfl ?_
    refine jr_iadd (pc := 48) C dX12_program_48 ?_
    refine jr_aload_n (pc := 49) C L dX12_program_49 rfl rfl ?_
    obtain ⟨v4, hv4, hyp⟩ := jbind hyp
    refine jr_getR (pc := 50) C S lf_X12_13 rfl hv4 dX12_program_50 ?_
    refine jr_iload_n (pc := 53) C L dX12_program_53 rfl rfl ?_
    obtain ⟨v5, hv5, hyp⟩ := jbind hyp
    have iv5 := jra_in S hv5
    refine jr_ial (pc := 54) C S h_x2 hv5 dX12_program_54 ?_
    obtain ⟨m6, hm6, hyp⟩ := jbind hyp
    refine jr_ias (pc := 55) C S (jIn_w _) iv5 hm6 dX12_program_55 (fun H locs S => ?_)
    refine jr_iinc (pc := 56) C L dX12_program_56 rfl (Nat.le_of_ble_eq_true rfl) (fun ls L => ?_)
    have L : jL ls [some (jR B a0), some (jI x1), some (jI (jw (x2 + 1)))] := L
    refine jr_goto (pc := 59) C (tgt := 31) dX12_program_59 (by decide) ?_
    exact K31 a0 x1 (jw (x2 + 1)) h_x1 (jIn_w _) m6 _ _ _ S (L.sub (jsub_s (jsub_s (jsub_s jsub_0)))) hyp
  · have hyp := (if_neg c2).symm.trans hyp
    refine jr_aload_n (pc := 62) C L dX12_program_62 rfl rfl ?_
    refine jr_iconst (pc := 63) C dX12_program_63 ?_
    obtain ⟨m7, hm7, hyp⟩ := jbind hyp
    refine jr_putI (pc := 64) C S lf_X12_87 fp_X12_1 rfl (show jIn 0 from ⟨by decide, by decide⟩) hm7 dX12_program_64 (fun H locs S => ?_)
    refine jr_aload_n (pc := 67) C L dX12_program_67 rfl rfl ?_
    refine jr_iload_n (pc := 68) C L dX12_program_68 rfl rfl ?_
    obtain ⟨u8, hu8, hyp⟩ := jbind hyp
    obtain ⟨q9, hq9, hyp⟩ := jbind hyp
    refine jr_callV_N (pc := 69) C S L (As := [jI x1]) (rest := []) (c_X12_laySizes h_x1 hq9) mv_X12_laySizes ml_X12_106 rfl (jck_spec hu8) (by decide) rfl rfl rfl (Nat.le_of_ble_eq_true rfl) ⟨Nat.le_refl 0, Nat.le_refl 0⟩ dX12_program_69 (fun p10 H locs S => ?_)
    refine jr_aload_n (pc := 72) C L dX12_program_72 rfl rfl ?_
    obtain ⟨v11, hv11, hyp⟩ := jbind hyp
    refine jr_getR (pc := 73) C S lf_X12_16 rfl hv11 dX12_program_73 ?_
    refine jr_iload_n (pc := 76) C L dX12_program_76 rfl rfl ?_
    obtain ⟨v12, hv12, hyp⟩ := jbind hyp
    have iv12 := jra_in S hv12
    refine jr_ial (pc := 77) C S h_x1 hv12 dX12_program_77 ?_
    cases hyp
    exact jr_iret C S iv12 dX12_program_78
theorem t_X12_program_l31 {p : Program} {l : Launch} {e : Env} {s : State} {mi : MethodId} {args : Array Value} {below : List Frame} {meth : Method} {c : Code} {D : va_G} {cy : Nat → ClassId} {B sz : Nat} {sh : jm_S} {res : (Int × jm_M)} {N : Nat} (C : jCx p s mi args meth c cX12_program 3 RX12 (some .int) D cy) : ∀ (n : Nat) (a0 : Nat) (x1 : Int) (x2 : Int), jIn x1 → jIn x2 → ∀ (m : jm_M) (H : Heap) (locs : List Loc) (ls : Array Slot), jHs D cy B sz sh (jA B sz) s.heap H locs m → jL ls [some (jR B a0), some (jI x1), some (jI x2)] → f_X12_program_l31 N sh n a0 x1 x2 m = some res → W p l e (jrm 4 0 0) s mi args below meth c H locs 0 0 (MQ below (jQc D cy B sz sh res.2 (some (jI res.1)) (jIn res.1)) args s 0 0 (jA B sz)) (F0 mi 31 ls []) := by
  intro n
  induction n with
  | zero => intro a0 x1 x2 h_x1 h_x2 m H locs ls S L hyp; cases hyp
  | succ n ih => intro a0 x1 x2 h_x1 h_x2 m H locs ls S L hyp; exact t_X12_program_b31 (N := N) C  ih h_x1 h_x2 S L hyp
set_option maxHeartbeats 4000000 in
set_option maxRecDepth 100000 in
theorem t_X12_program_e {p : Program} {l : Launch} {e : Env} {s : State} {mi : MethodId} {args : Array Value} {below : List Frame} {meth : Method} {c : Code} {D : va_G} {cy : Nat → ClassId} {B sz : Nat} {sh : jm_S} {res : (Int × jm_M)} {N : Nat} (C : jCx p s mi args meth c cX12_program 3 RX12 (some .int) D cy) {a0 : Nat} {x1 : Int} (h_x1 : jIn x1) {m : jm_M} {H : Heap} {locs : List Loc} {ls : Array Slot} (S : jHs D cy B sz sh (jA B sz) s.heap H locs m) (L : jL ls [some (jR B a0), some (jI x1), none]) (hyp : f_X12_program N sh a0 x1 m = some res) : W p l e (jrm 4 0 0) s mi args below meth c H locs 0 0 (MQ below (jQc D cy B sz sh res.2 (some (jI res.1)) (jIn res.1)) args s 0 0 (jA B sz)) (F0 mi 0 ls []) := by
  unfold f_X12_program at hyp
  refine jr_iload_n (pc := 0) C L dX12_program_0 rfl rfl ?_
  obtain ⟨q13, hq13, hyp⟩ := jbind hyp
  refine jr_callS_I (pc := 1) C S L (As := [jI x1]) (rest := []) (c_X12_isProgram (m0 := m) h_x1 hq13) ms_X12_isProgram ml_X12_103 (by decide) rfl rfl rfl (Nat.le_of_ble_eq_true rfl) ⟨Nat.le_refl 0, Nat.le_refl 0⟩ dX12_program_1 (fun p14 H locs S => ?_)
  refine jr_if_ne (pc := 4) C p14 (tgt := 9) dX12_program_4 (by decide) (fun c15 => ?_) (fun c15 => ?_)
  · have hyp := (if_pos c15).symm.trans hyp
    refine jr_iconst (pc := 7) C dX12_program_7 ?_
    cases hyp
    exact jr_iret C S (show jIn (-1) from ⟨by decide, by decide⟩) dX12_program_8
  · have hyp := (if_neg c15).symm.trans hyp
    refine jr_aload_n (pc := 9) C L dX12_program_9 rfl rfl ?_
    obtain ⟨u16, hu16, hyp⟩ := jbind hyp
    obtain ⟨q17, hq17, hyp⟩ := jbind hyp
    refine jr_callV_I (pc := 10) C S L (As := []) (rest := []) (c_X12_faultOf  hq17) mv_X12_faultOf ml_X12_99 rfl (jck_spec hu16) (by decide) rfl rfl rfl (Nat.le_of_ble_eq_true rfl) ⟨Nat.le_refl 0, Nat.le_refl 0⟩ dX12_program_10 (fun p18 H locs S => ?_)
    refine jr_if_lt (pc := 13) C p18 (tgt := 19) dX12_program_13 (by decide) (fun c19 => ?_) (fun c19 => ?_)
    · have hyp := (if_pos c19).symm.trans hyp
      refine jr_aload_n (pc := 19) C L dX12_program_19 rfl rfl ?_
      obtain ⟨v20, hv20, hyp⟩ := jbind hyp
      refine jr_getR (pc := 20) C S lf_X12_16 rfl hv20 dX12_program_20 ?_
      refine jr_iload_n (pc := 23) C L dX12_program_23 rfl rfl ?_
      refine jr_aload_n (pc := 24) C L dX12_program_24 rfl rfl ?_
      obtain ⟨v21, hv21, hyp⟩ := jbind hyp
      have iv21 := jrf_in S hv21
      refine jr_getI (pc := 25) C S lf_X12_87 rfl hv21 dX12_program_25 ?_
      obtain ⟨m22, hm22, hyp⟩ := jbind hyp
      refine jr_ias (pc := 28) C S h_x1 iv21 hm22 dX12_program_28 (fun H locs S => ?_)
      refine jr_iconst (pc := 29) C dX12_program_29 ?_
      refine jr_istore_n (pc := 30) C L dX12_program_30 rfl (Nat.le_of_ble_eq_true rfl) (fun ls L => ?_)
      have L : jL ls [some (jR B a0), some (jI x1), some (jI 0)] := L
      exact t_X12_program_l31 C   N a0 x1 0 h_x1 (show jIn 0 from ⟨by decide, by decide⟩) m22 _ _ _ S (L.sub (jsub_s (jsub_s (jsub_s jsub_0)))) hyp
    · have hyp := (if_neg c19).symm.trans hyp
      refine jr_bipush (pc := 16) C dX12_program_16 (by decide) ?_
      cases hyp
      exact jr_iret C S (show jIn (-5) from ⟨by decide, by decide⟩) dX12_program_18
theorem c_X12_program {l : Launch} {D : va_G} {cy : Nat → ClassId} {B sz : Nat} {sh : jm_S} {res : (Int × jm_M)} {N : Nat} {m : jm_M} {a0 : Nat} {x1 : Int} (h_x1 : jIn x1) (hyp : f_X12_program N sh a0 x1 m = some res) : jCt l D cy B sz sh 4 yX12_program cX12_program 3 (some .int) [jR B a0, jI x1] m (some (jI res.1)) res.2 (jIn res.1) :=
  jc_of (by decide) (fun v h => by simp only [List.mem_cons, List.not_mem_nil, or_false] at h; rcases h with rfl | rfl <;> first | rfl | exact jR_cat _ _) (Nat.le_of_ble_eq_true rfl) (fun C S L => t_X12_program_e C  h_x1 S L hyp)
set_option maxHeartbeats 4000000 in
set_option maxRecDepth 100000 in
theorem t_X12_isNode_e {p : Program} {l : Launch} {e : Env} {s : State} {mi : MethodId} {args : Array Value} {below : List Frame} {meth : Method} {c : Code} {D : va_G} {cy : Nat → ClassId} {B sz : Nat} {sh : jm_S} {res : Int} {m0 : jm_M} (C : jCx p s mi args meth c cX12_isNode 3 RX12 (some .boolean) D cy) {a0 : Nat} {x1 : Int} (h_x1 : jIn x1) {x2 : Int} (h_x2 : jIn x2) {H : Heap} {locs : List Loc} {ls : Array Slot} (S : jHs D cy B sz sh (jA B sz) s.heap H locs m0) (L : jL ls [some (jR B a0), some (jI x1), some (jI x2)]) (hyp : f_X12_isNode sh a0 x1 x2 m0 = some res) : W p l e (jrm 2 0 0) s mi args below meth c H locs 0 0 (MQ below (jQc D cy B sz sh m0 (some (jI res)) (jIn res)) args s 0 0 (jA B sz)) (F0 mi 0 ls []) := by
  unfold f_X12_isNode at hyp
  refine jr_iload_n (pc := 0) C L dX12_isNode_0 rfl rfl ?_
  obtain ⟨q1, hq1, hyp⟩ := jbind hyp
  refine jr_callS_I (pc := 1) C S L (As := [jI x1]) (rest := []) (c_X12_isProgram (m0 := m0) h_x1 hq1) ms_X12_isProgram ml_X12_103 (by decide) rfl rfl rfl (Nat.le_of_ble_eq_true rfl) ⟨Nat.le_refl 0, Nat.le_refl 0⟩ dX12_isNode_1 (fun p2 H locs S => ?_)
  refine jr_if_eq (pc := 4) C p2 (tgt := 27) dX12_isNode_4 (by decide) (fun c3 => ?_) (fun c3 => ?_)
  · have hyp := (if_pos c3).symm.trans hyp
    refine jr_iconst (pc := 27) C dX12_isNode_27 ?_
    cases hyp
    exact jr_zret C S (show jIn 0 from ⟨by decide, by decide⟩) rfl dX12_isNode_28
  · have hyp := (if_neg c3).symm.trans hyp
    refine jr_iload_n (pc := 7) C L dX12_isNode_7 rfl rfl ?_
    refine jr_iconst (pc := 8) C dX12_isNode_8 ?_
    refine jr_aload_n (pc := 9) C L dX12_isNode_9 rfl rfl ?_
    obtain ⟨v4, hv4, hyp⟩ := jbind hyp
    refine jr_getR (pc := 10) C S lf_X12_16 rfl hv4 dX12_isNode_10 ?_
    refine jr_iload_n (pc := 13) C L dX12_isNode_13 rfl rfl ?_
    obtain ⟨v5, hv5, hyp⟩ := jbind hyp
    have iv5 := jra_in S hv5
    refine jr_ial (pc := 14) C S h_x1 hv5 dX12_isNode_14 ?_
    refine jr_iconst (pc := 15) C dX12_isNode_15 ?_
    refine jr_isub (pc := 16) C dX12_isNode_16 ?_
    obtain ⟨q6, hq6, hyp⟩ := jbind hyp
    refine jr_callS_I (pc := 17) C S L (As := [jI x2, jI 0, jI (jw (v5 - 1))]) (rest := []) (c_X12_in (m0 := m0) h_x2 (show jIn 0 from ⟨by decide, by decide⟩) (jIn_w _) hq6) ms_X12_in ml_X12_80 (by decide) rfl rfl rfl (Nat.le_of_ble_eq_true rfl) ⟨Nat.le_refl 0, Nat.le_refl 0⟩ dX12_isNode_17 (fun p7 H locs S => ?_)
    refine jr_if_eq (pc := 20) C p7 (tgt := 27) dX12_isNode_20 (by decide) (fun c8 => ?_) (fun c8 => ?_)
    · have hyp := (if_pos c8).symm.trans hyp
      refine jr_iconst (pc := 27) C dX12_isNode_27 ?_
      cases hyp
      exact jr_zret C S (show jIn 0 from ⟨by decide, by decide⟩) rfl dX12_isNode_28
    · have hyp := (if_neg c8).symm.trans hyp
      refine jr_iconst (pc := 23) C dX12_isNode_23 ?_
      refine jr_goto (pc := 24) C (tgt := 28) dX12_isNode_24 (by decide) ?_
      cases hyp
      exact jr_zret C S (show jIn 1 from ⟨by decide, by decide⟩) rfl dX12_isNode_28
theorem c_X12_isNode {l : Launch} {D : va_G} {cy : Nat → ClassId} {B sz : Nat} {sh : jm_S} {res : Int} {m0 : jm_M} {a0 : Nat} {x1 : Int} (h_x1 : jIn x1) {x2 : Int} (h_x2 : jIn x2) (hyp : f_X12_isNode sh a0 x1 x2 m0 = some res) : jCt l D cy B sz sh 2 yX12_isNode cX12_isNode 3 (some .boolean) [jR B a0, jI x1, jI x2] m0 (some (jI res)) m0 (jIn res) :=
  jc_of (by decide) (fun v h => by simp only [List.mem_cons, List.not_mem_nil, or_false] at h; rcases h with rfl | rfl | rfl <;> first | rfl | exact jR_cat _ _) (Nat.le_of_ble_eq_true rfl) (fun C S L => t_X12_isNode_e C  h_x1 h_x2 S L hyp)
set_option maxHeartbeats 4000000 in
set_option maxRecDepth 100000 in
theorem t_X12_node_e {p : Program} {l : Launch} {e : Env} {s : State} {mi : MethodId} {args : Array Value} {below : List Frame} {meth : Method} {c : Code} {D : va_G} {cy : Nat → ClassId} {B sz : Nat} {sh : jm_S} {res : Int} {m0 : jm_M} (C : jCx p s mi args meth c cX12_node 4 RX12 (some .int) D cy) {a0 : Nat} {x1 : Int} (h_x1 : jIn x1) {x2 : Int} (h_x2 : jIn x2) {x3 : Int} (h_x3 : jIn x3) {H : Heap} {locs : List Loc} {ls : Array Slot} (S : jHs D cy B sz sh (jA B sz) s.heap H locs m0) (L : jL ls [some (jR B a0), some (jI x1), some (jI x2), some (jI x3)]) (hyp : f_X12_node sh a0 x1 x2 x3 m0 = some res) : W p l e (jrm 3 0 0) s mi args below meth c H locs 0 0 (MQ below (jQc D cy B sz sh m0 (some (jI res)) (jIn res)) args s 0 0 (jA B sz)) (F0 mi 0 ls []) := by
  unfold f_X12_node at hyp
  refine jr_aload_n (pc := 0) C L dX12_node_0 rfl rfl ?_
  refine jr_iload_n (pc := 1) C L dX12_node_1 rfl rfl ?_
  refine jr_iload_n (pc := 2) C L dX12_node_2 rfl rfl ?_
  obtain ⟨u1, hu1, hyp⟩ := jbind hyp
  obtain ⟨q2, hq2, hyp⟩ := jbind hyp
  refine jr_callV_I (pc := 3) C S L (As := [jI x1, jI x2]) (rest := []) (c_X12_isNode (m0 := m0) h_x1 h_x2 hq2) mv_X12_isNode ml_X12_110 rfl (jck_spec hu1) (by decide) rfl rfl rfl (Nat.le_of_ble_eq_true rfl) ⟨Nat.le_refl 0, Nat.le_refl 0⟩ dX12_node_3 (fun p3 H locs S => ?_)
  refine jr_if_ne (pc := 6) C p3 (tgt := 11) dX12_node_6 (by decide) (fun c4 => ?_) (fun c4 => ?_)
  · have hyp := (if_pos c4).symm.trans hyp
    refine jr_iconst (pc := 9) C dX12_node_9 ?_
    cases hyp
    exact jr_iret C S (show jIn (-1) from ⟨by decide, by decide⟩) dX12_node_10
  · have hyp := (if_neg c4).symm.trans hyp
    refine jr_iload_n (pc := 11) C L dX12_node_11 rfl rfl ?_
    refine jr_if_ne (pc := 12) C h_x3 (tgt := 29) dX12_node_12 (by decide) (fun c5 => ?_) (fun c5 => ?_)
    · have hyp := (if_pos c5).symm.trans hyp
      refine jr_aload_n (pc := 15) C L dX12_node_15 rfl rfl ?_
      obtain ⟨v6, hv6, hyp⟩ := jbind hyp
      refine jr_getR (pc := 16) C S lf_X12_19 rfl hv6 dX12_node_16 ?_
      refine jr_bipush (pc := 19) C dX12_node_19 (by decide) ?_
      refine jr_iload_n (pc := 21) C L dX12_node_21 rfl rfl ?_
      refine jr_imul (pc := 22) C dX12_node_22 ?_
      refine jr_iload_n (pc := 23) C L dX12_node_23 rfl rfl ?_
      refine jr_iadd (pc := 24) C dX12_node_24 ?_
      obtain ⟨v7, hv7, hyp⟩ := jbind hyp
      have iv7 := jra_in S hv7
      refine jr_ial (pc := 25) C S (jIn_w _) hv7 dX12_node_25 ?_
      refine jr_goto (pc := 26) C (tgt := 50) dX12_node_26 (by decide) ?_
      cases hyp
      exact jr_iret C S iv7 dX12_node_50
    · have hyp := (if_neg c5).symm.trans hyp
      refine jr_iload_n (pc := 29) C L dX12_node_29 rfl rfl ?_
      refine jr_iconst (pc := 30) C dX12_node_30 ?_
      refine jr_icmp_ne (pc := 31) C h_x3 (show jIn 1 from ⟨by decide, by decide⟩) (tgt := 48) dX12_node_31 (by decide) (fun c8 => ?_) (fun c8 => ?_)
      · have hyp := (if_pos c8).symm.trans hyp
        refine jr_aload_n (pc := 34) C L dX12_node_34 rfl rfl ?_
        obtain ⟨v9, hv9, hyp⟩ := jbind hyp
        refine jr_getR (pc := 35) C S lf_X12_22 rfl hv9 dX12_node_35 ?_
        refine jr_bipush (pc := 38) C dX12_node_38 (by decide) ?_
        refine jr_iload_n (pc := 40) C L dX12_node_40 rfl rfl ?_
        refine jr_imul (pc := 41) C dX12_node_41 ?_
        refine jr_iload_n (pc := 42) C L dX12_node_42 rfl rfl ?_
        refine jr_iadd (pc := 43) C dX12_node_43 ?_
        obtain ⟨v10, hv10, hyp⟩ := jbind hyp
        have iv10 := jra_in S hv10
        refine jr_ial (pc := 44) C S (jIn_w _) hv10 dX12_node_44 ?_
        refine jr_goto (pc := 45) C (tgt := 50) dX12_node_45 (by decide) ?_
        cases hyp
        exact jr_iret C S iv10 dX12_node_50
      · have hyp := (if_neg c8).symm.trans hyp
        refine jr_bipush (pc := 48) C dX12_node_48 (by decide) ?_
        cases hyp
        exact jr_iret C S (show jIn (-2) from ⟨by decide, by decide⟩) dX12_node_50
theorem c_X12_node {l : Launch} {D : va_G} {cy : Nat → ClassId} {B sz : Nat} {sh : jm_S} {res : Int} {m0 : jm_M} {a0 : Nat} {x1 : Int} (h_x1 : jIn x1) {x2 : Int} (h_x2 : jIn x2) {x3 : Int} (h_x3 : jIn x3) (hyp : f_X12_node sh a0 x1 x2 x3 m0 = some res) : jCt l D cy B sz sh 3 yX12_node cX12_node 4 (some .int) [jR B a0, jI x1, jI x2, jI x3] m0 (some (jI res)) m0 (jIn res) :=
  jc_of (by decide) (fun v h => by simp only [List.mem_cons, List.not_mem_nil, or_false] at h; rcases h with rfl | rfl | rfl | rfl <;> first | rfl | exact jR_cat _ _) (Nat.le_of_ble_eq_true rfl) (fun C S L => t_X12_node_e C  h_x1 h_x2 h_x3 S L hyp)
set_option maxHeartbeats 4000000 in
set_option maxRecDepth 100000 in
theorem t_X12_linesInSet_e {p : Program} {l : Launch} {e : Env} {s : State} {mi : MethodId} {args : Array Value} {below : List Frame} {meth : Method} {c : Code} {D : va_G} {cy : Nat → ClassId} {B sz : Nat} {sh : jm_S} {res : Int} {m0 : jm_M} (C : jCx p s mi args meth c cX12_linesInSet 1 RX12 (some .int) D cy) {a0 : Nat} {H : Heap} {locs : List Loc} {ls : Array Slot} (S : jHs D cy B sz sh (jA B sz) s.heap H locs m0) (L : jL ls [some (jR B a0)]) (hyp : f_X12_linesInSet sh a0 m0 = some res) : W p l e (jrm 0 0 0) s mi args below meth c H locs 0 0 (MQ below (jQc D cy B sz sh m0 (some (jI res)) (jIn res)) args s 0 0 (jA B sz)) (F0 mi 0 ls []) := by
  unfold f_X12_linesInSet at hyp
  refine jr_bipush (pc := 0) C dX12_linesInSet_0 (by decide) ?_
  refine jr_aload_n (pc := 2) C L dX12_linesInSet_2 rfl rfl ?_
  obtain ⟨v1, hv1, hyp⟩ := jbind hyp
  refine jr_getR (pc := 3) C S lf_X12_7 rfl hv1 dX12_linesInSet_3 ?_
  refine jr_iconst (pc := 6) C dX12_linesInSet_6 ?_
  obtain ⟨v2, hv2, hyp⟩ := jbind hyp
  have iv2 := jra_in S hv2
  refine jr_ial (pc := 7) C S (show jIn 0 from ⟨by decide, by decide⟩) hv2 dX12_linesInSet_7 ?_
  by_cases c3 : v2 = 0
  · exact absurd ((if_pos c3).symm.trans hyp) (by intro h; cases h)
  have hyp := (if_neg c3).symm.trans hyp
  refine jr_idiv (pc := 8) C (show jIn 8 from ⟨by decide, by decide⟩) iv2 c3 dX12_linesInSet_8 ?_
  cases hyp
  exact jr_iret C S (jIn_div _ _) dX12_linesInSet_9
theorem c_X12_linesInSet {l : Launch} {D : va_G} {cy : Nat → ClassId} {B sz : Nat} {sh : jm_S} {res : Int} {m0 : jm_M} {a0 : Nat} (hyp : f_X12_linesInSet sh a0 m0 = some res) : jCt l D cy B sz sh 0 yX12_linesInSet cX12_linesInSet 1 (some .int) [jR B a0] m0 (some (jI res)) m0 (jIn res) :=
  jc_of (by decide) (fun v h => by rw [List.mem_singleton.mp h]; first | rfl | exact jR_cat _ _) (Nat.le_of_ble_eq_true rfl) (fun C S L => t_X12_linesInSet_e C   S L hyp)
set_option maxHeartbeats 4000000 in
set_option maxRecDepth 100000 in
theorem t_X12_statesOfSet_e {p : Program} {l : Launch} {e : Env} {s : State} {mi : MethodId} {args : Array Value} {below : List Frame} {meth : Method} {c : Code} {D : va_G} {cy : Nat → ClassId} {B sz : Nat} {sh : jm_S} {res : Int} {m0 : jm_M} (C : jCx p s mi args meth c cX12_statesOfSet 2 RX12 (some .int) D cy) {a0 : Nat} {H : Heap} {locs : List Loc} {ls : Array Slot} (S : jHs D cy B sz sh (jA B sz) s.heap H locs m0) (L : jL ls [some (jR B a0), none]) (hyp : f_X12_statesOfSet sh a0 m0 = some res) : W p l e (jrm 1 0 0) s mi args below meth c H locs 0 0 (MQ below (jQc D cy B sz sh m0 (some (jI res)) (jIn res)) args s 0 0 (jA B sz)) (F0 mi 0 ls []) := by
  unfold f_X12_statesOfSet at hyp
  refine jr_aload_n (pc := 0) C L dX12_statesOfSet_0 rfl rfl ?_
  obtain ⟨u1, hu1, hyp⟩ := jbind hyp
  obtain ⟨q2, hq2, hyp⟩ := jbind hyp
  refine jr_callV_I (pc := 1) C S L (As := []) (rest := []) (c_X12_linesInSet (m0 := m0)  hq2) mv_X12_linesInSet ml_X12_114 rfl (jck_spec hu1) (by decide) rfl rfl rfl (Nat.le_of_ble_eq_true rfl) ⟨Nat.le_refl 0, Nat.le_refl 0⟩ dX12_statesOfSet_1 (fun p3 H locs S => ?_)
  refine jr_istore_n (pc := 4) C L dX12_statesOfSet_4 rfl (Nat.le_of_ble_eq_true rfl) (fun ls L => ?_)
  have L : jL ls [some (jR B a0), some (jI q2)] := L
  refine jr_iconst (pc := 5) C dX12_statesOfSet_5 ?_
  refine jr_iload_n (pc := 6) C L dX12_statesOfSet_6 rfl rfl ?_
  refine jr_iadd (pc := 7) C dX12_statesOfSet_7 ?_
  refine jr_iload_n (pc := 8) C L dX12_statesOfSet_8 rfl rfl ?_
  refine jr_iload_n (pc := 9) C L dX12_statesOfSet_9 rfl rfl ?_
  refine jr_iconst (pc := 10) C dX12_statesOfSet_10 ?_
  refine jr_isub (pc := 11) C dX12_statesOfSet_11 ?_
  refine jr_imul (pc := 12) C dX12_statesOfSet_12 ?_
  refine jr_iadd (pc := 13) C dX12_statesOfSet_13 ?_
  cases hyp
  exact jr_iret C S (jIn_w _) dX12_statesOfSet_14
theorem c_X12_statesOfSet {l : Launch} {D : va_G} {cy : Nat → ClassId} {B sz : Nat} {sh : jm_S} {res : Int} {m0 : jm_M} {a0 : Nat} (hyp : f_X12_statesOfSet sh a0 m0 = some res) : jCt l D cy B sz sh 1 yX12_statesOfSet cX12_statesOfSet 2 (some .int) [jR B a0] m0 (some (jI res)) m0 (jIn res) :=
  jc_of (by decide) (fun v h => by rw [List.mem_singleton.mp h]; first | rfl | exact jR_cat _ _) (Nat.le_of_ble_eq_true rfl) (fun C S L => t_X12_statesOfSet_e C   S L hyp)
set_option maxHeartbeats 4000000 in
set_option maxRecDepth 100000 in
theorem t_X12_states_b4 {p : Program} {l : Launch} {e : Env} {s : State} {mi : MethodId} {args : Array Value} {below : List Frame} {meth : Method} {c : Code} {D : va_G} {cy : Nat → ClassId} {B sz : Nat} {sh : jm_S} {res : Int} {N : Nat} {m0 : jm_M} {k4 : Nat → Int → Int → Option Int} (C : jCx p s mi args meth c cX12_states 3 RX12 (some .int) D cy) (K4 : ∀ (a0 : Nat) (x1 : Int) (x2 : Int) , jIn x1 → jIn x2 → ∀ (H : Heap) (locs : List Loc) (ls : Array Slot), jHs D cy B sz sh (jA B sz) s.heap H locs m0 → jL ls [some (jR B a0), some (jI x1), some (jI x2)] → k4 a0 x1 x2 = some res → W p l e (jrm 2 0 0) s mi args below meth c H locs 0 0 (MQ below (jQc D cy B sz sh m0 (some (jI res)) (jIn res)) args s 0 0 (jA B sz)) (F0 mi 4 ls [])) {a0 : Nat} {x1 : Int} (h_x1 : jIn x1) {x2 : Int} (h_x2 : jIn x2) {H : Heap} {locs : List Loc} {ls : Array Slot} (S : jHs D cy B sz sh (jA B sz) s.heap H locs m0) (L : jL ls [some (jR B a0), some (jI x1), some (jI x2)]) (hyp : f_X12_states_b4 N sh k4 a0 x1 x2 m0 = some res) : W p l e (jrm 2 0 0) s mi args below meth c H locs 0 0 (MQ below (jQc D cy B sz sh m0 (some (jI res)) (jIn res)) args s 0 0 (jA B sz)) (F0 mi 4 ls []) := by
  unfold f_X12_states_b4 at hyp
  refine jr_iload_n (pc := 4) C L dX12_states_4 rfl rfl ?_
  refine jr_aload_n (pc := 5) C L dX12_states_5 rfl rfl ?_
  obtain ⟨v1, hv1, hyp⟩ := jbind hyp
  refine jr_getR (pc := 6) C S lf_X12_7 rfl hv1 dX12_states_6 ?_
  refine jr_iconst (pc := 9) C dX12_states_9 ?_
  obtain ⟨v2, hv2, hyp⟩ := jbind hyp
  have iv2 := jra_in S hv2
  refine jr_ial (pc := 10) C S (show jIn 0 from ⟨by decide, by decide⟩) hv2 dX12_states_10 ?_
  refine jr_icmp_ge (pc := 11) C h_x2 iv2 (tgt := 27) dX12_states_11 (by decide) (fun c3 => ?_) (fun c3 => ?_)
  · have hyp := (if_pos c3).symm.trans hyp
    refine jr_iload_n (pc := 14) C L dX12_states_14 rfl rfl ?_
    refine jr_aload_n (pc := 15) C L dX12_states_15 rfl rfl ?_
    obtain ⟨u4, hu4, hyp⟩ := jbind hyp
    obtain ⟨q5, hq5, hyp⟩ := jbind hyp
    refine jr_callV_I (pc := 16) C S L (As := []) (rest := [jI x1]) (c_X12_statesOfSet (m0 := m0)  hq5) mv_X12_statesOfSet ml_X12_117 rfl (jck_spec hu4) (by decide) rfl rfl rfl (Nat.le_of_ble_eq_true rfl) ⟨Nat.le_refl 0, Nat.le_refl 0⟩ dX12_states_16 (fun p6 H locs S => ?_)
    refine jr_imul (pc := 19) C dX12_states_19 ?_
    refine jr_istore_n (pc := 20) C L dX12_states_20 rfl (Nat.le_of_ble_eq_true rfl) (fun ls L => ?_)
    have L : jL ls [some (jR B a0), some (jI (jw (x1 * q5))), some (jI x2)] := L
    refine jr_iinc (pc := 21) C L dX12_states_21 rfl (Nat.le_of_ble_eq_true rfl) (fun ls L => ?_)
    have L : jL ls [some (jR B a0), some (jI (jw (x1 * q5))), some (jI (jw (x2 + 1)))] := L
    refine jr_goto (pc := 24) C (tgt := 4) dX12_states_24 (by decide) ?_
    exact K4 a0 (jw (x1 * q5)) (jw (x2 + 1)) (jIn_w _) (jIn_w _)  _ _ _ S (L.sub (jsub_s (jsub_s (jsub_s jsub_0)))) hyp
  · have hyp := (if_neg c3).symm.trans hyp
    refine jr_iload_n (pc := 27) C L dX12_states_27 rfl rfl ?_
    cases hyp
    exact jr_iret C S h_x1 dX12_states_28
theorem t_X12_states_l4 {p : Program} {l : Launch} {e : Env} {s : State} {mi : MethodId} {args : Array Value} {below : List Frame} {meth : Method} {c : Code} {D : va_G} {cy : Nat → ClassId} {B sz : Nat} {sh : jm_S} {res : Int} {N : Nat} {m0 : jm_M} (C : jCx p s mi args meth c cX12_states 3 RX12 (some .int) D cy) : ∀ (n : Nat) (a0 : Nat) (x1 : Int) (x2 : Int), jIn x1 → jIn x2 → ∀ (H : Heap) (locs : List Loc) (ls : Array Slot), jHs D cy B sz sh (jA B sz) s.heap H locs m0 → jL ls [some (jR B a0), some (jI x1), some (jI x2)] → f_X12_states_l4 N sh n a0 x1 x2 m0 = some res → W p l e (jrm 2 0 0) s mi args below meth c H locs 0 0 (MQ below (jQc D cy B sz sh m0 (some (jI res)) (jIn res)) args s 0 0 (jA B sz)) (F0 mi 4 ls []) := by
  intro n
  induction n with
  | zero => intro a0 x1 x2 h_x1 h_x2 H locs ls S L hyp; cases hyp
  | succ n ih => intro a0 x1 x2 h_x1 h_x2 H locs ls S L hyp; exact t_X12_states_b4 (N := N) C  ih h_x1 h_x2 S L hyp
set_option maxHeartbeats 4000000 in
set_option maxRecDepth 100000 in
theorem t_X12_states_e {p : Program} {l : Launch} {e : Env} {s : State} {mi : MethodId} {args : Array Value} {below : List Frame} {meth : Method} {c : Code} {D : va_G} {cy : Nat → ClassId} {B sz : Nat} {sh : jm_S} {res : Int} {N : Nat} {m0 : jm_M} (C : jCx p s mi args meth c cX12_states 3 RX12 (some .int) D cy) {a0 : Nat} {H : Heap} {locs : List Loc} {ls : Array Slot} (S : jHs D cy B sz sh (jA B sz) s.heap H locs m0) (L : jL ls [some (jR B a0), none, none]) (hyp : f_X12_states N sh a0 m0 = some res) : W p l e (jrm 2 0 0) s mi args below meth c H locs 0 0 (MQ below (jQc D cy B sz sh m0 (some (jI res)) (jIn res)) args s 0 0 (jA B sz)) (F0 mi 0 ls []) := by
  unfold f_X12_states at hyp
  refine jr_iconst (pc := 0) C dX12_states_0 ?_
  refine jr_istore_n (pc := 1) C L dX12_states_1 rfl (Nat.le_of_ble_eq_true rfl) (fun ls L => ?_)
  have L : jL ls [some (jR B a0), some (jI 1), none] := L
  refine jr_iconst (pc := 2) C dX12_states_2 ?_
  refine jr_istore_n (pc := 3) C L dX12_states_3 rfl (Nat.le_of_ble_eq_true rfl) (fun ls L => ?_)
  have L : jL ls [some (jR B a0), some (jI 1), some (jI 0)] := L
  exact t_X12_states_l4 C   N a0 1 0 (show jIn 1 from ⟨by decide, by decide⟩) (show jIn 0 from ⟨by decide, by decide⟩)  _ _ _ S (L.sub (jsub_s (jsub_s (jsub_s jsub_0)))) hyp
theorem c_X12_states {l : Launch} {D : va_G} {cy : Nat → ClassId} {B sz : Nat} {sh : jm_S} {res : Int} {N : Nat} {m0 : jm_M} {a0 : Nat} (hyp : f_X12_states N sh a0 m0 = some res) : jCt l D cy B sz sh 2 yX12_states cX12_states 3 (some .int) [jR B a0] m0 (some (jI res)) m0 (jIn res) :=
  jc_of (by decide) (fun v h => by rw [List.mem_singleton.mp h]; first | rfl | exact jR_cat _ _) (Nat.le_of_ble_eq_true rfl) (fun C S L => t_X12_states_e C   S L hyp)
set_option maxHeartbeats 4000000 in
set_option maxRecDepth 100000 in
theorem t_X12_pair_b21 {p : Program} {l : Launch} {e : Env} {s : State} {mi : MethodId} {args : Array Value} {below : List Frame} {meth : Method} {c : Code} {D : va_G} {cy : Nat → ClassId} {B sz : Nat} {sh : jm_S} {res : Int} {m0 : jm_M} (C : jCx p s mi args meth c cX12_pair 3 RX12 (some .int) D cy) {s0 : Int} (h_s0 : jIn s0) {s1 : Int} (h_s1 : jIn s1) {H : Heap} {locs : List Loc} {ls : Array Slot} (S : jHs D cy B sz sh (jA B sz) s.heap H locs m0) (L : jL ls [none, none, none]) (hyp : f_X12_pair_b21 s0 s1 = some res) : W p l e (jrm 0 0 0) s mi args below meth c H locs 0 0 (MQ below (jQc D cy B sz sh m0 (some (jI res)) (jIn res)) args s 0 0 (jA B sz)) (F0 mi 21 ls [jI s1, jI s0]) := by
  unfold f_X12_pair_b21 at hyp
  refine jr_iadd (pc := 21) C dX12_pair_21 ?_
  cases hyp
  exact jr_iret C S (jIn_w _) dX12_pair_22
set_option maxHeartbeats 4000000 in
set_option maxRecDepth 100000 in
theorem t_X12_pair_e {p : Program} {l : Launch} {e : Env} {s : State} {mi : MethodId} {args : Array Value} {below : List Frame} {meth : Method} {c : Code} {D : va_G} {cy : Nat → ClassId} {B sz : Nat} {sh : jm_S} {res : Int} {m0 : jm_M} (C : jCx p s mi args meth c cX12_pair 3 RX12 (some .int) D cy) {x0 : Int} (h_x0 : jIn x0) {x1 : Int} (h_x1 : jIn x1) {x2 : Int} (h_x2 : jIn x2) {H : Heap} {locs : List Loc} {ls : Array Slot} (S : jHs D cy B sz sh (jA B sz) s.heap H locs m0) (L : jL ls [some (jI x0), some (jI x1), some (jI x2)]) (hyp : f_X12_pair x0 x1 x2 = some res) : W p l e (jrm 0 0 0) s mi args below meth c H locs 0 0 (MQ below (jQc D cy B sz sh m0 (some (jI res)) (jIn res)) args s 0 0 (jA B sz)) (F0 mi 0 ls []) := by
  unfold f_X12_pair at hyp
  refine jr_iconst (pc := 0) C dX12_pair_0 ?_
  refine jr_iload_n (pc := 1) C L dX12_pair_1 rfl rfl ?_
  refine jr_iadd (pc := 2) C dX12_pair_2 ?_
  refine jr_iload_n (pc := 3) C L dX12_pair_3 rfl rfl ?_
  refine jr_iload_n (pc := 4) C L dX12_pair_4 rfl rfl ?_
  refine jr_iconst (pc := 5) C dX12_pair_5 ?_
  refine jr_isub (pc := 6) C dX12_pair_6 ?_
  refine jr_imul (pc := 7) C dX12_pair_7 ?_
  refine jr_iadd (pc := 8) C dX12_pair_8 ?_
  refine jr_iload_n (pc := 9) C L dX12_pair_9 rfl rfl ?_
  refine jr_iload_n (pc := 10) C L dX12_pair_10 rfl rfl ?_
  refine jr_icmp_ge (pc := 11) C h_x2 h_x1 (tgt := 18) dX12_pair_11 (by decide) (fun c1 => ?_) (fun c1 => ?_)
  · have hyp := (if_pos c1).symm.trans hyp
    refine jr_iload_n (pc := 14) C L dX12_pair_14 rfl rfl ?_
    refine jr_goto (pc := 15) C (tgt := 21) dX12_pair_15 (by decide) ?_
    exact t_X12_pair_b21 C   (jIn_w _) h_x2 S (L.sub (jsub_n (jsub_n (jsub_n jsub_0)))) hyp
  · have hyp := (if_neg c1).symm.trans hyp
    refine jr_iload_n (pc := 18) C L dX12_pair_18 rfl rfl ?_
    refine jr_iconst (pc := 19) C dX12_pair_19 ?_
    refine jr_isub (pc := 20) C dX12_pair_20 ?_
    exact t_X12_pair_b21 C   (jIn_w _) (jIn_w _) S (L.sub (jsub_n (jsub_n (jsub_n jsub_0)))) hyp
theorem c_X12_pair {l : Launch} {D : va_G} {cy : Nat → ClassId} {B sz : Nat} {sh : jm_S} {res : Int} {m0 : jm_M} {x0 : Int} (h_x0 : jIn x0) {x1 : Int} (h_x1 : jIn x1) {x2 : Int} (h_x2 : jIn x2) (hyp : f_X12_pair x0 x1 x2 = some res) : jCt l D cy B sz sh 0 yX12_pair cX12_pair 3 (some .int) [jI x0, jI x1, jI x2] m0 (some (jI res)) m0 (jIn res) :=
  jc_of (by decide) (fun v h => by simp only [List.mem_cons, List.not_mem_nil, or_false] at h; rcases h with rfl | rfl | rfl <;> first | rfl | exact jR_cat _ _) (Nat.le_of_ble_eq_true rfl) (fun C S L => t_X12_pair_e C  h_x0 h_x1 h_x2 S L hyp)
set_option maxHeartbeats 4000000 in
set_option maxRecDepth 100000 in
theorem t_X12_newestOf_e {p : Program} {l : Launch} {e : Env} {s : State} {mi : MethodId} {args : Array Value} {below : List Frame} {meth : Method} {c : Code} {D : va_G} {cy : Nat → ClassId} {B sz : Nat} {sh : jm_S} {res : Int} {m0 : jm_M} (C : jCx p s mi args meth c cX12_newestOf 3 RX12 (some .int) D cy) {a0 : Nat} {x1 : Int} (h_x1 : jIn x1) {x2 : Int} (h_x2 : jIn x2) {H : Heap} {locs : List Loc} {ls : Array Slot} (S : jHs D cy B sz sh (jA B sz) s.heap H locs m0) (L : jL ls [some (jR B a0), some (jI x1), some (jI x2)]) (hyp : f_X12_newestOf a0 x1 x2 = some res) : W p l e (jrm 0 0 0) s mi args below meth c H locs 0 0 (MQ below (jQc D cy B sz sh m0 (some (jI res)) (jIn res)) args s 0 0 (jA B sz)) (F0 mi 0 ls []) := by
  unfold f_X12_newestOf at hyp
  refine jr_iload_n (pc := 0) C L dX12_newestOf_0 rfl rfl ?_
  refine jr_if_ne (pc := 1) C h_x2 (tgt := 9) dX12_newestOf_1 (by decide) (fun c1 => ?_) (fun c1 => ?_)
  · have hyp := (if_pos c1).symm.trans hyp
    refine jr_bipush (pc := 4) C dX12_newestOf_4 (by decide) ?_
    refine jr_goto (pc := 6) C (tgt := 29) dX12_newestOf_6 (by decide) ?_
    cases hyp
    exact jr_iret C S (show jIn (-6) from ⟨by decide, by decide⟩) dX12_newestOf_29
  · have hyp := (if_neg c1).symm.trans hyp
    refine jr_iload_n (pc := 9) C L dX12_newestOf_9 rfl rfl ?_
    refine jr_iload_n (pc := 10) C L dX12_newestOf_10 rfl rfl ?_
    refine jr_icmp_gt (pc := 11) C h_x2 h_x1 (tgt := 20) dX12_newestOf_11 (by decide) (fun c2 => ?_) (fun c2 => ?_)
    · have hyp := (if_pos c2).symm.trans hyp
      refine jr_iload_n (pc := 20) C L dX12_newestOf_20 rfl rfl ?_
      refine jr_iconst (pc := 21) C dX12_newestOf_21 ?_
      refine jr_isub (pc := 22) C dX12_newestOf_22 ?_
      refine jr_iload_n (pc := 23) C L dX12_newestOf_23 rfl rfl ?_
      refine jr_isub (pc := 24) C dX12_newestOf_24 ?_
      refine jr_iload_n (pc := 25) C L dX12_newestOf_25 rfl rfl ?_
      refine jr_iconst (pc := 26) C dX12_newestOf_26 ?_
      refine jr_isub (pc := 27) C dX12_newestOf_27 ?_
      by_cases c3 : jw (x1 - 1) = 0
      · exact absurd ((if_pos c3).symm.trans hyp) (by intro h; cases h)
      have hyp := (if_neg c3).symm.trans hyp
      refine jr_idiv (pc := 28) C (jIn_w _) (jIn_w _) c3 dX12_newestOf_28 ?_
      cases hyp
      exact jr_iret C S (jIn_div _ _) dX12_newestOf_29
    · have hyp := (if_neg c2).symm.trans hyp
      refine jr_iload_n (pc := 14) C L dX12_newestOf_14 rfl rfl ?_
      refine jr_iconst (pc := 15) C dX12_newestOf_15 ?_
      refine jr_isub (pc := 16) C dX12_newestOf_16 ?_
      refine jr_goto (pc := 17) C (tgt := 29) dX12_newestOf_17 (by decide) ?_
      cases hyp
      exact jr_iret C S (jIn_w _) dX12_newestOf_29
theorem c_X12_newestOf {l : Launch} {D : va_G} {cy : Nat → ClassId} {B sz : Nat} {sh : jm_S} {res : Int} {m0 : jm_M} {a0 : Nat} {x1 : Int} (h_x1 : jIn x1) {x2 : Int} (h_x2 : jIn x2) (hyp : f_X12_newestOf a0 x1 x2 = some res) : jCt l D cy B sz sh 0 yX12_newestOf cX12_newestOf 3 (some .int) [jR B a0, jI x1, jI x2] m0 (some (jI res)) m0 (jIn res) :=
  jc_of (by decide) (fun v h => by simp only [List.mem_cons, List.not_mem_nil, or_false] at h; rcases h with rfl | rfl | rfl <;> first | rfl | exact jR_cat _ _) (Nat.le_of_ble_eq_true rfl) (fun C S L => t_X12_newestOf_e C  h_x1 h_x2 S L hyp)
set_option maxHeartbeats 4000000 in
set_option maxRecDepth 100000 in
theorem t_X12_olderOf_e {p : Program} {l : Launch} {e : Env} {s : State} {mi : MethodId} {args : Array Value} {below : List Frame} {meth : Method} {c : Code} {D : va_G} {cy : Nat → ClassId} {B sz : Nat} {sh : jm_S} {res : Int} {m0 : jm_M} (C : jCx p s mi args meth c cX12_olderOf 4 RX12 (some .int) D cy) {a0 : Nat} {x1 : Int} (h_x1 : jIn x1) {x2 : Int} (h_x2 : jIn x2) {H : Heap} {locs : List Loc} {ls : Array Slot} (S : jHs D cy B sz sh (jA B sz) s.heap H locs m0) (L : jL ls [some (jR B a0), some (jI x1), some (jI x2), none]) (hyp : f_X12_olderOf sh a0 x1 x2 m0 = some res) : W p l e (jrm 1 0 0) s mi args below meth c H locs 0 0 (MQ below (jQc D cy B sz sh m0 (some (jI res)) (jIn res)) args s 0 0 (jA B sz)) (F0 mi 0 ls []) := by
  unfold f_X12_olderOf at hyp
  refine jr_iload_n (pc := 0) C L dX12_olderOf_0 rfl rfl ?_
  refine jr_iload_n (pc := 1) C L dX12_olderOf_1 rfl rfl ?_
  refine jr_icmp_gt (pc := 2) C h_x2 h_x1 (tgt := 8) dX12_olderOf_2 (by decide) (fun c1 => ?_) (fun c1 => ?_)
  · have hyp := (if_pos c1).symm.trans hyp
    refine jr_iload_n (pc := 8) C L dX12_olderOf_8 rfl rfl ?_
    refine jr_iconst (pc := 9) C dX12_olderOf_9 ?_
    refine jr_isub (pc := 10) C dX12_olderOf_10 ?_
    refine jr_iload_n (pc := 11) C L dX12_olderOf_11 rfl rfl ?_
    refine jr_isub (pc := 12) C dX12_olderOf_12 ?_
    refine jr_iload_n (pc := 13) C L dX12_olderOf_13 rfl rfl ?_
    refine jr_iconst (pc := 14) C dX12_olderOf_14 ?_
    refine jr_isub (pc := 15) C dX12_olderOf_15 ?_
    by_cases c2 : jw (x1 - 1) = 0
    · exact absurd ((if_pos c2).symm.trans hyp) (by intro h; cases h)
    have hyp := (if_neg c2).symm.trans hyp
    refine jr_irem (pc := 16) C (jIn_w _) (jIn_w _) c2 dX12_olderOf_16 ?_
    refine jr_istore_n (pc := 17) C L dX12_olderOf_17 rfl (Nat.le_of_ble_eq_true rfl) (fun ls L => ?_)
    have L : jL ls [some (jR B a0), some (jI x1), some (jI x2), some (jI (jrem (jw ((jw (x2 - 1)) - x1)) (jw (x1 - 1))))] := L
    refine jr_iload_n (pc := 18) C L dX12_olderOf_18 rfl rfl ?_
    refine jr_aload_n (pc := 19) C L dX12_olderOf_19 rfl rfl ?_
    refine jr_iload_n (pc := 20) C L dX12_olderOf_20 rfl rfl ?_
    refine jr_iload_n (pc := 21) C L dX12_olderOf_21 rfl rfl ?_
    obtain ⟨u3, hu3, hyp⟩ := jbind hyp
    obtain ⟨q4, hq4, hyp⟩ := jbind hyp
    refine jr_callV_I (pc := 22) C S L (As := [jI x1, jI x2]) (rest := [jI (jrem (jw ((jw (x2 - 1)) - x1)) (jw (x1 - 1)))]) (c_X12_newestOf (m0 := m0) h_x1 h_x2 hq4) mv_X12_newestOf ml_X12_120 rfl (jck_spec hu3) (by decide) rfl rfl rfl (Nat.le_of_ble_eq_true rfl) ⟨Nat.le_refl 0, Nat.le_refl 0⟩ dX12_olderOf_22 (fun p5 H locs S => ?_)
    refine jr_icmp_ge (pc := 25) C (jIn_rem _ (jIn_w _)) p5 (tgt := 32) dX12_olderOf_25 (by decide) (fun c6 => ?_) (fun c6 => ?_)
    · have hyp := (if_pos c6).symm.trans hyp
      refine jr_iload_n (pc := 28) C L dX12_olderOf_28 rfl rfl ?_
      refine jr_goto (pc := 29) C (tgt := 35) dX12_olderOf_29 (by decide) ?_
      cases hyp
      exact jr_iret C S (jIn_rem _ (jIn_w _)) dX12_olderOf_35
    · have hyp := (if_neg c6).symm.trans hyp
      refine jr_iload_n (pc := 32) C L dX12_olderOf_32 rfl rfl ?_
      refine jr_iconst (pc := 33) C dX12_olderOf_33 ?_
      refine jr_iadd (pc := 34) C dX12_olderOf_34 ?_
      cases hyp
      exact jr_iret C S (jIn_w _) dX12_olderOf_35
  · have hyp := (if_neg c1).symm.trans hyp
    refine jr_bipush (pc := 5) C dX12_olderOf_5 (by decide) ?_
    cases hyp
    exact jr_iret C S (show jIn (-6) from ⟨by decide, by decide⟩) dX12_olderOf_7
theorem c_X12_olderOf {l : Launch} {D : va_G} {cy : Nat → ClassId} {B sz : Nat} {sh : jm_S} {res : Int} {m0 : jm_M} {a0 : Nat} {x1 : Int} (h_x1 : jIn x1) {x2 : Int} (h_x2 : jIn x2) (hyp : f_X12_olderOf sh a0 x1 x2 m0 = some res) : jCt l D cy B sz sh 1 yX12_olderOf cX12_olderOf 4 (some .int) [jR B a0, jI x1, jI x2] m0 (some (jI res)) m0 (jIn res) :=
  jc_of (by decide) (fun v h => by simp only [List.mem_cons, List.not_mem_nil, or_false] at h; rcases h with rfl | rfl | rfl <;> first | rfl | exact jR_cat _ _) (Nat.le_of_ble_eq_true rfl) (fun C S L => t_X12_olderOf_e C  h_x1 h_x2 S L hyp)
set_option maxHeartbeats 4000000 in
set_option maxRecDepth 100000 in
theorem t_X12_fetch_b182 {p : Program} {l : Launch} {e : Env} {s : State} {mi : MethodId} {args : Array Value} {below : List Frame} {meth : Method} {c : Code} {D : va_G} {cy : Nat → ClassId} {B sz : Nat} {sh : jm_S} {res : (Int × jm_M)} {N : Nat} (C : jCx p s mi args meth c cX12_fetch 12 RX12 (some .int) D cy) {x1 : Int} (h_x1 : jIn x1) {x5 : Int} (h_x5 : jIn x5) {x6 : Int} (h_x6 : jIn x6) {x11 : Int} (h_x11 : jIn x11) {m : jm_M} {H : Heap} {locs : List Loc} {ls : Array Slot} (S : jHs D cy B sz sh (jA B sz) s.heap H locs m) (L : jL ls [none, some (jI x1), none, none, none, some (jI x5), some (jI x6), none, none, none, none, some (jI x11)]) (hyp : f_X12_fetch_b182 N sh x1 x5 x6 x11 m = some res) : W p l e (jrm 2 0 0) s mi args below meth c H locs 0 0 (MQ below (jQc D cy B sz sh res.2 (some (jI res.1)) (jIn res.1)) args s 0 0 (jA B sz)) (F0 mi 182 ls []) := by
  unfold f_X12_fetch_b182 at hyp
  refine jr_iload_n (pc := 182) C L dX12_fetch_182 rfl rfl ?_
  refine jr_iload (pc := 183) C L dX12_fetch_183 rfl ?_
  refine jr_iload (pc := 185) C L dX12_fetch_185 rfl ?_
  refine jr_isub (pc := 187) C dX12_fetch_187 ?_
  refine jr_iload (pc := 188) C L dX12_fetch_188 rfl ?_
  refine jr_imul (pc := 190) C dX12_fetch_190 ?_
  refine jr_iadd (pc := 191) C dX12_fetch_191 ?_
  cases hyp
  exact jr_iret C S (jIn_w _) dX12_fetch_192
set_option maxHeartbeats 4000000 in
set_option maxRecDepth 100000 in
theorem t_X12_fetch_b150 {p : Program} {l : Launch} {e : Env} {s : State} {mi : MethodId} {args : Array Value} {below : List Frame} {meth : Method} {c : Code} {D : va_G} {cy : Nat → ClassId} {B sz : Nat} {sh : jm_S} {res : (Int × jm_M)} {N : Nat} (C : jCx p s mi args meth c cX12_fetch 12 RX12 (some .int) D cy) {x1 : Int} (h_x1 : jIn x1) {x5 : Int} (h_x5 : jIn x5) {x6 : Int} (h_x6 : jIn x6) {x8 : Int} (h_x8 : jIn x8) {m : jm_M} {H : Heap} {locs : List Loc} {ls : Array Slot} (S : jHs D cy B sz sh (jA B sz) s.heap H locs m) (L : jL ls [none, some (jI x1), none, none, none, some (jI x5), some (jI x6), none, some (jI x8), none, none, none]) (hyp : f_X12_fetch_b150 N sh x1 x5 x6 x8 m = some res) : W p l e (jrm 2 0 0) s mi args below meth c H locs 0 0 (MQ below (jQc D cy B sz sh res.2 (some (jI res.1)) (jIn res.1)) args s 0 0 (jA B sz)) (F0 mi 150 ls []) := by
  unfold f_X12_fetch_b150 at hyp
  refine jr_iconst (pc := 150) C dX12_fetch_150 ?_
  refine jr_iload (pc := 151) C L dX12_fetch_151 rfl ?_
  refine jr_iadd (pc := 153) C dX12_fetch_153 ?_
  refine jr_istore (pc := 154) C L dX12_fetch_154 (Nat.le_of_ble_eq_true rfl) (fun ls L => ?_)
  have L : jL ls [none, some (jI x1), none, none, none, some (jI x5), some (jI x6), none, some (jI x8), none, none, some (jI (jw (1 + x8)))] := L
  refine jr_goto (pc := 156) C (tgt := 182) dX12_fetch_156 (by decide) ?_
  exact t_X12_fetch_b182 C   h_x1 h_x5 h_x6 (jIn_w _) S (L.sub (jsub_n (jsub_s (jsub_n (jsub_n (jsub_n (jsub_s (jsub_s (jsub_n (jsub_n (jsub_n (jsub_n (jsub_s jsub_0))))))))))))) hyp
set_option maxHeartbeats 4000000 in
set_option maxRecDepth 100000 in
theorem t_X12_fetch_b159 {p : Program} {l : Launch} {e : Env} {s : State} {mi : MethodId} {args : Array Value} {below : List Frame} {meth : Method} {c : Code} {D : va_G} {cy : Nat → ClassId} {B sz : Nat} {sh : jm_S} {res : (Int × jm_M)} {N : Nat} (C : jCx p s mi args meth c cX12_fetch 12 RX12 (some .int) D cy) {x1 : Int} (h_x1 : jIn x1) {x3 : Int} (h_x3 : jIn x3) {x5 : Int} (h_x5 : jIn x5) {x6 : Int} (h_x6 : jIn x6) {x7 : Int} (h_x7 : jIn x7) {x8 : Int} (h_x8 : jIn x8) {x9 : Int} (h_x9 : jIn x9) {x11 : Int} (h_x11 : jIn x11) {m : jm_M} {H : Heap} {locs : List Loc} {ls : Array Slot} (S : jHs D cy B sz sh (jA B sz) s.heap H locs m) (L : jL ls [none, some (jI x1), none, some (jI x3), none, some (jI x5), some (jI x6), some (jI x7), some (jI x8), some (jI x9), none, some (jI x11)]) (hyp : f_X12_fetch_b159 N sh x1 x3 x5 x6 x7 x8 x9 x11 m = some res) : W p l e (jrm 2 0 0) s mi args below meth c H locs 0 0 (MQ below (jQc D cy B sz sh res.2 (some (jI res.1)) (jIn res.1)) args s 0 0 (jA B sz)) (F0 mi 159 ls []) := by
  unfold f_X12_fetch_b159 at hyp
  refine jr_iload (pc := 159) C L dX12_fetch_159 rfl ?_
  refine jr_iconst (pc := 161) C dX12_fetch_161 ?_
  refine jr_icmp_ne (pc := 162) C h_x7 (show jIn 2 from ⟨by decide, by decide⟩) (tgt := 182) dX12_fetch_162 (by decide) (fun c1 => ?_) (fun c1 => ?_)
  · have hyp := (if_pos c1).symm.trans hyp
    refine jr_iload (pc := 165) C L dX12_fetch_165 rfl ?_
    refine jr_iload (pc := 167) C L dX12_fetch_167 rfl ?_
    refine jr_icmp_eq (pc := 169) C h_x9 h_x8 (tgt := 182) dX12_fetch_169 (by decide) (fun c2 => ?_) (fun c2 => ?_)
    · have hyp := (if_pos c2).symm.trans hyp
      exact t_X12_fetch_b182 C   h_x1 h_x5 h_x6 h_x11 S (L.sub (jsub_n (jsub_s (jsub_n (jsub_n (jsub_n (jsub_s (jsub_s (jsub_n (jsub_n (jsub_n (jsub_n (jsub_s jsub_0))))))))))))) hyp
    · have hyp := (if_neg c2).symm.trans hyp
      refine jr_iload_n (pc := 172) C L dX12_fetch_172 rfl rfl ?_
      refine jr_iload (pc := 173) C L dX12_fetch_173 rfl ?_
      refine jr_iload (pc := 175) C L dX12_fetch_175 rfl ?_
      obtain ⟨q3, hq3, hyp⟩ := jbind hyp
      refine jr_callS_I (pc := 177) C S L (As := [jI x3, jI x8, jI x9]) (rest := []) (c_X12_pair (m0 := m) h_x3 h_x8 h_x9 hq3) ms_X12_pair ml_X12_140 (by decide) rfl rfl rfl (Nat.le_of_ble_eq_true rfl) ⟨Nat.le_refl 0, Nat.le_refl 0⟩ dX12_fetch_177 (fun p4 H locs S => ?_)
      refine jr_istore (pc := 180) C L dX12_fetch_180 (Nat.le_of_ble_eq_true rfl) (fun ls L => ?_)
      have L : jL ls [none, some (jI x1), none, some (jI x3), none, some (jI x5), some (jI x6), some (jI x7), some (jI x8), some (jI x9), none, some (jI q3)] := L
      exact t_X12_fetch_b182 C   h_x1 h_x5 h_x6 p4 S (L.sub (jsub_n (jsub_s (jsub_n (jsub_n (jsub_n (jsub_s (jsub_s (jsub_n (jsub_n (jsub_n (jsub_n (jsub_s jsub_0))))))))))))) hyp
  · have hyp := (if_neg c1).symm.trans hyp
    exact t_X12_fetch_b182 C   h_x1 h_x5 h_x6 h_x11 S (L.sub (jsub_n (jsub_s (jsub_n (jsub_n (jsub_n (jsub_s (jsub_s (jsub_n (jsub_n (jsub_n (jsub_n (jsub_s jsub_0))))))))))))) hyp
set_option maxHeartbeats 4000000 in
set_option maxRecDepth 100000 in
theorem t_X12_fetch_b126 {p : Program} {l : Launch} {e : Env} {s : State} {mi : MethodId} {args : Array Value} {below : List Frame} {meth : Method} {c : Code} {D : va_G} {cy : Nat → ClassId} {B sz : Nat} {sh : jm_S} {res : (Int × jm_M)} {N : Nat} (C : jCx p s mi args meth c cX12_fetch 12 RX12 (some .int) D cy) {x1 : Int} (h_x1 : jIn x1) {x3 : Int} (h_x3 : jIn x3) {x5 : Int} (h_x5 : jIn x5) {x6 : Int} (h_x6 : jIn x6) {x7 : Int} (h_x7 : jIn x7) {x8 : Int} (h_x8 : jIn x8) {x9 : Int} (h_x9 : jIn x9) {r0 : Nat} {s1 : Int} (h_s1 : jIn s1) {m : jm_M} {H : Heap} {locs : List Loc} {ls : Array Slot} (S : jHs D cy B sz sh (jA B sz) s.heap H locs m) (L : jL ls [none, some (jI x1), none, some (jI x3), none, some (jI x5), some (jI x6), some (jI x7), some (jI x8), some (jI x9), none, none]) (hyp : f_X12_fetch_b126 N sh x1 x3 x5 x6 x7 x8 x9 r0 s1 m = some res) : W p l e (jrm 2 0 0) s mi args below meth c H locs 0 0 (MQ below (jQc D cy B sz sh res.2 (some (jI res.1)) (jIn res.1)) args s 0 0 (jA B sz)) (F0 mi 126 ls [jI s1, jR B r0]) := by
  unfold f_X12_fetch_b126 at hyp
  obtain ⟨z6, hz6, hyp⟩ := jbind hyp
  obtain ⟨m5, hm5, hyp⟩ := jbind hyp
  refine jr_putZ (pc := 126) C S lf_X12_127 fp_X12_10 rfl hz6 hm5 dX12_fetch_126 (fun H locs S => ?_)
  refine jr_iload (pc := 129) C L dX12_fetch_129 rfl ?_
  refine jr_istore (pc := 131) C L dX12_fetch_131 (Nat.le_of_ble_eq_true rfl) (fun ls L => ?_)
  have L : jL ls [none, some (jI x1), none, some (jI x3), none, some (jI x5), some (jI x6), some (jI x7), some (jI x8), some (jI x9), none, some (jI x6)] := L
  refine jr_iload (pc := 133) C L dX12_fetch_133 rfl ?_
  refine jr_iconst (pc := 135) C dX12_fetch_135 ?_
  refine jr_icmp_eq (pc := 136) C h_x7 (show jIn 1 from ⟨by decide, by decide⟩) (tgt := 150) dX12_fetch_136 (by decide) (fun c7 => ?_) (fun c7 => ?_)
  · have hyp := (if_pos c7).symm.trans hyp
    exact t_X12_fetch_b150 C   h_x1 h_x5 h_x6 h_x8 S (L.sub (jsub_n (jsub_s (jsub_n (jsub_n (jsub_n (jsub_s (jsub_s (jsub_n (jsub_s (jsub_n (jsub_n (jsub_n jsub_0))))))))))))) hyp
  · have hyp := (if_neg c7).symm.trans hyp
    refine jr_iload (pc := 139) C L dX12_fetch_139 rfl ?_
    refine jr_iconst (pc := 141) C dX12_fetch_141 ?_
    refine jr_icmp_ne (pc := 142) C h_x7 (show jIn 2 from ⟨by decide, by decide⟩) (tgt := 159) dX12_fetch_142 (by decide) (fun c8 => ?_) (fun c8 => ?_)
    · have hyp := (if_pos c8).symm.trans hyp
      refine jr_iload (pc := 145) C L dX12_fetch_145 rfl ?_
      refine jr_if_ge (pc := 147) C h_x9 (tgt := 159) dX12_fetch_147 (by decide) (fun c9 => ?_) (fun c9 => ?_)
      · have hyp := (if_pos c9).symm.trans hyp
        exact t_X12_fetch_b150 C   h_x1 h_x5 h_x6 h_x8 S (L.sub (jsub_n (jsub_s (jsub_n (jsub_n (jsub_n (jsub_s (jsub_s (jsub_n (jsub_s (jsub_n (jsub_n (jsub_n jsub_0))))))))))))) hyp
      · have hyp := (if_neg c9).symm.trans hyp
        exact t_X12_fetch_b159 C   h_x1 h_x3 h_x5 h_x6 h_x7 h_x8 h_x9 h_x6 S (L.sub (jsub_n (jsub_s (jsub_n (jsub_s (jsub_n (jsub_s (jsub_s (jsub_s (jsub_s (jsub_s (jsub_n (jsub_s jsub_0))))))))))))) hyp
    · have hyp := (if_neg c8).symm.trans hyp
      exact t_X12_fetch_b159 C   h_x1 h_x3 h_x5 h_x6 h_x7 h_x8 h_x9 h_x6 S (L.sub (jsub_n (jsub_s (jsub_n (jsub_s (jsub_n (jsub_s (jsub_s (jsub_s (jsub_s (jsub_s (jsub_n (jsub_s jsub_0))))))))))))) hyp
set_option maxHeartbeats 4000000 in
set_option maxRecDepth 100000 in
theorem t_X12_fetch_b121 {p : Program} {l : Launch} {e : Env} {s : State} {mi : MethodId} {args : Array Value} {below : List Frame} {meth : Method} {c : Code} {D : va_G} {cy : Nat → ClassId} {B sz : Nat} {sh : jm_S} {res : (Int × jm_M)} {N : Nat} (C : jCx p s mi args meth c cX12_fetch 12 RX12 (some .int) D cy) {x1 : Int} (h_x1 : jIn x1) {x3 : Int} (h_x3 : jIn x3) {x5 : Int} (h_x5 : jIn x5) {x6 : Int} (h_x6 : jIn x6) {x7 : Int} (h_x7 : jIn x7) {x8 : Int} (h_x8 : jIn x8) {x9 : Int} (h_x9 : jIn x9) {r0 : Nat} {m : jm_M} {H : Heap} {locs : List Loc} {ls : Array Slot} (S : jHs D cy B sz sh (jA B sz) s.heap H locs m) (L : jL ls [none, some (jI x1), none, some (jI x3), none, some (jI x5), some (jI x6), some (jI x7), some (jI x8), some (jI x9), none, none]) (hyp : f_X12_fetch_b121 N sh x1 x3 x5 x6 x7 x8 x9 r0 m = some res) : W p l e (jrm 2 0 0) s mi args below meth c H locs 0 0 (MQ below (jQc D cy B sz sh res.2 (some (jI res.1)) (jIn res.1)) args s 0 0 (jA B sz)) (F0 mi 121 ls [jR B r0]) := by
  unfold f_X12_fetch_b121 at hyp
  refine jr_iconst (pc := 121) C dX12_fetch_121 ?_
  refine jr_goto (pc := 122) C (tgt := 126) dX12_fetch_122 (by decide) ?_
  exact t_X12_fetch_b126 C   h_x1 h_x3 h_x5 h_x6 h_x7 h_x8 h_x9 (show jIn 1 from ⟨by decide, by decide⟩) S (L.sub (jsub_n (jsub_s (jsub_n (jsub_s (jsub_n (jsub_s (jsub_s (jsub_s (jsub_s (jsub_s (jsub_n (jsub_n jsub_0))))))))))))) hyp
set_option maxHeartbeats 4000000 in
set_option maxRecDepth 100000 in
theorem t_X12_fetch_b35 {p : Program} {l : Launch} {e : Env} {s : State} {mi : MethodId} {args : Array Value} {below : List Frame} {meth : Method} {c : Code} {D : va_G} {cy : Nat → ClassId} {B sz : Nat} {sh : jm_S} {res : (Int × jm_M)} {N : Nat} {k35 : Nat → Int → Int → Int → Int → Int → Int → jm_M → Option (Int × jm_M)} (C : jCx p s mi args meth c cX12_fetch 12 RX12 (some .int) D cy) (K35 : ∀ (a0 : Nat) (x1 : Int) (x2 : Int) (x3 : Int) (x4 : Int) (x5 : Int) (x6 : Int) , jIn x1 → jIn x2 → jIn x3 → jIn x4 → jIn x5 → jIn x6 → ∀ (m : jm_M) (H : Heap) (locs : List Loc) (ls : Array Slot), jHs D cy B sz sh (jA B sz) s.heap H locs m → jL ls [some (jR B a0), some (jI x1), some (jI x2), some (jI x3), some (jI x4), some (jI x5), some (jI x6), none, none, none, none, none] → k35 a0 x1 x2 x3 x4 x5 x6 m = some res → W p l e (jrm 2 0 0) s mi args below meth c H locs 0 0 (MQ below (jQc D cy B sz sh res.2 (some (jI res.1)) (jIn res.1)) args s 0 0 (jA B sz)) (F0 mi 35 ls [])) {a0 : Nat} {x1 : Int} (h_x1 : jIn x1) {x2 : Int} (h_x2 : jIn x2) {x3 : Int} (h_x3 : jIn x3) {x4 : Int} (h_x4 : jIn x4) {x5 : Int} (h_x5 : jIn x5) {x6 : Int} (h_x6 : jIn x6) {m : jm_M} {H : Heap} {locs : List Loc} {ls : Array Slot} (S : jHs D cy B sz sh (jA B sz) s.heap H locs m) (L : jL ls [some (jR B a0), some (jI x1), some (jI x2), some (jI x3), some (jI x4), some (jI x5), some (jI x6), none, none, none, none, none]) (hyp : f_X12_fetch_b35 N sh k35 a0 x1 x2 x3 x4 x5 x6 m = some res) : W p l e (jrm 2 0 0) s mi args below meth c H locs 0 0 (MQ below (jQc D cy B sz sh res.2 (some (jI res.1)) (jIn res.1)) args s 0 0 (jA B sz)) (F0 mi 35 ls []) := by
  unfold f_X12_fetch_b35 at hyp
  refine jr_iload (pc := 35) C L dX12_fetch_35 rfl ?_
  refine jr_aload_n (pc := 37) C L dX12_fetch_37 rfl rfl ?_
  refine jr_iload_n (pc := 38) C L dX12_fetch_38 rfl rfl ?_
  obtain ⟨u10, hu10, hyp⟩ := jbind hyp
  obtain ⟨q11, hq11, hyp⟩ := jbind hyp
  refine jr_callV_I (pc := 39) C S L (As := [jI x2]) (rest := [jI x6]) (c_X12_setOf (m0 := m) h_x2 hq11) mv_X12_setOf ml_X12_131 rfl (jck_spec hu10) (by decide) rfl rfl rfl (Nat.le_of_ble_eq_true rfl) ⟨Nat.le_refl 0, Nat.le_refl 0⟩ dX12_fetch_39 (fun p12 H locs S => ?_)
  refine jr_icmp_ge (pc := 42) C h_x6 p12 (tgt := 58) dX12_fetch_42 (by decide) (fun c13 => ?_) (fun c13 => ?_)
  · have hyp := (if_pos c13).symm.trans hyp
    refine jr_iload (pc := 45) C L dX12_fetch_45 rfl ?_
    refine jr_iload (pc := 47) C L dX12_fetch_47 rfl ?_
    refine jr_imul (pc := 49) C dX12_fetch_49 ?_
    refine jr_istore (pc := 50) C L dX12_fetch_50 (Nat.le_of_ble_eq_true rfl) (fun ls L => ?_)
    have L : jL ls [some (jR B a0), some (jI x1), some (jI x2), some (jI x3), some (jI x4), some (jI (jw (x5 * x4))), some (jI x6), none, none, none, none, none] := L
    refine jr_iinc (pc := 52) C L dX12_fetch_52 rfl (Nat.le_of_ble_eq_true rfl) (fun ls L => ?_)
    have L : jL ls [some (jR B a0), some (jI x1), some (jI x2), some (jI x3), some (jI x4), some (jI (jw (x5 * x4))), some (jI (jw (x6 + 1))), none, none, none, none, none] := L
    refine jr_goto (pc := 55) C (tgt := 35) dX12_fetch_55 (by decide) ?_
    exact K35 a0 x1 x2 x3 x4 (jw (x5 * x4)) (jw (x6 + 1)) h_x1 h_x2 h_x3 h_x4 (jIn_w _) (jIn_w _) m _ _ _ S (L.sub (jsub_s (jsub_s (jsub_s (jsub_s (jsub_s (jsub_s (jsub_s (jsub_n (jsub_n (jsub_n (jsub_n (jsub_n jsub_0))))))))))))) hyp
  · have hyp := (if_neg c13).symm.trans hyp
    refine jr_iload_n (pc := 58) C L dX12_fetch_58 rfl rfl ?_
    refine jr_iload (pc := 59) C L dX12_fetch_59 rfl ?_
    by_cases c14 : x5 = 0
    · exact absurd ((if_pos c14).symm.trans hyp) (by intro h; cases h)
    have hyp := (if_neg c14).symm.trans hyp
    refine jr_idiv (pc := 61) C h_x1 h_x5 c14 dX12_fetch_61 ?_
    refine jr_iload (pc := 62) C L dX12_fetch_62 rfl ?_
    by_cases c15 : x4 = 0
    · exact absurd ((if_pos c15).symm.trans hyp) (by intro h; cases h)
    have hyp := (if_neg c15).symm.trans hyp
    refine jr_irem (pc := 64) C (jIn_div _ _) h_x4 c15 dX12_fetch_64 ?_
    refine jr_istore (pc := 65) C L dX12_fetch_65 (Nat.le_of_ble_eq_true rfl) (fun ls L => ?_)
    have L : jL ls [some (jR B a0), some (jI x1), some (jI x2), some (jI x3), some (jI x4), some (jI x5), some (jI (jrem (jdiv x1 x5) x4)), none, none, none, none, none] := L
    refine jr_aload_n (pc := 67) C L dX12_fetch_67 rfl rfl ?_
    refine jr_aload_n (pc := 68) C L dX12_fetch_68 rfl rfl ?_
    refine jr_iload_n (pc := 69) C L dX12_fetch_69 rfl rfl ?_
    obtain ⟨u16, hu16, hyp⟩ := jbind hyp
    obtain ⟨q17, hq17, hyp⟩ := jbind hyp
    refine jr_callV_I (pc := 70) C S L (As := [jI x2]) (rest := [jR B a0]) (c_X12_setOf (m0 := m) h_x2 hq17) mv_X12_setOf ml_X12_131 rfl (jck_spec hu16) (by decide) rfl rfl rfl (by simp [jR_cat, jI_cat]) ⟨Nat.le_refl 0, Nat.le_refl 0⟩ dX12_fetch_70 (fun p18 H locs S => ?_)
    obtain ⟨u19, hu19, hyp⟩ := jbind hyp
    obtain ⟨q20, hq20, hyp⟩ := jbind hyp
    refine jr_callV_I (pc := 73) C S L (As := [jI q17]) (rest := []) (c_X12_roomOf (m0 := m) p18 hq20) mv_X12_roomOf ml_X12_134 rfl (jck_spec hu19) (by decide) rfl rfl rfl (Nat.le_of_ble_eq_true rfl) ⟨Nat.le_refl 0, Nat.le_refl 0⟩ dX12_fetch_73 (fun p21 H locs S => ?_)
    refine jr_istore (pc := 76) C L dX12_fetch_76 (Nat.le_of_ble_eq_true rfl) (fun ls L => ?_)
    have L : jL ls [some (jR B a0), some (jI x1), some (jI x2), some (jI x3), some (jI x4), some (jI x5), some (jI (jrem (jdiv x1 x5) x4)), some (jI q20), none, none, none, none] := L
    refine jr_iload_n (pc := 78) C L dX12_fetch_78 rfl rfl ?_
    refine jr_aload_n (pc := 79) C L dX12_fetch_79 rfl rfl ?_
    obtain ⟨v22, hv22, hyp⟩ := jbind hyp
    refine jr_getR (pc := 80) C S lf_X12_7 rfl hv22 dX12_fetch_80 ?_
    refine jr_iconst (pc := 83) C dX12_fetch_83 ?_
    obtain ⟨v23, hv23, hyp⟩ := jbind hyp
    have iv23 := jra_in S hv23
    refine jr_ial (pc := 84) C S (show jIn 0 from ⟨by decide, by decide⟩) hv23 dX12_fetch_84 ?_
    by_cases c24 : v23 = 0
    · exact absurd ((if_pos c24).symm.trans hyp) (by intro h; cases h)
    have hyp := (if_neg c24).symm.trans hyp
    refine jr_idiv (pc := 85) C h_x2 iv23 c24 dX12_fetch_85 ?_
    refine jr_istore (pc := 86) C L dX12_fetch_86 (Nat.le_of_ble_eq_true rfl) (fun ls L => ?_)
    have L : jL ls [some (jR B a0), some (jI x1), some (jI x2), some (jI x3), some (jI x4), some (jI x5), some (jI (jrem (jdiv x1 x5) x4)), some (jI q20), some (jI (jdiv x2 v23)), none, none, none] := L
    refine jr_aload_n (pc := 88) C L dX12_fetch_88 rfl rfl ?_
    refine jr_iload_n (pc := 89) C L dX12_fetch_89 rfl rfl ?_
    refine jr_iload (pc := 90) C L dX12_fetch_90 rfl ?_
    obtain ⟨u25, hu25, hyp⟩ := jbind hyp
    obtain ⟨q26, hq26, hyp⟩ := jbind hyp
    refine jr_callV_I (pc := 92) C S L (As := [jI x3, jI (jrem (jdiv x1 x5) x4)]) (rest := []) (c_X12_newestOf (m0 := m) h_x3 (jIn_rem _ (jIn_div _ _)) hq26) mv_X12_newestOf ml_X12_120 rfl (jck_spec hu25) (by decide) rfl rfl rfl (Nat.le_of_ble_eq_true rfl) ⟨Nat.le_refl 0, Nat.le_refl 0⟩ dX12_fetch_92 (fun p27 H locs S => ?_)
    refine jr_istore (pc := 95) C L dX12_fetch_95 (Nat.le_of_ble_eq_true rfl) (fun ls L => ?_)
    have L : jL ls [some (jR B a0), some (jI x1), some (jI x2), some (jI x3), some (jI x4), some (jI x5), some (jI (jrem (jdiv x1 x5) x4)), some (jI q20), some (jI (jdiv x2 v23)), some (jI q26), none, none] := L
    refine jr_aload_n (pc := 97) C L dX12_fetch_97 rfl rfl ?_
    refine jr_iload_n (pc := 98) C L dX12_fetch_98 rfl rfl ?_
    refine jr_iload (pc := 99) C L dX12_fetch_99 rfl ?_
    obtain ⟨u28, hu28, hyp⟩ := jbind hyp
    obtain ⟨q29, hq29, hyp⟩ := jbind hyp
    refine jr_callV_I (pc := 101) C S L (As := [jI x3, jI (jrem (jdiv x1 x5) x4)]) (rest := []) (c_X12_olderOf (m0 := m) h_x3 (jIn_rem _ (jIn_div _ _)) hq29) mv_X12_olderOf ml_X12_137 rfl (jck_spec hu28) (by decide) rfl rfl rfl (Nat.le_of_ble_eq_true rfl) ⟨Nat.le_refl 0, Nat.le_refl 0⟩ dX12_fetch_101 (fun p30 H locs S => ?_)
    refine jr_istore (pc := 104) C L dX12_fetch_104 (Nat.le_of_ble_eq_true rfl) (fun ls L => ?_)
    have L : jL ls [some (jR B a0), some (jI x1), some (jI x2), some (jI x3), some (jI x4), some (jI x5), some (jI (jrem (jdiv x1 x5) x4)), some (jI q20), some (jI (jdiv x2 v23)), some (jI q26), some (jI q29), none] := L
    refine jr_aload_n (pc := 106) C L dX12_fetch_106 rfl rfl ?_
    refine jr_iload (pc := 107) C L dX12_fetch_107 rfl ?_
    refine jr_iload (pc := 109) C L dX12_fetch_109 rfl ?_
    refine jr_icmp_eq (pc := 111) C p27 (jIn_div _ _) (tgt := 121) dX12_fetch_111 (by decide) (fun c31 => ?_) (fun c31 => ?_)
    · have hyp := (if_pos c31).symm.trans hyp
      exact t_X12_fetch_b121 C   h_x1 h_x3 h_x5 (jIn_rem _ (jIn_div _ _)) p21 (jIn_div _ _) p27 S (L.sub (jsub_n (jsub_s (jsub_n (jsub_s (jsub_n (jsub_s (jsub_s (jsub_s (jsub_s (jsub_s (jsub_n (jsub_n jsub_0))))))))))))) hyp
    · have hyp := (if_neg c31).symm.trans hyp
      refine jr_iload (pc := 114) C L dX12_fetch_114 rfl ?_
      refine jr_iload (pc := 116) C L dX12_fetch_116 rfl ?_
      refine jr_icmp_ne (pc := 118) C p30 (jIn_div _ _) (tgt := 125) dX12_fetch_118 (by decide) (fun c32 => ?_) (fun c32 => ?_)
      · have hyp := (if_pos c32).symm.trans hyp
        exact t_X12_fetch_b121 C   h_x1 h_x3 h_x5 (jIn_rem _ (jIn_div _ _)) p21 (jIn_div _ _) p27 S (L.sub (jsub_n (jsub_s (jsub_n (jsub_s (jsub_n (jsub_s (jsub_s (jsub_s (jsub_s (jsub_s (jsub_n (jsub_n jsub_0))))))))))))) hyp
      · have hyp := (if_neg c32).symm.trans hyp
        refine jr_iconst (pc := 125) C dX12_fetch_125 ?_
        exact t_X12_fetch_b126 C   h_x1 h_x3 h_x5 (jIn_rem _ (jIn_div _ _)) p21 (jIn_div _ _) p27 (show jIn 0 from ⟨by decide, by decide⟩) S (L.sub (jsub_n (jsub_s (jsub_n (jsub_s (jsub_n (jsub_s (jsub_s (jsub_s (jsub_s (jsub_s (jsub_n (jsub_n jsub_0))))))))))))) hyp
theorem t_X12_fetch_l35 {p : Program} {l : Launch} {e : Env} {s : State} {mi : MethodId} {args : Array Value} {below : List Frame} {meth : Method} {c : Code} {D : va_G} {cy : Nat → ClassId} {B sz : Nat} {sh : jm_S} {res : (Int × jm_M)} {N : Nat} (C : jCx p s mi args meth c cX12_fetch 12 RX12 (some .int) D cy) : ∀ (n : Nat) (a0 : Nat) (x1 : Int) (x2 : Int) (x3 : Int) (x4 : Int) (x5 : Int) (x6 : Int), jIn x1 → jIn x2 → jIn x3 → jIn x4 → jIn x5 → jIn x6 → ∀ (m : jm_M) (H : Heap) (locs : List Loc) (ls : Array Slot), jHs D cy B sz sh (jA B sz) s.heap H locs m → jL ls [some (jR B a0), some (jI x1), some (jI x2), some (jI x3), some (jI x4), some (jI x5), some (jI x6), none, none, none, none, none] → f_X12_fetch_l35 N sh n a0 x1 x2 x3 x4 x5 x6 m = some res → W p l e (jrm 2 0 0) s mi args below meth c H locs 0 0 (MQ below (jQc D cy B sz sh res.2 (some (jI res.1)) (jIn res.1)) args s 0 0 (jA B sz)) (F0 mi 35 ls []) := by
  intro n
  induction n with
  | zero => intro a0 x1 x2 x3 x4 x5 x6 h_x1 h_x2 h_x3 h_x4 h_x5 h_x6 m H locs ls S L hyp; cases hyp
  | succ n ih => intro a0 x1 x2 x3 x4 x5 x6 h_x1 h_x2 h_x3 h_x4 h_x5 h_x6 m H locs ls S L hyp; exact t_X12_fetch_b35 (N := N) C  ih h_x1 h_x2 h_x3 h_x4 h_x5 h_x6 S L hyp
set_option maxHeartbeats 4000000 in
set_option maxRecDepth 100000 in
theorem t_X12_fetch_e {p : Program} {l : Launch} {e : Env} {s : State} {mi : MethodId} {args : Array Value} {below : List Frame} {meth : Method} {c : Code} {D : va_G} {cy : Nat → ClassId} {B sz : Nat} {sh : jm_S} {res : (Int × jm_M)} {N : Nat} (C : jCx p s mi args meth c cX12_fetch 12 RX12 (some .int) D cy) {a0 : Nat} {x1 : Int} (h_x1 : jIn x1) {x2 : Int} (h_x2 : jIn x2) {m : jm_M} {H : Heap} {locs : List Loc} {ls : Array Slot} (S : jHs D cy B sz sh (jA B sz) s.heap H locs m) (L : jL ls [some (jR B a0), some (jI x1), some (jI x2), none, none, none, none, none, none, none, none, none]) (hyp : f_X12_fetch N sh a0 x1 x2 m = some res) : W p l e (jrm 2 0 0) s mi args below meth c H locs 0 0 (MQ below (jQc D cy B sz sh res.2 (some (jI res.1)) (jIn res.1)) args s 0 0 (jA B sz)) (F0 mi 0 ls []) := by
  unfold f_X12_fetch at hyp
  refine jr_aload_n (pc := 0) C L dX12_fetch_0 rfl rfl ?_
  refine jr_aload_n (pc := 1) C L dX12_fetch_1 rfl rfl ?_
  refine jr_iload_n (pc := 2) C L dX12_fetch_2 rfl rfl ?_
  obtain ⟨u33, hu33, hyp⟩ := jbind hyp
  obtain ⟨q34, hq34, hyp⟩ := jbind hyp
  refine jr_callV_I (pc := 3) C S L (As := [jI x2]) (rest := [jR B a0]) (c_X12_isHeld (m0 := m) h_x2 hq34) mv_X12_isHeld ml_X12_124 rfl (jck_spec hu33) (by decide) rfl rfl rfl (by simp [jR_cat, jI_cat]) ⟨Nat.le_refl 0, Nat.le_refl 0⟩ dX12_fetch_3 (fun p35 H locs S => ?_)
  obtain ⟨z37, hz37, hyp⟩ := jbind hyp
  obtain ⟨m36, hm36, hyp⟩ := jbind hyp
  refine jr_putZ (pc := 6) C S lf_X12_127 fp_X12_10 rfl hz37 hm36 dX12_fetch_6 (fun H locs S => ?_)
  refine jr_aload_n (pc := 9) C L dX12_fetch_9 rfl rfl ?_
  obtain ⟨v38, hv38, hyp⟩ := jbind hyp
  have iv38 := jrf_in S hv38
  refine jr_getI (pc := 10) C S lf_X12_127 rfl hv38 dX12_fetch_10 ?_
  refine jr_if_eq (pc := 13) C iv38 (tgt := 18) dX12_fetch_13 (by decide) (fun c39 => ?_) (fun c39 => ?_)
  · have hyp := (if_pos c39).symm.trans hyp
    refine jr_aload_n (pc := 18) C L dX12_fetch_18 rfl rfl ?_
    obtain ⟨u40, hu40, hyp⟩ := jbind hyp
    obtain ⟨q41, hq41, hyp⟩ := jbind hyp
    refine jr_callV_I (pc := 19) C S L (As := []) (rest := []) (c_X12_linesInSet (m0 := m36)  hq41) mv_X12_linesInSet ml_X12_114 rfl (jck_spec hu40) (by decide) rfl rfl rfl (Nat.le_of_ble_eq_true rfl) ⟨Nat.le_refl 0, Nat.le_refl 0⟩ dX12_fetch_19 (fun p42 H locs S => ?_)
    refine jr_istore_n (pc := 22) C L dX12_fetch_22 rfl (Nat.le_of_ble_eq_true rfl) (fun ls L => ?_)
    have L : jL ls [some (jR B a0), some (jI x1), some (jI x2), some (jI q41), none, none, none, none, none, none, none, none] := L
    refine jr_aload_n (pc := 23) C L dX12_fetch_23 rfl rfl ?_
    obtain ⟨u43, hu43, hyp⟩ := jbind hyp
    obtain ⟨q44, hq44, hyp⟩ := jbind hyp
    refine jr_callV_I (pc := 24) C S L (As := []) (rest := []) (c_X12_statesOfSet (m0 := m36)  hq44) mv_X12_statesOfSet ml_X12_117 rfl (jck_spec hu43) (by decide) rfl rfl rfl (Nat.le_of_ble_eq_true rfl) ⟨Nat.le_refl 0, Nat.le_refl 0⟩ dX12_fetch_24 (fun p45 H locs S => ?_)
    refine jr_istore (pc := 27) C L dX12_fetch_27 (Nat.le_of_ble_eq_true rfl) (fun ls L => ?_)
    have L : jL ls [some (jR B a0), some (jI x1), some (jI x2), some (jI q41), some (jI q44), none, none, none, none, none, none, none] := L
    refine jr_iconst (pc := 29) C dX12_fetch_29 ?_
    refine jr_istore (pc := 30) C L dX12_fetch_30 (Nat.le_of_ble_eq_true rfl) (fun ls L => ?_)
    have L : jL ls [some (jR B a0), some (jI x1), some (jI x2), some (jI q41), some (jI q44), some (jI 1), none, none, none, none, none, none] := L
    refine jr_iconst (pc := 32) C dX12_fetch_32 ?_
    refine jr_istore (pc := 33) C L dX12_fetch_33 (Nat.le_of_ble_eq_true rfl) (fun ls L => ?_)
    have L : jL ls [some (jR B a0), some (jI x1), some (jI x2), some (jI q41), some (jI q44), some (jI 1), some (jI 0), none, none, none, none, none] := L
    exact t_X12_fetch_l35 C   N a0 x1 x2 q41 q44 1 0 h_x1 h_x2 p42 p45 (show jIn 1 from ⟨by decide, by decide⟩) (show jIn 0 from ⟨by decide, by decide⟩) m36 _ _ _ S (L.sub (jsub_s (jsub_s (jsub_s (jsub_s (jsub_s (jsub_s (jsub_s (jsub_n (jsub_n (jsub_n (jsub_n (jsub_n jsub_0))))))))))))) hyp
  · have hyp := (if_neg c39).symm.trans hyp
    refine jr_iload_n (pc := 16) C L dX12_fetch_16 rfl rfl ?_
    cases hyp
    exact jr_iret C S h_x1 dX12_fetch_17
theorem c_X12_fetch {l : Launch} {D : va_G} {cy : Nat → ClassId} {B sz : Nat} {sh : jm_S} {res : (Int × jm_M)} {N : Nat} {m : jm_M} {a0 : Nat} {x1 : Int} (h_x1 : jIn x1) {x2 : Int} (h_x2 : jIn x2) (hyp : f_X12_fetch N sh a0 x1 x2 m = some res) : jCt l D cy B sz sh 2 yX12_fetch cX12_fetch 12 (some .int) [jR B a0, jI x1, jI x2] m (some (jI res.1)) res.2 (jIn res.1) :=
  jc_of (by decide) (fun v h => by simp only [List.mem_cons, List.not_mem_nil, or_false] at h; rcases h with rfl | rfl | rfl <;> first | rfl | exact jR_cat _ _) (Nat.le_of_ble_eq_true rfl) (fun C S L => t_X12_fetch_e C  h_x1 h_x2 S L hyp)
set_option maxHeartbeats 4000000 in
set_option maxRecDepth 100000 in
theorem t_X12_linesIn_b110 {p : Program} {l : Launch} {e : Env} {s : State} {mi : MethodId} {args : Array Value} {below : List Frame} {meth : Method} {c : Code} {D : va_G} {cy : Nat → ClassId} {B sz : Nat} {sh : jm_S} {res : Int} {N : Nat} {m0 : jm_M} {k24 : Nat → Int → Int → Int → Int → Int → Option Int} (C : jCx p s mi args meth c cX12_linesIn 9 RX12 (some .int) D cy) (K24 : ∀ (a0 : Nat) (x2 : Int) (x3 : Int) (x4 : Int) (x5 : Int) (x6 : Int) , jIn x2 → jIn x3 → jIn x4 → jIn x5 → jIn x6 → ∀ (H : Heap) (locs : List Loc) (ls : Array Slot), jHs D cy B sz sh (jA B sz) s.heap H locs m0 → jL ls [some (jR B a0), none, some (jI x2), some (jI x3), some (jI x4), some (jI x5), some (jI x6), none, none] → k24 a0 x2 x3 x4 x5 x6 = some res → W p l e (jrm 2 0 0) s mi args below meth c H locs 0 0 (MQ below (jQc D cy B sz sh m0 (some (jI res)) (jIn res)) args s 0 0 (jA B sz)) (F0 mi 24 ls [])) {a0 : Nat} {x2 : Int} (h_x2 : jIn x2) {x3 : Int} (h_x3 : jIn x3) {x5 : Int} (h_x5 : jIn x5) {x6 : Int} (h_x6 : jIn x6) {s0 : Int} (h_s0 : jIn s0) {s1 : Int} (h_s1 : jIn s1) {H : Heap} {locs : List Loc} {ls : Array Slot} (S : jHs D cy B sz sh (jA B sz) s.heap H locs m0) (L : jL ls [some (jR B a0), none, some (jI x2), some (jI x3), none, some (jI x5), some (jI x6), none, none]) (hyp : f_X12_linesIn_b110 N sh k24 a0 x2 x3 x5 x6 s0 s1 m0 = some res) : W p l e (jrm 2 0 0) s mi args below meth c H locs 0 0 (MQ below (jQc D cy B sz sh m0 (some (jI res)) (jIn res)) args s 0 0 (jA B sz)) (F0 mi 110 ls [jI s1, jI s0]) := by
  unfold f_X12_linesIn_b110 at hyp
  refine jr_ior (pc := 110) C dX12_linesIn_110 ?_
  refine jr_istore (pc := 111) C L dX12_linesIn_111 (Nat.le_of_ble_eq_true rfl) (fun ls L => ?_)
  have L : jL ls [some (jR B a0), none, some (jI x2), some (jI x3), some (jI (jor s0 s1)), some (jI x5), some (jI x6), none, none] := L
  refine jr_iload (pc := 113) C L dX12_linesIn_113 rfl ?_
  refine jr_iload_n (pc := 115) C L dX12_linesIn_115 rfl rfl ?_
  by_cases c1 : x3 = 0
  · exact absurd ((if_pos c1).symm.trans hyp) (by intro h; cases h)
  have hyp := (if_neg c1).symm.trans hyp
  refine jr_idiv (pc := 116) C h_x5 h_x3 c1 dX12_linesIn_116 ?_
  refine jr_istore (pc := 117) C L dX12_linesIn_117 (Nat.le_of_ble_eq_true rfl) (fun ls L => ?_)
  have L : jL ls [some (jR B a0), none, some (jI x2), some (jI x3), some (jI (jor s0 s1)), some (jI (jdiv x5 x3)), some (jI x6), none, none] := L
  refine jr_iinc (pc := 119) C L dX12_linesIn_119 rfl (Nat.le_of_ble_eq_true rfl) (fun ls L => ?_)
  have L : jL ls [some (jR B a0), none, some (jI x2), some (jI x3), some (jI (jor s0 s1)), some (jI (jdiv x5 x3)), some (jI (jw (x6 + 1))), none, none] := L
  refine jr_goto (pc := 122) C (tgt := 24) dX12_linesIn_122 (by decide) ?_
  exact K24 a0 x2 x3 (jor s0 s1) (jdiv x5 x3) (jw (x6 + 1)) h_x2 h_x3 (jIn_or _ _) (jIn_div _ _) (jIn_w _)  _ _ _ S (L.sub (jsub_s (jsub_n (jsub_s (jsub_s (jsub_s (jsub_s (jsub_s (jsub_n (jsub_n jsub_0)))))))))) hyp
set_option maxHeartbeats 4000000 in
set_option maxRecDepth 100000 in
theorem t_X12_linesIn_b82 {p : Program} {l : Launch} {e : Env} {s : State} {mi : MethodId} {args : Array Value} {below : List Frame} {meth : Method} {c : Code} {D : va_G} {cy : Nat → ClassId} {B sz : Nat} {sh : jm_S} {res : Int} {N : Nat} {m0 : jm_M} {k24 : Nat → Int → Int → Int → Int → Int → Option Int} (C : jCx p s mi args meth c cX12_linesIn 9 RX12 (some .int) D cy) (K24 : ∀ (a0 : Nat) (x2 : Int) (x3 : Int) (x4 : Int) (x5 : Int) (x6 : Int) , jIn x2 → jIn x3 → jIn x4 → jIn x5 → jIn x6 → ∀ (H : Heap) (locs : List Loc) (ls : Array Slot), jHs D cy B sz sh (jA B sz) s.heap H locs m0 → jL ls [some (jR B a0), none, some (jI x2), some (jI x3), some (jI x4), some (jI x5), some (jI x6), none, none] → k24 a0 x2 x3 x4 x5 x6 = some res → W p l e (jrm 2 0 0) s mi args below meth c H locs 0 0 (MQ below (jQc D cy B sz sh m0 (some (jI res)) (jIn res)) args s 0 0 (jA B sz)) (F0 mi 24 ls [])) {a0 : Nat} {x2 : Int} (h_x2 : jIn x2) {x3 : Int} (h_x3 : jIn x3) {x5 : Int} (h_x5 : jIn x5) {x6 : Int} (h_x6 : jIn x6) {x8 : Int} (h_x8 : jIn x8) {s0 : Int} (h_s0 : jIn s0) {s1 : Int} (h_s1 : jIn s1) {H : Heap} {locs : List Loc} {ls : Array Slot} (S : jHs D cy B sz sh (jA B sz) s.heap H locs m0) (L : jL ls [some (jR B a0), none, some (jI x2), some (jI x3), none, some (jI x5), some (jI x6), none, some (jI x8)]) (hyp : f_X12_linesIn_b82 N sh k24 a0 x2 x3 x5 x6 x8 s0 s1 m0 = some res) : W p l e (jrm 2 0 0) s mi args below meth c H locs 0 0 (MQ below (jQc D cy B sz sh m0 (some (jI res)) (jIn res)) args s 0 0 (jA B sz)) (F0 mi 82 ls [jI s1, jI s0]) := by
  unfold f_X12_linesIn_b82 at hyp
  refine jr_ior (pc := 82) C dX12_linesIn_82 ?_
  refine jr_istore (pc := 83) C L dX12_linesIn_83 (Nat.le_of_ble_eq_true rfl) (fun ls L => ?_)
  have L : jL ls [some (jR B a0), none, some (jI x2), some (jI x3), some (jI (jor s0 s1)), some (jI x5), some (jI x6), none, some (jI x8)] := L
  refine jr_iload (pc := 85) C L dX12_linesIn_85 rfl ?_
  refine jr_iload (pc := 87) C L dX12_linesIn_87 rfl ?_
  refine jr_if_ge (pc := 89) C h_x8 (tgt := 96) dX12_linesIn_89 (by decide) (fun c2 => ?_) (fun c2 => ?_)
  · have hyp := (if_pos c2).symm.trans hyp
    refine jr_iconst (pc := 92) C dX12_linesIn_92 ?_
    refine jr_goto (pc := 93) C (tgt := 110) dX12_linesIn_93 (by decide) ?_
    exact t_X12_linesIn_b110 C  K24 h_x2 h_x3 h_x5 h_x6 (jIn_or _ _) (show jIn 0 from ⟨by decide, by decide⟩) S (L.sub (jsub_s (jsub_n (jsub_s (jsub_s (jsub_n (jsub_s (jsub_s (jsub_n (jsub_n jsub_0)))))))))) hyp
  · have hyp := (if_neg c2).symm.trans hyp
    refine jr_iconst (pc := 96) C dX12_linesIn_96 ?_
    refine jr_iload (pc := 97) C L dX12_linesIn_97 rfl ?_
    refine jr_aload_n (pc := 99) C L dX12_linesIn_99 rfl rfl ?_
    obtain ⟨v3, hv3, hyp⟩ := jbind hyp
    refine jr_getR (pc := 100) C S lf_X12_7 rfl hv3 dX12_linesIn_100 ?_
    refine jr_iconst (pc := 103) C dX12_linesIn_103 ?_
    obtain ⟨v4, hv4, hyp⟩ := jbind hyp
    have iv4 := jra_in S hv4
    refine jr_ial (pc := 104) C S (show jIn 0 from ⟨by decide, by decide⟩) hv4 dX12_linesIn_104 ?_
    refine jr_imul (pc := 105) C dX12_linesIn_105 ?_
    refine jr_iload (pc := 106) C L dX12_linesIn_106 rfl ?_
    refine jr_iadd (pc := 108) C dX12_linesIn_108 ?_
    refine jr_ishl (pc := 109) C dX12_linesIn_109 ?_
    exact t_X12_linesIn_b110 C  K24 h_x2 h_x3 h_x5 h_x6 (jIn_or _ _) (jIn_shl _ _) S (L.sub (jsub_s (jsub_n (jsub_s (jsub_s (jsub_n (jsub_s (jsub_s (jsub_n (jsub_n jsub_0)))))))))) hyp
set_option maxHeartbeats 4000000 in
set_option maxRecDepth 100000 in
theorem t_X12_linesIn_b24 {p : Program} {l : Launch} {e : Env} {s : State} {mi : MethodId} {args : Array Value} {below : List Frame} {meth : Method} {c : Code} {D : va_G} {cy : Nat → ClassId} {B sz : Nat} {sh : jm_S} {res : Int} {N : Nat} {m0 : jm_M} {k24 : Nat → Int → Int → Int → Int → Int → Option Int} (C : jCx p s mi args meth c cX12_linesIn 9 RX12 (some .int) D cy) (K24 : ∀ (a0 : Nat) (x2 : Int) (x3 : Int) (x4 : Int) (x5 : Int) (x6 : Int) , jIn x2 → jIn x3 → jIn x4 → jIn x5 → jIn x6 → ∀ (H : Heap) (locs : List Loc) (ls : Array Slot), jHs D cy B sz sh (jA B sz) s.heap H locs m0 → jL ls [some (jR B a0), none, some (jI x2), some (jI x3), some (jI x4), some (jI x5), some (jI x6), none, none] → k24 a0 x2 x3 x4 x5 x6 = some res → W p l e (jrm 2 0 0) s mi args below meth c H locs 0 0 (MQ below (jQc D cy B sz sh m0 (some (jI res)) (jIn res)) args s 0 0 (jA B sz)) (F0 mi 24 ls [])) {a0 : Nat} {x2 : Int} (h_x2 : jIn x2) {x3 : Int} (h_x3 : jIn x3) {x4 : Int} (h_x4 : jIn x4) {x5 : Int} (h_x5 : jIn x5) {x6 : Int} (h_x6 : jIn x6) {H : Heap} {locs : List Loc} {ls : Array Slot} (S : jHs D cy B sz sh (jA B sz) s.heap H locs m0) (L : jL ls [some (jR B a0), none, some (jI x2), some (jI x3), some (jI x4), some (jI x5), some (jI x6), none, none]) (hyp : f_X12_linesIn_b24 N sh k24 a0 x2 x3 x4 x5 x6 m0 = some res) : W p l e (jrm 2 0 0) s mi args below meth c H locs 0 0 (MQ below (jQc D cy B sz sh m0 (some (jI res)) (jIn res)) args s 0 0 (jA B sz)) (F0 mi 24 ls []) := by
  unfold f_X12_linesIn_b24 at hyp
  refine jr_iload (pc := 24) C L dX12_linesIn_24 rfl ?_
  refine jr_aload_n (pc := 26) C L dX12_linesIn_26 rfl rfl ?_
  obtain ⟨v5, hv5, hyp⟩ := jbind hyp
  refine jr_getR (pc := 27) C S lf_X12_7 rfl hv5 dX12_linesIn_27 ?_
  refine jr_iconst (pc := 30) C dX12_linesIn_30 ?_
  obtain ⟨v6, hv6, hyp⟩ := jbind hyp
  have iv6 := jra_in S hv6
  refine jr_ial (pc := 31) C S (show jIn 0 from ⟨by decide, by decide⟩) hv6 dX12_linesIn_31 ?_
  refine jr_icmp_ge (pc := 32) C h_x6 iv6 (tgt := 125) dX12_linesIn_32 (by decide) (fun c7 => ?_) (fun c7 => ?_)
  · have hyp := (if_pos c7).symm.trans hyp
    refine jr_aload_n (pc := 35) C L dX12_linesIn_35 rfl rfl ?_
    refine jr_iload_n (pc := 36) C L dX12_linesIn_36 rfl rfl ?_
    refine jr_iload (pc := 37) C L dX12_linesIn_37 rfl ?_
    refine jr_iload_n (pc := 39) C L dX12_linesIn_39 rfl rfl ?_
    by_cases c8 : x3 = 0
    · exact absurd ((if_pos c8).symm.trans hyp) (by intro h; cases h)
    have hyp := (if_neg c8).symm.trans hyp
    refine jr_irem (pc := 40) C h_x5 h_x3 c8 dX12_linesIn_40 ?_
    obtain ⟨u9, hu9, hyp⟩ := jbind hyp
    obtain ⟨q10, hq10, hyp⟩ := jbind hyp
    refine jr_callV_I (pc := 41) C S L (As := [jI x2, jI (jrem x5 x3)]) (rest := []) (c_X12_newestOf (m0 := m0) h_x2 (jIn_rem _ h_x5) hq10) mv_X12_newestOf ml_X12_120 rfl (jck_spec hu9) (by decide) rfl rfl rfl (Nat.le_of_ble_eq_true rfl) ⟨Nat.le_refl 0, Nat.le_refl 0⟩ dX12_linesIn_41 (fun p11 H locs S => ?_)
    refine jr_istore (pc := 44) C L dX12_linesIn_44 (Nat.le_of_ble_eq_true rfl) (fun ls L => ?_)
    have L : jL ls [some (jR B a0), none, some (jI x2), some (jI x3), some (jI x4), some (jI x5), some (jI x6), some (jI q10), none] := L
    refine jr_aload_n (pc := 46) C L dX12_linesIn_46 rfl rfl ?_
    refine jr_iload_n (pc := 47) C L dX12_linesIn_47 rfl rfl ?_
    refine jr_iload (pc := 48) C L dX12_linesIn_48 rfl ?_
    refine jr_iload_n (pc := 50) C L dX12_linesIn_50 rfl rfl ?_
    by_cases c12 : x3 = 0
    · exact absurd ((if_pos c12).symm.trans hyp) (by intro h; cases h)
    have hyp := (if_neg c12).symm.trans hyp
    refine jr_irem (pc := 51) C h_x5 h_x3 c12 dX12_linesIn_51 ?_
    obtain ⟨u13, hu13, hyp⟩ := jbind hyp
    obtain ⟨q14, hq14, hyp⟩ := jbind hyp
    refine jr_callV_I (pc := 52) C S L (As := [jI x2, jI (jrem x5 x3)]) (rest := []) (c_X12_olderOf (m0 := m0) h_x2 (jIn_rem _ h_x5) hq14) mv_X12_olderOf ml_X12_137 rfl (jck_spec hu13) (by decide) rfl rfl rfl (Nat.le_of_ble_eq_true rfl) ⟨Nat.le_refl 0, Nat.le_refl 0⟩ dX12_linesIn_52 (fun p15 H locs S => ?_)
    refine jr_istore (pc := 55) C L dX12_linesIn_55 (Nat.le_of_ble_eq_true rfl) (fun ls L => ?_)
    have L : jL ls [some (jR B a0), none, some (jI x2), some (jI x3), some (jI x4), some (jI x5), some (jI x6), some (jI q10), some (jI q14)] := L
    refine jr_iload (pc := 57) C L dX12_linesIn_57 rfl ?_
    refine jr_iload (pc := 59) C L dX12_linesIn_59 rfl ?_
    refine jr_if_ge (pc := 61) C p11 (tgt := 68) dX12_linesIn_61 (by decide) (fun c16 => ?_) (fun c16 => ?_)
    · have hyp := (if_pos c16).symm.trans hyp
      refine jr_iconst (pc := 64) C dX12_linesIn_64 ?_
      refine jr_goto (pc := 65) C (tgt := 82) dX12_linesIn_65 (by decide) ?_
      exact t_X12_linesIn_b82 C  K24 h_x2 h_x3 h_x5 h_x6 p15 h_x4 (show jIn 0 from ⟨by decide, by decide⟩) S (L.sub (jsub_s (jsub_n (jsub_s (jsub_s (jsub_n (jsub_s (jsub_s (jsub_n (jsub_s jsub_0)))))))))) hyp
    · have hyp := (if_neg c16).symm.trans hyp
      refine jr_iconst (pc := 68) C dX12_linesIn_68 ?_
      refine jr_iload (pc := 69) C L dX12_linesIn_69 rfl ?_
      refine jr_aload_n (pc := 71) C L dX12_linesIn_71 rfl rfl ?_
      obtain ⟨v17, hv17, hyp⟩ := jbind hyp
      refine jr_getR (pc := 72) C S lf_X12_7 rfl hv17 dX12_linesIn_72 ?_
      refine jr_iconst (pc := 75) C dX12_linesIn_75 ?_
      obtain ⟨v18, hv18, hyp⟩ := jbind hyp
      have iv18 := jra_in S hv18
      refine jr_ial (pc := 76) C S (show jIn 0 from ⟨by decide, by decide⟩) hv18 dX12_linesIn_76 ?_
      refine jr_imul (pc := 77) C dX12_linesIn_77 ?_
      refine jr_iload (pc := 78) C L dX12_linesIn_78 rfl ?_
      refine jr_iadd (pc := 80) C dX12_linesIn_80 ?_
      refine jr_ishl (pc := 81) C dX12_linesIn_81 ?_
      exact t_X12_linesIn_b82 C  K24 h_x2 h_x3 h_x5 h_x6 p15 h_x4 (jIn_shl _ _) S (L.sub (jsub_s (jsub_n (jsub_s (jsub_s (jsub_n (jsub_s (jsub_s (jsub_n (jsub_s jsub_0)))))))))) hyp
  · have hyp := (if_neg c7).symm.trans hyp
    refine jr_iload (pc := 125) C L dX12_linesIn_125 rfl ?_
    cases hyp
    exact jr_iret C S h_x4 dX12_linesIn_127
theorem t_X12_linesIn_l24 {p : Program} {l : Launch} {e : Env} {s : State} {mi : MethodId} {args : Array Value} {below : List Frame} {meth : Method} {c : Code} {D : va_G} {cy : Nat → ClassId} {B sz : Nat} {sh : jm_S} {res : Int} {N : Nat} {m0 : jm_M} (C : jCx p s mi args meth c cX12_linesIn 9 RX12 (some .int) D cy) : ∀ (n : Nat) (a0 : Nat) (x2 : Int) (x3 : Int) (x4 : Int) (x5 : Int) (x6 : Int), jIn x2 → jIn x3 → jIn x4 → jIn x5 → jIn x6 → ∀ (H : Heap) (locs : List Loc) (ls : Array Slot), jHs D cy B sz sh (jA B sz) s.heap H locs m0 → jL ls [some (jR B a0), none, some (jI x2), some (jI x3), some (jI x4), some (jI x5), some (jI x6), none, none] → f_X12_linesIn_l24 N sh n a0 x2 x3 x4 x5 x6 m0 = some res → W p l e (jrm 2 0 0) s mi args below meth c H locs 0 0 (MQ below (jQc D cy B sz sh m0 (some (jI res)) (jIn res)) args s 0 0 (jA B sz)) (F0 mi 24 ls []) := by
  intro n
  induction n with
  | zero => intro a0 x2 x3 x4 x5 x6 h_x2 h_x3 h_x4 h_x5 h_x6 H locs ls S L hyp; cases hyp
  | succ n ih => intro a0 x2 x3 x4 x5 x6 h_x2 h_x3 h_x4 h_x5 h_x6 H locs ls S L hyp; exact t_X12_linesIn_b24 (N := N) C  ih h_x2 h_x3 h_x4 h_x5 h_x6 S L hyp
set_option maxHeartbeats 4000000 in
set_option maxRecDepth 100000 in
theorem t_X12_linesIn_e {p : Program} {l : Launch} {e : Env} {s : State} {mi : MethodId} {args : Array Value} {below : List Frame} {meth : Method} {c : Code} {D : va_G} {cy : Nat → ClassId} {B sz : Nat} {sh : jm_S} {res : Int} {N : Nat} {m0 : jm_M} (C : jCx p s mi args meth c cX12_linesIn 9 RX12 (some .int) D cy) {a0 : Nat} {x1 : Int} (h_x1 : jIn x1) {H : Heap} {locs : List Loc} {ls : Array Slot} (S : jHs D cy B sz sh (jA B sz) s.heap H locs m0) (L : jL ls [some (jR B a0), some (jI x1), none, none, none, none, none, none, none]) (hyp : f_X12_linesIn N sh a0 x1 m0 = some res) : W p l e (jrm 2 0 0) s mi args below meth c H locs 0 0 (MQ below (jQc D cy B sz sh m0 (some (jI res)) (jIn res)) args s 0 0 (jA B sz)) (F0 mi 0 ls []) := by
  unfold f_X12_linesIn at hyp
  refine jr_aload_n (pc := 0) C L dX12_linesIn_0 rfl rfl ?_
  obtain ⟨u19, hu19, hyp⟩ := jbind hyp
  obtain ⟨q20, hq20, hyp⟩ := jbind hyp
  refine jr_callV_I (pc := 1) C S L (As := []) (rest := []) (c_X12_linesInSet (m0 := m0)  hq20) mv_X12_linesInSet ml_X12_114 rfl (jck_spec hu19) (by decide) rfl rfl rfl (Nat.le_of_ble_eq_true rfl) ⟨Nat.le_refl 0, Nat.le_refl 0⟩ dX12_linesIn_1 (fun p21 H locs S => ?_)
  refine jr_istore_n (pc := 4) C L dX12_linesIn_4 rfl (Nat.le_of_ble_eq_true rfl) (fun ls L => ?_)
  have L : jL ls [some (jR B a0), some (jI x1), some (jI q20), none, none, none, none, none, none] := L
  refine jr_aload_n (pc := 5) C L dX12_linesIn_5 rfl rfl ?_
  obtain ⟨u22, hu22, hyp⟩ := jbind hyp
  obtain ⟨q23, hq23, hyp⟩ := jbind hyp
  refine jr_callV_I (pc := 6) C S L (As := []) (rest := []) (c_X12_statesOfSet (m0 := m0)  hq23) mv_X12_statesOfSet ml_X12_117 rfl (jck_spec hu22) (by decide) rfl rfl rfl (Nat.le_of_ble_eq_true rfl) ⟨Nat.le_refl 0, Nat.le_refl 0⟩ dX12_linesIn_6 (fun p24 H locs S => ?_)
  refine jr_istore_n (pc := 9) C L dX12_linesIn_9 rfl (Nat.le_of_ble_eq_true rfl) (fun ls L => ?_)
  have L : jL ls [some (jR B a0), some (jI x1), some (jI q20), some (jI q23), none, none, none, none, none] := L
  refine jr_aload_n (pc := 10) C L dX12_linesIn_10 rfl rfl ?_
  obtain ⟨v25, hv25, hyp⟩ := jbind hyp
  refine jr_getR (pc := 11) C S lf_X12_7 rfl hv25 dX12_linesIn_11 ?_
  refine jr_iconst (pc := 14) C dX12_linesIn_14 ?_
  obtain ⟨v26, hv26, hyp⟩ := jbind hyp
  have iv26 := jra_in S hv26
  refine jr_ial (pc := 15) C S (show jIn 3 from ⟨by decide, by decide⟩) hv26 dX12_linesIn_15 ?_
  refine jr_istore (pc := 16) C L dX12_linesIn_16 (Nat.le_of_ble_eq_true rfl) (fun ls L => ?_)
  have L : jL ls [some (jR B a0), some (jI x1), some (jI q20), some (jI q23), some (jI v26), none, none, none, none] := L
  refine jr_iload_n (pc := 18) C L dX12_linesIn_18 rfl rfl ?_
  refine jr_istore (pc := 19) C L dX12_linesIn_19 (Nat.le_of_ble_eq_true rfl) (fun ls L => ?_)
  have L : jL ls [some (jR B a0), some (jI x1), some (jI q20), some (jI q23), some (jI v26), some (jI x1), none, none, none] := L
  refine jr_iconst (pc := 21) C dX12_linesIn_21 ?_
  refine jr_istore (pc := 22) C L dX12_linesIn_22 (Nat.le_of_ble_eq_true rfl) (fun ls L => ?_)
  have L : jL ls [some (jR B a0), some (jI x1), some (jI q20), some (jI q23), some (jI v26), some (jI x1), some (jI 0), none, none] := L
  exact t_X12_linesIn_l24 C   N a0 q20 q23 v26 x1 0 p21 p24 iv26 h_x1 (show jIn 0 from ⟨by decide, by decide⟩)  _ _ _ S (L.sub (jsub_s (jsub_n (jsub_s (jsub_s (jsub_s (jsub_s (jsub_s (jsub_n (jsub_n jsub_0)))))))))) hyp
theorem c_X12_linesIn {l : Launch} {D : va_G} {cy : Nat → ClassId} {B sz : Nat} {sh : jm_S} {res : Int} {N : Nat} {m0 : jm_M} {a0 : Nat} {x1 : Int} (h_x1 : jIn x1) (hyp : f_X12_linesIn N sh a0 x1 m0 = some res) : jCt l D cy B sz sh 2 yX12_linesIn cX12_linesIn 9 (some .int) [jR B a0, jI x1] m0 (some (jI res)) m0 (jIn res) :=
  jc_of (by decide) (fun v h => by simp only [List.mem_cons, List.not_mem_nil, or_false] at h; rcases h with rfl | rfl <;> first | rfl | exact jR_cat _ _) (Nat.le_of_ble_eq_true rfl) (fun C S L => t_X12_linesIn_e C  h_x1 S L hyp)
set_option maxHeartbeats 4000000 in
set_option maxRecDepth 100000 in
theorem t_X12_isBetter_e {p : Program} {l : Launch} {e : Env} {s : State} {mi : MethodId} {args : Array Value} {below : List Frame} {meth : Method} {c : Code} {D : va_G} {cy : Nat → ClassId} {B sz : Nat} {sh : jm_S} {res : Int} {m0 : jm_M} (C : jCx p s mi args meth c cX12_isBetter 3 RX12 (some .boolean) D cy) {a0 : Nat} {x1 : Int} (h_x1 : jIn x1) {x2 : Int} (h_x2 : jIn x2) {H : Heap} {locs : List Loc} {ls : Array Slot} (S : jHs D cy B sz sh (jA B sz) s.heap H locs m0) (L : jL ls [some (jR B a0), some (jI x1), some (jI x2)]) (hyp : f_X12_isBetter sh a0 x1 x2 m0 = some res) : W p l e (jrm 0 0 0) s mi args below meth c H locs 0 0 (MQ below (jQc D cy B sz sh m0 (some (jI res)) (jIn res)) args s 0 0 (jA B sz)) (F0 mi 0 ls []) := by
  unfold f_X12_isBetter at hyp
  refine jr_iload_n (pc := 0) C L dX12_isBetter_0 rfl rfl ?_
  refine jr_if_ge (pc := 1) C h_x2 (tgt := 16) dX12_isBetter_1 (by decide) (fun c1 => ?_) (fun c1 => ?_)
  · have hyp := (if_pos c1).symm.trans hyp
    refine jr_iload_n (pc := 4) C L dX12_isBetter_4 rfl rfl ?_
    refine jr_if_lt (pc := 5) C h_x1 (tgt := 12) dX12_isBetter_5 (by decide) (fun c2 => ?_) (fun c2 => ?_)
    · have hyp := (if_pos c2).symm.trans hyp
      refine jr_iconst (pc := 12) C dX12_isBetter_12 ?_
      refine jr_goto (pc := 13) C (tgt := 45) dX12_isBetter_13 (by decide) ?_
      cases hyp
      exact jr_zret C S (show jIn 0 from ⟨by decide, by decide⟩) rfl dX12_isBetter_45
    · have hyp := (if_neg c2).symm.trans hyp
      refine jr_iconst (pc := 8) C dX12_isBetter_8 ?_
      refine jr_goto (pc := 9) C (tgt := 45) dX12_isBetter_9 (by decide) ?_
      cases hyp
      exact jr_zret C S (show jIn 1 from ⟨by decide, by decide⟩) rfl dX12_isBetter_45
  · have hyp := (if_neg c1).symm.trans hyp
    refine jr_iload_n (pc := 16) C L dX12_isBetter_16 rfl rfl ?_
    refine jr_if_lt (pc := 17) C h_x1 (tgt := 44) dX12_isBetter_17 (by decide) (fun c3 => ?_) (fun c3 => ?_)
    · have hyp := (if_pos c3).symm.trans hyp
      refine jr_iconst (pc := 44) C dX12_isBetter_44 ?_
      cases hyp
      exact jr_zret C S (show jIn 0 from ⟨by decide, by decide⟩) rfl dX12_isBetter_45
    · have hyp := (if_neg c3).symm.trans hyp
      refine jr_aload_n (pc := 20) C L dX12_isBetter_20 rfl rfl ?_
      obtain ⟨v4, hv4, hyp⟩ := jbind hyp
      have iv4 := jrf_in S hv4
      refine jr_getI (pc := 21) C S lf_X12_144 rfl hv4 dX12_isBetter_21 ?_
      refine jr_if_eq (pc := 24) C iv4 (tgt := 35) dX12_isBetter_24 (by decide) (fun c5 => ?_) (fun c5 => ?_)
      · have hyp := (if_pos c5).symm.trans hyp
        refine jr_iload_n (pc := 35) C L dX12_isBetter_35 rfl rfl ?_
        refine jr_iload_n (pc := 36) C L dX12_isBetter_36 rfl rfl ?_
        refine jr_icmp_ge (pc := 37) C h_x1 h_x2 (tgt := 44) dX12_isBetter_37 (by decide) (fun c6 => ?_) (fun c6 => ?_)
        · have hyp := (if_pos c6).symm.trans hyp
          refine jr_iconst (pc := 40) C dX12_isBetter_40 ?_
          refine jr_goto (pc := 41) C (tgt := 45) dX12_isBetter_41 (by decide) ?_
          cases hyp
          exact jr_zret C S (show jIn 1 from ⟨by decide, by decide⟩) rfl dX12_isBetter_45
        · have hyp := (if_neg c6).symm.trans hyp
          refine jr_iconst (pc := 44) C dX12_isBetter_44 ?_
          cases hyp
          exact jr_zret C S (show jIn 0 from ⟨by decide, by decide⟩) rfl dX12_isBetter_45
      · have hyp := (if_neg c5).symm.trans hyp
        refine jr_iload_n (pc := 27) C L dX12_isBetter_27 rfl rfl ?_
        refine jr_iload_n (pc := 28) C L dX12_isBetter_28 rfl rfl ?_
        refine jr_icmp_le (pc := 29) C h_x1 h_x2 (tgt := 44) dX12_isBetter_29 (by decide) (fun c7 => ?_) (fun c7 => ?_)
        · have hyp := (if_pos c7).symm.trans hyp
          refine jr_goto (pc := 32) C (tgt := 40) dX12_isBetter_32 (by decide) ?_
          refine jr_iconst (pc := 40) C dX12_isBetter_40 ?_
          refine jr_goto (pc := 41) C (tgt := 45) dX12_isBetter_41 (by decide) ?_
          cases hyp
          exact jr_zret C S (show jIn 1 from ⟨by decide, by decide⟩) rfl dX12_isBetter_45
        · have hyp := (if_neg c7).symm.trans hyp
          refine jr_iconst (pc := 44) C dX12_isBetter_44 ?_
          cases hyp
          exact jr_zret C S (show jIn 0 from ⟨by decide, by decide⟩) rfl dX12_isBetter_45
theorem c_X12_isBetter {l : Launch} {D : va_G} {cy : Nat → ClassId} {B sz : Nat} {sh : jm_S} {res : Int} {m0 : jm_M} {a0 : Nat} {x1 : Int} (h_x1 : jIn x1) {x2 : Int} (h_x2 : jIn x2) (hyp : f_X12_isBetter sh a0 x1 x2 m0 = some res) : jCt l D cy B sz sh 0 yX12_isBetter cX12_isBetter 3 (some .boolean) [jR B a0, jI x1, jI x2] m0 (some (jI res)) m0 (jIn res) :=
  jc_of (by decide) (fun v h => by simp only [List.mem_cons, List.not_mem_nil, or_false] at h; rcases h with rfl | rfl | rfl <;> first | rfl | exact jR_cat _ _) (Nat.le_of_ble_eq_true rfl) (fun C S L => t_X12_isBetter_e C  h_x1 h_x2 S L hyp)
set_option maxHeartbeats 4000000 in
set_option maxRecDepth 100000 in
theorem t_X12_fetchAll_b115 {p : Program} {l : Launch} {e : Env} {s : State} {mi : MethodId} {args : Array Value} {below : List Frame} {meth : Method} {c : Code} {D : va_G} {cy : Nat → ClassId} {B sz : Nat} {sh : jm_S} {res : jm_M} {N : Nat} {k115 : Nat → Int → jm_M → Option jm_M} (C : jCx p s mi args meth c cX12_fetchAll 5 RX12 none D cy) (K115 : ∀ (a0 : Nat) (x2 : Int) , jIn x2 → ∀ (m : jm_M) (H : Heap) (locs : List Loc) (ls : Array Slot), jHs D cy B sz sh (jA B sz) s.heap H locs m → jL ls [some (jR B a0), none, some (jI x2), none, none] → k115 a0 x2 m = some res → W p l e (jrm 3 0 0) s mi args below meth c H locs 0 0 (MQ below (jQc D cy B sz sh res none True) args s 0 0 (jA B sz)) (F0 mi 115 ls [])) {a0 : Nat} {x2 : Int} (h_x2 : jIn x2) {m : jm_M} {H : Heap} {locs : List Loc} {ls : Array Slot} (S : jHs D cy B sz sh (jA B sz) s.heap H locs m) (L : jL ls [some (jR B a0), none, some (jI x2), none, none]) (hyp : f_X12_fetchAll_b115 N sh k115 a0 x2 m = some res) : W p l e (jrm 3 0 0) s mi args below meth c H locs 0 0 (MQ below (jQc D cy B sz sh res none True) args s 0 0 (jA B sz)) (F0 mi 115 ls []) := by
  unfold f_X12_fetchAll_b115 at hyp
  refine jr_iload_n (pc := 115) C L dX12_fetchAll_115 rfl rfl ?_
  refine jr_aload_n (pc := 116) C L dX12_fetchAll_116 rfl rfl ?_
  obtain ⟨v1, hv1, hyp⟩ := jbind hyp
  have iv1 := jrf_in S hv1
  refine jr_getI (pc := 117) C S lf_X12_147 rfl hv1 dX12_fetchAll_117 ?_
  refine jr_icmp_ge (pc := 120) C h_x2 iv1 (tgt := 141) dX12_fetchAll_120 (by decide) (fun c2 => ?_) (fun c2 => ?_)
  · have hyp := (if_pos c2).symm.trans hyp
    refine jr_aload_n (pc := 123) C L dX12_fetchAll_123 rfl rfl ?_
    obtain ⟨v3, hv3, hyp⟩ := jbind hyp
    refine jr_getR (pc := 124) C S lf_X12_34 rfl hv3 dX12_fetchAll_124 ?_
    refine jr_iload_n (pc := 127) C L dX12_fetchAll_127 rfl rfl ?_
    refine jr_aload_n (pc := 128) C L dX12_fetchAll_128 rfl rfl ?_
    obtain ⟨v4, hv4, hyp⟩ := jbind hyp
    refine jr_getR (pc := 129) C S lf_X12_55 rfl hv4 dX12_fetchAll_129 ?_
    refine jr_iload_n (pc := 132) C L dX12_fetchAll_132 rfl rfl ?_
    obtain ⟨v5, hv5, hyp⟩ := jbind hyp
    have iv5 := jra_in S hv5
    refine jr_ial (pc := 133) C S h_x2 hv5 dX12_fetchAll_133 ?_
    obtain ⟨m6, hm6, hyp⟩ := jbind hyp
    refine jr_ias (pc := 134) C S h_x2 iv5 hm6 dX12_fetchAll_134 (fun H locs S => ?_)
    refine jr_iinc (pc := 135) C L dX12_fetchAll_135 rfl (Nat.le_of_ble_eq_true rfl) (fun ls L => ?_)
    have L : jL ls [some (jR B a0), none, some (jI (jw (x2 + 1))), none, none] := L
    refine jr_goto (pc := 138) C (tgt := 115) dX12_fetchAll_138 (by decide) ?_
    exact K115 a0 (jw (x2 + 1)) (jIn_w _) m6 _ _ _ S (L.sub (jsub_s (jsub_n (jsub_s (jsub_n (jsub_n jsub_0)))))) hyp
  · have hyp := (if_neg c2).symm.trans hyp
    cases hyp
    exact jr_vret C S trivial dX12_fetchAll_141
theorem t_X12_fetchAll_l115 {p : Program} {l : Launch} {e : Env} {s : State} {mi : MethodId} {args : Array Value} {below : List Frame} {meth : Method} {c : Code} {D : va_G} {cy : Nat → ClassId} {B sz : Nat} {sh : jm_S} {res : jm_M} {N : Nat} (C : jCx p s mi args meth c cX12_fetchAll 5 RX12 none D cy) : ∀ (n : Nat) (a0 : Nat) (x2 : Int), jIn x2 → ∀ (m : jm_M) (H : Heap) (locs : List Loc) (ls : Array Slot), jHs D cy B sz sh (jA B sz) s.heap H locs m → jL ls [some (jR B a0), none, some (jI x2), none, none] → f_X12_fetchAll_l115 N sh n a0 x2 m = some res → W p l e (jrm 3 0 0) s mi args below meth c H locs 0 0 (MQ below (jQc D cy B sz sh res none True) args s 0 0 (jA B sz)) (F0 mi 115 ls []) := by
  intro n
  induction n with
  | zero => intro a0 x2 h_x2 m H locs ls S L hyp; cases hyp
  | succ n ih => intro a0 x2 h_x2 m H locs ls S L hyp; exact t_X12_fetchAll_b115 (N := N) C  ih h_x2 S L hyp
set_option maxHeartbeats 4000000 in
set_option maxRecDepth 100000 in
theorem t_X12_fetchAll_b107 {p : Program} {l : Launch} {e : Env} {s : State} {mi : MethodId} {args : Array Value} {below : List Frame} {meth : Method} {c : Code} {D : va_G} {cy : Nat → ClassId} {B sz : Nat} {sh : jm_S} {res : jm_M} {N : Nat} {k25 : Nat → Int → Int → jm_M → Option jm_M} (C : jCx p s mi args meth c cX12_fetchAll 5 RX12 none D cy) (K25 : ∀ (a0 : Nat) (x1 : Int) (x2 : Int) , jIn x1 → jIn x2 → ∀ (m : jm_M) (H : Heap) (locs : List Loc) (ls : Array Slot), jHs D cy B sz sh (jA B sz) s.heap H locs m → jL ls [some (jR B a0), some (jI x1), some (jI x2), none, none] → k25 a0 x1 x2 m = some res → W p l e (jrm 3 0 0) s mi args below meth c H locs 0 0 (MQ below (jQc D cy B sz sh res none True) args s 0 0 (jA B sz)) (F0 mi 25 ls [])) {a0 : Nat} {x1 : Int} (h_x1 : jIn x1) {x2 : Int} (h_x2 : jIn x2) {m : jm_M} {H : Heap} {locs : List Loc} {ls : Array Slot} (S : jHs D cy B sz sh (jA B sz) s.heap H locs m) (L : jL ls [some (jR B a0), some (jI x1), some (jI x2), none, none]) (hyp : f_X12_fetchAll_b107 N sh k25 a0 x1 x2 m = some res) : W p l e (jrm 3 0 0) s mi args below meth c H locs 0 0 (MQ below (jQc D cy B sz sh res none True) args s 0 0 (jA B sz)) (F0 mi 107 ls []) := by
  unfold f_X12_fetchAll_b107 at hyp
  refine jr_iinc (pc := 107) C L dX12_fetchAll_107 rfl (Nat.le_of_ble_eq_true rfl) (fun ls L => ?_)
  have L : jL ls [some (jR B a0), some (jI x1), some (jI (jw (x2 + 1))), none, none] := L
  refine jr_goto (pc := 110) C (tgt := 25) dX12_fetchAll_110 (by decide) ?_
  exact K25 a0 x1 (jw (x2 + 1)) h_x1 (jIn_w _) m _ _ _ S (L.sub (jsub_s (jsub_s (jsub_s (jsub_n (jsub_n jsub_0)))))) hyp
set_option maxHeartbeats 4000000 in
set_option maxRecDepth 100000 in
theorem t_X12_fetchAll_b106 {p : Program} {l : Launch} {e : Env} {s : State} {mi : MethodId} {args : Array Value} {below : List Frame} {meth : Method} {c : Code} {D : va_G} {cy : Nat → ClassId} {B sz : Nat} {sh : jm_S} {res : jm_M} {N : Nat} {k25 : Nat → Int → Int → jm_M → Option jm_M} (C : jCx p s mi args meth c cX12_fetchAll 5 RX12 none D cy) (K25 : ∀ (a0 : Nat) (x1 : Int) (x2 : Int) , jIn x1 → jIn x2 → ∀ (m : jm_M) (H : Heap) (locs : List Loc) (ls : Array Slot), jHs D cy B sz sh (jA B sz) s.heap H locs m → jL ls [some (jR B a0), some (jI x1), some (jI x2), none, none] → k25 a0 x1 x2 m = some res → W p l e (jrm 3 0 0) s mi args below meth c H locs 0 0 (MQ below (jQc D cy B sz sh res none True) args s 0 0 (jA B sz)) (F0 mi 25 ls [])) {a0 : Nat} {x1 : Int} (h_x1 : jIn x1) {x2 : Int} (h_x2 : jIn x2) {r0 : Nat} {s1 : Int} (h_s1 : jIn s1) {s2 : Int} (h_s2 : jIn s2) {m : jm_M} {H : Heap} {locs : List Loc} {ls : Array Slot} (S : jHs D cy B sz sh (jA B sz) s.heap H locs m) (L : jL ls [some (jR B a0), some (jI x1), some (jI x2), none, none]) (hyp : f_X12_fetchAll_b106 N sh k25 a0 x1 x2 r0 s1 s2 m = some res) : W p l e (jrm 3 0 0) s mi args below meth c H locs 0 0 (MQ below (jQc D cy B sz sh res none True) args s 0 0 (jA B sz)) (F0 mi 106 ls [jI s2, jI s1, jR B r0]) := by
  unfold f_X12_fetchAll_b106 at hyp
  obtain ⟨m7, hm7, hyp⟩ := jbind hyp
  refine jr_ias (pc := 106) C S h_s1 h_s2 hm7 dX12_fetchAll_106 (fun H locs S => ?_)
  exact t_X12_fetchAll_b107 C  K25 h_x1 h_x2 S (L.sub (jsub_s (jsub_s (jsub_s (jsub_n (jsub_n jsub_0)))))) hyp
set_option maxHeartbeats 4000000 in
set_option maxRecDepth 100000 in
theorem t_X12_fetchAll_b72 {p : Program} {l : Launch} {e : Env} {s : State} {mi : MethodId} {args : Array Value} {below : List Frame} {meth : Method} {c : Code} {D : va_G} {cy : Nat → ClassId} {B sz : Nat} {sh : jm_S} {res : jm_M} {N : Nat} {k25 : Nat → Int → Int → jm_M → Option jm_M} (C : jCx p s mi args meth c cX12_fetchAll 5 RX12 none D cy) (K25 : ∀ (a0 : Nat) (x1 : Int) (x2 : Int) , jIn x1 → jIn x2 → ∀ (m : jm_M) (H : Heap) (locs : List Loc) (ls : Array Slot), jHs D cy B sz sh (jA B sz) s.heap H locs m → jL ls [some (jR B a0), some (jI x1), some (jI x2), none, none] → k25 a0 x1 x2 m = some res → W p l e (jrm 3 0 0) s mi args below meth c H locs 0 0 (MQ below (jQc D cy B sz sh res none True) args s 0 0 (jA B sz)) (F0 mi 25 ls [])) {a0 : Nat} {x1 : Int} (h_x1 : jIn x1) {x2 : Int} (h_x2 : jIn x2) {x3 : Int} (h_x3 : jIn x3) {s0 : Int} (h_s0 : jIn s0) {s1 : Int} (h_s1 : jIn s1) {m : jm_M} {H : Heap} {locs : List Loc} {ls : Array Slot} (S : jHs D cy B sz sh (jA B sz) s.heap H locs m) (L : jL ls [some (jR B a0), some (jI x1), some (jI x2), some (jI x3), none]) (hyp : f_X12_fetchAll_b72 N sh k25 a0 x1 x2 x3 s0 s1 m = some res) : W p l e (jrm 3 0 0) s mi args below meth c H locs 0 0 (MQ below (jQc D cy B sz sh res none True) args s 0 0 (jA B sz)) (F0 mi 72 ls [jI s1, jI s0]) := by
  unfold f_X12_fetchAll_b72 at hyp
  refine jr_iadd (pc := 72) C dX12_fetchAll_72 ?_
  refine jr_istore (pc := 73) C L dX12_fetchAll_73 (Nat.le_of_ble_eq_true rfl) (fun ls L => ?_)
  have L : jL ls [some (jR B a0), some (jI x1), some (jI x2), some (jI x3), some (jI (jw (s0 + s1)))] := L
  refine jr_aload_n (pc := 75) C L dX12_fetchAll_75 rfl rfl ?_
  obtain ⟨v8, hv8, hyp⟩ := jbind hyp
  refine jr_getR (pc := 76) C S lf_X12_55 rfl hv8 dX12_fetchAll_76 ?_
  refine jr_iload_n (pc := 79) C L dX12_fetchAll_79 rfl rfl ?_
  refine jr_aload_n (pc := 80) C L dX12_fetchAll_80 rfl rfl ?_
  refine jr_iload (pc := 81) C L dX12_fetchAll_81 rfl ?_
  refine jr_aload_n (pc := 83) C L dX12_fetchAll_83 rfl rfl ?_
  obtain ⟨v9, hv9, hyp⟩ := jbind hyp
  refine jr_getR (pc := 84) C S lf_X12_55 rfl hv9 dX12_fetchAll_84 ?_
  refine jr_iload_n (pc := 87) C L dX12_fetchAll_87 rfl rfl ?_
  obtain ⟨v10, hv10, hyp⟩ := jbind hyp
  have iv10 := jra_in S hv10
  refine jr_ial (pc := 88) C S h_x3 hv10 dX12_fetchAll_88 ?_
  obtain ⟨u11, hu11, hyp⟩ := jbind hyp
  obtain ⟨q12, hq12, hyp⟩ := jbind hyp
  refine jr_callV_I (pc := 89) C S L (As := [jI (jw (s0 + s1)), jI v10]) (rest := [jI x3, jR B v8.toNat]) (c_X12_isBetter (m0 := m) (jIn_w _) iv10 hq12) mv_X12_isBetter ml_X12_153 rfl (jck_spec hu11) (by decide) rfl rfl rfl (by simp [jR_cat, jI_cat]) ⟨Nat.le_refl 0, Nat.le_refl 0⟩ dX12_fetchAll_89 (fun p13 H locs S => ?_)
  refine jr_if_eq (pc := 92) C p13 (tgt := 100) dX12_fetchAll_92 (by decide) (fun c14 => ?_) (fun c14 => ?_)
  · have hyp := (if_pos c14).symm.trans hyp
    refine jr_aload_n (pc := 100) C L dX12_fetchAll_100 rfl rfl ?_
    obtain ⟨v15, hv15, hyp⟩ := jbind hyp
    refine jr_getR (pc := 101) C S lf_X12_55 rfl hv15 dX12_fetchAll_101 ?_
    refine jr_iload_n (pc := 104) C L dX12_fetchAll_104 rfl rfl ?_
    obtain ⟨v16, hv16, hyp⟩ := jbind hyp
    have iv16 := jra_in S hv16
    refine jr_ial (pc := 105) C S h_x3 hv16 dX12_fetchAll_105 ?_
    exact t_X12_fetchAll_b106 C  K25 h_x1 h_x2 h_x3 iv16 S (L.sub (jsub_s (jsub_s (jsub_s (jsub_n (jsub_n jsub_0)))))) hyp
  · have hyp := (if_neg c14).symm.trans hyp
    refine jr_iload (pc := 95) C L dX12_fetchAll_95 rfl ?_
    refine jr_goto (pc := 97) C (tgt := 106) dX12_fetchAll_97 (by decide) ?_
    exact t_X12_fetchAll_b106 C  K25 h_x1 h_x2 h_x3 (jIn_w _) S (L.sub (jsub_s (jsub_s (jsub_s (jsub_n (jsub_n jsub_0)))))) hyp
set_option maxHeartbeats 4000000 in
set_option maxRecDepth 100000 in
theorem t_X12_fetchAll_b25 {p : Program} {l : Launch} {e : Env} {s : State} {mi : MethodId} {args : Array Value} {below : List Frame} {meth : Method} {c : Code} {D : va_G} {cy : Nat → ClassId} {B sz : Nat} {sh : jm_S} {res : jm_M} {N : Nat} {k25 : Nat → Int → Int → jm_M → Option jm_M} (C : jCx p s mi args meth c cX12_fetchAll 5 RX12 none D cy) (K25 : ∀ (a0 : Nat) (x1 : Int) (x2 : Int) , jIn x1 → jIn x2 → ∀ (m : jm_M) (H : Heap) (locs : List Loc) (ls : Array Slot), jHs D cy B sz sh (jA B sz) s.heap H locs m → jL ls [some (jR B a0), some (jI x1), some (jI x2), none, none] → k25 a0 x1 x2 m = some res → W p l e (jrm 3 0 0) s mi args below meth c H locs 0 0 (MQ below (jQc D cy B sz sh res none True) args s 0 0 (jA B sz)) (F0 mi 25 ls [])) {a0 : Nat} {x1 : Int} (h_x1 : jIn x1) {x2 : Int} (h_x2 : jIn x2) {m : jm_M} {H : Heap} {locs : List Loc} {ls : Array Slot} (S : jHs D cy B sz sh (jA B sz) s.heap H locs m) (L : jL ls [some (jR B a0), some (jI x1), some (jI x2), none, none]) (hyp : f_X12_fetchAll_b25 N sh k25 a0 x1 x2 m = some res) : W p l e (jrm 3 0 0) s mi args below meth c H locs 0 0 (MQ below (jQc D cy B sz sh res none True) args s 0 0 (jA B sz)) (F0 mi 25 ls []) := by
  unfold f_X12_fetchAll_b25 at hyp
  refine jr_iload_n (pc := 25) C L dX12_fetchAll_25 rfl rfl ?_
  refine jr_aload_n (pc := 26) C L dX12_fetchAll_26 rfl rfl ?_
  obtain ⟨v17, hv17, hyp⟩ := jbind hyp
  have iv17 := jrf_in S hv17
  refine jr_getI (pc := 27) C S lf_X12_147 rfl hv17 dX12_fetchAll_27 ?_
  refine jr_icmp_ge (pc := 30) C h_x2 iv17 (tgt := 113) dX12_fetchAll_30 (by decide) (fun c18 => ?_) (fun c18 => ?_)
  · have hyp := (if_pos c18).symm.trans hyp
    refine jr_aload_n (pc := 33) C L dX12_fetchAll_33 rfl rfl ?_
    obtain ⟨v19, hv19, hyp⟩ := jbind hyp
    refine jr_getR (pc := 34) C S lf_X12_34 rfl hv19 dX12_fetchAll_34 ?_
    refine jr_iload_n (pc := 37) C L dX12_fetchAll_37 rfl rfl ?_
    obtain ⟨v20, hv20, hyp⟩ := jbind hyp
    have iv20 := jra_in S hv20
    refine jr_ial (pc := 38) C S h_x2 hv20 dX12_fetchAll_38 ?_
    refine jr_if_lt (pc := 39) C iv20 (tgt := 107) dX12_fetchAll_39 (by decide) (fun c21 => ?_) (fun c21 => ?_)
    · have hyp := (if_pos c21).symm.trans hyp
      exact t_X12_fetchAll_b107 C  K25 h_x1 h_x2 S (L.sub (jsub_s (jsub_s (jsub_s (jsub_n (jsub_n jsub_0)))))) hyp
    · have hyp := (if_neg c21).symm.trans hyp
      refine jr_aload_n (pc := 42) C L dX12_fetchAll_42 rfl rfl ?_
      refine jr_iload_n (pc := 43) C L dX12_fetchAll_43 rfl rfl ?_
      refine jr_iload_n (pc := 44) C L dX12_fetchAll_44 rfl rfl ?_
      obtain ⟨u22, hu22, hyp⟩ := jbind hyp
      obtain ⟨q23, hq23, hyp⟩ := jbind hyp
      refine jr_callV_I (pc := 45) C S L (As := [jI x2, jI x1]) (rest := []) (c_X12_fetch h_x2 h_x1 hq23) mv_X12_fetch ml_X12_150 rfl (jck_spec hu22) (by decide) rfl rfl rfl (Nat.le_of_ble_eq_true rfl) ⟨Nat.le_refl 0, Nat.le_refl 0⟩ dX12_fetchAll_45 (fun p24 H locs S => ?_)
      refine jr_istore_n (pc := 48) C L dX12_fetchAll_48 rfl (Nat.le_of_ble_eq_true rfl) (fun ls L => ?_)
      have L : jL ls [some (jR B a0), some (jI x1), some (jI x2), some (jI q23.1), none] := L
      refine jr_aload_n (pc := 49) C L dX12_fetchAll_49 rfl rfl ?_
      obtain ⟨v25, hv25, hyp⟩ := jbind hyp
      refine jr_getR (pc := 50) C S lf_X12_34 rfl hv25 dX12_fetchAll_50 ?_
      refine jr_iload_n (pc := 53) C L dX12_fetchAll_53 rfl rfl ?_
      obtain ⟨v26, hv26, hyp⟩ := jbind hyp
      have iv26 := jra_in S hv26
      refine jr_ial (pc := 54) C S h_x2 hv26 dX12_fetchAll_54 ?_
      refine jr_aload_n (pc := 55) C L dX12_fetchAll_55 rfl rfl ?_
      obtain ⟨v27, hv27, hyp⟩ := jbind hyp
      have iv27 := jrf_in S hv27
      refine jr_getI (pc := 56) C S lf_X12_127 rfl hv27 dX12_fetchAll_56 ?_
      refine jr_if_eq (pc := 59) C iv27 (tgt := 66) dX12_fetchAll_59 (by decide) (fun c28 => ?_) (fun c28 => ?_)
      · have hyp := (if_pos c28).symm.trans hyp
        refine jr_aload_n (pc := 66) C L dX12_fetchAll_66 rfl rfl ?_
        obtain ⟨v29, hv29, hyp⟩ := jbind hyp
        refine jr_getR (pc := 67) C S lf_X12_7 rfl hv29 dX12_fetchAll_67 ?_
        refine jr_iconst (pc := 70) C dX12_fetchAll_70 ?_
        obtain ⟨v30, hv30, hyp⟩ := jbind hyp
        have iv30 := jra_in S hv30
        refine jr_ial (pc := 71) C S (show jIn 2 from ⟨by decide, by decide⟩) hv30 dX12_fetchAll_71 ?_
        exact t_X12_fetchAll_b72 C  K25 h_x1 h_x2 p24 iv26 iv30 S (L.sub (jsub_s (jsub_s (jsub_s (jsub_s (jsub_n jsub_0)))))) hyp
      · have hyp := (if_neg c28).symm.trans hyp
        refine jr_iconst (pc := 62) C dX12_fetchAll_62 ?_
        refine jr_goto (pc := 63) C (tgt := 72) dX12_fetchAll_63 (by decide) ?_
        exact t_X12_fetchAll_b72 C  K25 h_x1 h_x2 p24 iv26 (show jIn 1 from ⟨by decide, by decide⟩) S (L.sub (jsub_s (jsub_s (jsub_s (jsub_s (jsub_n jsub_0)))))) hyp
  · have hyp := (if_neg c18).symm.trans hyp
    refine jr_iconst (pc := 113) C dX12_fetchAll_113 ?_
    refine jr_istore_n (pc := 114) C L dX12_fetchAll_114 rfl (Nat.le_of_ble_eq_true rfl) (fun ls L => ?_)
    have L : jL ls [some (jR B a0), some (jI x1), some (jI 0), none, none] := L
    exact t_X12_fetchAll_l115 C   N a0 0 (show jIn 0 from ⟨by decide, by decide⟩) m _ _ _ S (L.sub (jsub_s (jsub_n (jsub_s (jsub_n (jsub_n jsub_0)))))) hyp
theorem t_X12_fetchAll_l25 {p : Program} {l : Launch} {e : Env} {s : State} {mi : MethodId} {args : Array Value} {below : List Frame} {meth : Method} {c : Code} {D : va_G} {cy : Nat → ClassId} {B sz : Nat} {sh : jm_S} {res : jm_M} {N : Nat} (C : jCx p s mi args meth c cX12_fetchAll 5 RX12 none D cy) : ∀ (n : Nat) (a0 : Nat) (x1 : Int) (x2 : Int), jIn x1 → jIn x2 → ∀ (m : jm_M) (H : Heap) (locs : List Loc) (ls : Array Slot), jHs D cy B sz sh (jA B sz) s.heap H locs m → jL ls [some (jR B a0), some (jI x1), some (jI x2), none, none] → f_X12_fetchAll_l25 N sh n a0 x1 x2 m = some res → W p l e (jrm 3 0 0) s mi args below meth c H locs 0 0 (MQ below (jQc D cy B sz sh res none True) args s 0 0 (jA B sz)) (F0 mi 25 ls []) := by
  intro n
  induction n with
  | zero => intro a0 x1 x2 h_x1 h_x2 m H locs ls S L hyp; cases hyp
  | succ n ih => intro a0 x1 x2 h_x1 h_x2 m H locs ls S L hyp; exact t_X12_fetchAll_b25 (N := N) C  ih h_x1 h_x2 S L hyp
set_option maxHeartbeats 4000000 in
set_option maxRecDepth 100000 in
theorem t_X12_fetchAll_b2 {p : Program} {l : Launch} {e : Env} {s : State} {mi : MethodId} {args : Array Value} {below : List Frame} {meth : Method} {c : Code} {D : va_G} {cy : Nat → ClassId} {B sz : Nat} {sh : jm_S} {res : jm_M} {N : Nat} {k2 : Nat → Int → Int → jm_M → Option jm_M} (C : jCx p s mi args meth c cX12_fetchAll 5 RX12 none D cy) (K2 : ∀ (a0 : Nat) (x1 : Int) (x2 : Int) , jIn x1 → jIn x2 → ∀ (m : jm_M) (H : Heap) (locs : List Loc) (ls : Array Slot), jHs D cy B sz sh (jA B sz) s.heap H locs m → jL ls [some (jR B a0), some (jI x1), some (jI x2), none, none] → k2 a0 x1 x2 m = some res → W p l e (jrm 3 0 0) s mi args below meth c H locs 0 0 (MQ below (jQc D cy B sz sh res none True) args s 0 0 (jA B sz)) (F0 mi 2 ls [])) {a0 : Nat} {x1 : Int} (h_x1 : jIn x1) {x2 : Int} (h_x2 : jIn x2) {m : jm_M} {H : Heap} {locs : List Loc} {ls : Array Slot} (S : jHs D cy B sz sh (jA B sz) s.heap H locs m) (L : jL ls [some (jR B a0), some (jI x1), some (jI x2), none, none]) (hyp : f_X12_fetchAll_b2 N sh k2 a0 x1 x2 m = some res) : W p l e (jrm 3 0 0) s mi args below meth c H locs 0 0 (MQ below (jQc D cy B sz sh res none True) args s 0 0 (jA B sz)) (F0 mi 2 ls []) := by
  unfold f_X12_fetchAll_b2 at hyp
  refine jr_iload_n (pc := 2) C L dX12_fetchAll_2 rfl rfl ?_
  refine jr_aload_n (pc := 3) C L dX12_fetchAll_3 rfl rfl ?_
  obtain ⟨v31, hv31, hyp⟩ := jbind hyp
  have iv31 := jrf_in S hv31
  refine jr_getI (pc := 4) C S lf_X12_147 rfl hv31 dX12_fetchAll_4 ?_
  refine jr_icmp_ge (pc := 7) C h_x2 iv31 (tgt := 23) dX12_fetchAll_7 (by decide) (fun c32 => ?_) (fun c32 => ?_)
  · have hyp := (if_pos c32).symm.trans hyp
    refine jr_aload_n (pc := 10) C L dX12_fetchAll_10 rfl rfl ?_
    obtain ⟨v33, hv33, hyp⟩ := jbind hyp
    refine jr_getR (pc := 11) C S lf_X12_55 rfl hv33 dX12_fetchAll_11 ?_
    refine jr_iload_n (pc := 14) C L dX12_fetchAll_14 rfl rfl ?_
    refine jr_iconst (pc := 15) C dX12_fetchAll_15 ?_
    obtain ⟨m34, hm34, hyp⟩ := jbind hyp
    refine jr_ias (pc := 16) C S h_x2 (show jIn (-1) from ⟨by decide, by decide⟩) hm34 dX12_fetchAll_16 (fun H locs S => ?_)
    refine jr_iinc (pc := 17) C L dX12_fetchAll_17 rfl (Nat.le_of_ble_eq_true rfl) (fun ls L => ?_)
    have L : jL ls [some (jR B a0), some (jI x1), some (jI (jw (x2 + 1))), none, none] := L
    refine jr_goto (pc := 20) C (tgt := 2) dX12_fetchAll_20 (by decide) ?_
    exact K2 a0 x1 (jw (x2 + 1)) h_x1 (jIn_w _) m34 _ _ _ S (L.sub (jsub_s (jsub_s (jsub_s (jsub_n (jsub_n jsub_0)))))) hyp
  · have hyp := (if_neg c32).symm.trans hyp
    refine jr_iconst (pc := 23) C dX12_fetchAll_23 ?_
    refine jr_istore_n (pc := 24) C L dX12_fetchAll_24 rfl (Nat.le_of_ble_eq_true rfl) (fun ls L => ?_)
    have L : jL ls [some (jR B a0), some (jI x1), some (jI 0), none, none] := L
    exact t_X12_fetchAll_l25 C   N a0 x1 0 h_x1 (show jIn 0 from ⟨by decide, by decide⟩) m _ _ _ S (L.sub (jsub_s (jsub_s (jsub_s (jsub_n (jsub_n jsub_0)))))) hyp
theorem t_X12_fetchAll_l2 {p : Program} {l : Launch} {e : Env} {s : State} {mi : MethodId} {args : Array Value} {below : List Frame} {meth : Method} {c : Code} {D : va_G} {cy : Nat → ClassId} {B sz : Nat} {sh : jm_S} {res : jm_M} {N : Nat} (C : jCx p s mi args meth c cX12_fetchAll 5 RX12 none D cy) : ∀ (n : Nat) (a0 : Nat) (x1 : Int) (x2 : Int), jIn x1 → jIn x2 → ∀ (m : jm_M) (H : Heap) (locs : List Loc) (ls : Array Slot), jHs D cy B sz sh (jA B sz) s.heap H locs m → jL ls [some (jR B a0), some (jI x1), some (jI x2), none, none] → f_X12_fetchAll_l2 N sh n a0 x1 x2 m = some res → W p l e (jrm 3 0 0) s mi args below meth c H locs 0 0 (MQ below (jQc D cy B sz sh res none True) args s 0 0 (jA B sz)) (F0 mi 2 ls []) := by
  intro n
  induction n with
  | zero => intro a0 x1 x2 h_x1 h_x2 m H locs ls S L hyp; cases hyp
  | succ n ih => intro a0 x1 x2 h_x1 h_x2 m H locs ls S L hyp; exact t_X12_fetchAll_b2 (N := N) C  ih h_x1 h_x2 S L hyp
set_option maxHeartbeats 4000000 in
set_option maxRecDepth 100000 in
theorem t_X12_fetchAll_e {p : Program} {l : Launch} {e : Env} {s : State} {mi : MethodId} {args : Array Value} {below : List Frame} {meth : Method} {c : Code} {D : va_G} {cy : Nat → ClassId} {B sz : Nat} {sh : jm_S} {res : jm_M} {N : Nat} (C : jCx p s mi args meth c cX12_fetchAll 5 RX12 none D cy) {a0 : Nat} {x1 : Int} (h_x1 : jIn x1) {m : jm_M} {H : Heap} {locs : List Loc} {ls : Array Slot} (S : jHs D cy B sz sh (jA B sz) s.heap H locs m) (L : jL ls [some (jR B a0), some (jI x1), none, none, none]) (hyp : f_X12_fetchAll N sh a0 x1 m = some res) : W p l e (jrm 3 0 0) s mi args below meth c H locs 0 0 (MQ below (jQc D cy B sz sh res none True) args s 0 0 (jA B sz)) (F0 mi 0 ls []) := by
  unfold f_X12_fetchAll at hyp
  refine jr_iconst (pc := 0) C dX12_fetchAll_0 ?_
  refine jr_istore_n (pc := 1) C L dX12_fetchAll_1 rfl (Nat.le_of_ble_eq_true rfl) (fun ls L => ?_)
  have L : jL ls [some (jR B a0), some (jI x1), some (jI 0), none, none] := L
  exact t_X12_fetchAll_l2 C   N a0 x1 0 h_x1 (show jIn 0 from ⟨by decide, by decide⟩) m _ _ _ S (L.sub (jsub_s (jsub_s (jsub_s (jsub_n (jsub_n jsub_0)))))) hyp
theorem c_X12_fetchAll {l : Launch} {D : va_G} {cy : Nat → ClassId} {B sz : Nat} {sh : jm_S} {res : jm_M} {N : Nat} {m : jm_M} {a0 : Nat} {x1 : Int} (h_x1 : jIn x1) (hyp : f_X12_fetchAll N sh a0 x1 m = some res) : jCt l D cy B sz sh 3 yX12_fetchAll cX12_fetchAll 5 none [jR B a0, jI x1] m none res True :=
  jc_of (by decide) (fun v h => by simp only [List.mem_cons, List.not_mem_nil, or_false] at h; rcases h with rfl | rfl <;> first | rfl | exact jR_cat _ _) (Nat.le_of_ble_eq_true rfl) (fun C S L => t_X12_fetchAll_e C  h_x1 S L hyp)
set_option maxHeartbeats 4000000 in
set_option maxRecDepth 100000 in
theorem t_X12_keep_b2 {p : Program} {l : Launch} {e : Env} {s : State} {mi : MethodId} {args : Array Value} {below : List Frame} {meth : Method} {c : Code} {D : va_G} {cy : Nat → ClassId} {B sz : Nat} {sh : jm_S} {res : jm_M} {N : Nat} {k2 : Nat → Nat → Int → Int → jm_M → Option jm_M} (C : jCx p s mi args meth c cX12_keep 4 RX12 none D cy) (K2 : ∀ (a0 : Nat) (a1 : Nat) (x2 : Int) (x3 : Int) , jIn x2 → jIn x3 → ∀ (m : jm_M) (H : Heap) (locs : List Loc) (ls : Array Slot), jHs D cy B sz sh (jA B sz) s.heap H locs m → jL ls [some (jR B a0), some (jR B a1), some (jI x2), some (jI x3)] → k2 a0 a1 x2 x3 m = some res → W p l e (jrm 0 0 0) s mi args below meth c H locs 0 0 (MQ below (jQc D cy B sz sh res none True) args s 0 0 (jA B sz)) (F0 mi 2 ls [])) {a0 : Nat} {a1 : Nat} {x2 : Int} (h_x2 : jIn x2) {x3 : Int} (h_x3 : jIn x3) {m : jm_M} {H : Heap} {locs : List Loc} {ls : Array Slot} (S : jHs D cy B sz sh (jA B sz) s.heap H locs m) (L : jL ls [some (jR B a0), some (jR B a1), some (jI x2), some (jI x3)]) (hyp : f_X12_keep_b2 N sh k2 a0 a1 x2 x3 m = some res) : W p l e (jrm 0 0 0) s mi args below meth c H locs 0 0 (MQ below (jQc D cy B sz sh res none True) args s 0 0 (jA B sz)) (F0 mi 2 ls []) := by
  unfold f_X12_keep_b2 at hyp
  refine jr_iload_n (pc := 2) C L dX12_keep_2 rfl rfl ?_
  refine jr_aload_n (pc := 3) C L dX12_keep_3 rfl rfl ?_
  obtain ⟨v1, hv1, hyp⟩ := jbind hyp
  have iv1 := jrf_in S hv1
  refine jr_getI (pc := 4) C S lf_X12_147 rfl hv1 dX12_keep_4 ?_
  refine jr_icmp_ge (pc := 7) C h_x3 iv1 (tgt := 31) dX12_keep_7 (by decide) (fun c2 => ?_) (fun c2 => ?_)
  · have hyp := (if_pos c2).symm.trans hyp
    refine jr_aload_n (pc := 10) C L dX12_keep_10 rfl rfl ?_
    refine jr_sipush (pc := 11) C dX12_keep_11 (by decide) ?_
    refine jr_iload_n (pc := 14) C L dX12_keep_14 rfl rfl ?_
    refine jr_imul (pc := 15) C dX12_keep_15 ?_
    refine jr_iload_n (pc := 16) C L dX12_keep_16 rfl rfl ?_
    refine jr_iadd (pc := 17) C dX12_keep_17 ?_
    refine jr_aload_n (pc := 18) C L dX12_keep_18 rfl rfl ?_
    obtain ⟨v3, hv3, hyp⟩ := jbind hyp
    refine jr_getR (pc := 19) C S lf_X12_34 rfl hv3 dX12_keep_19 ?_
    refine jr_iload_n (pc := 22) C L dX12_keep_22 rfl rfl ?_
    obtain ⟨v4, hv4, hyp⟩ := jbind hyp
    have iv4 := jra_in S hv4
    refine jr_ial (pc := 23) C S h_x3 hv4 dX12_keep_23 ?_
    obtain ⟨m5, hm5, hyp⟩ := jbind hyp
    refine jr_ias (pc := 24) C S (jIn_w _) iv4 hm5 dX12_keep_24 (fun H locs S => ?_)
    refine jr_iinc (pc := 25) C L dX12_keep_25 rfl (Nat.le_of_ble_eq_true rfl) (fun ls L => ?_)
    have L : jL ls [some (jR B a0), some (jR B a1), some (jI x2), some (jI (jw (x3 + 1)))] := L
    refine jr_goto (pc := 28) C (tgt := 2) dX12_keep_28 (by decide) ?_
    exact K2 a0 a1 x2 (jw (x3 + 1)) h_x2 (jIn_w _) m5 _ _ _ S (L.sub (jsub_s (jsub_s (jsub_s (jsub_s jsub_0))))) hyp
  · have hyp := (if_neg c2).symm.trans hyp
    cases hyp
    exact jr_vret C S trivial dX12_keep_31
theorem t_X12_keep_l2 {p : Program} {l : Launch} {e : Env} {s : State} {mi : MethodId} {args : Array Value} {below : List Frame} {meth : Method} {c : Code} {D : va_G} {cy : Nat → ClassId} {B sz : Nat} {sh : jm_S} {res : jm_M} {N : Nat} (C : jCx p s mi args meth c cX12_keep 4 RX12 none D cy) : ∀ (n : Nat) (a0 : Nat) (a1 : Nat) (x2 : Int) (x3 : Int), jIn x2 → jIn x3 → ∀ (m : jm_M) (H : Heap) (locs : List Loc) (ls : Array Slot), jHs D cy B sz sh (jA B sz) s.heap H locs m → jL ls [some (jR B a0), some (jR B a1), some (jI x2), some (jI x3)] → f_X12_keep_l2 N sh n a0 a1 x2 x3 m = some res → W p l e (jrm 0 0 0) s mi args below meth c H locs 0 0 (MQ below (jQc D cy B sz sh res none True) args s 0 0 (jA B sz)) (F0 mi 2 ls []) := by
  intro n
  induction n with
  | zero => intro a0 a1 x2 x3 h_x2 h_x3 m H locs ls S L hyp; cases hyp
  | succ n ih => intro a0 a1 x2 x3 h_x2 h_x3 m H locs ls S L hyp; exact t_X12_keep_b2 (N := N) C  ih h_x2 h_x3 S L hyp
set_option maxHeartbeats 4000000 in
set_option maxRecDepth 100000 in
theorem t_X12_keep_e {p : Program} {l : Launch} {e : Env} {s : State} {mi : MethodId} {args : Array Value} {below : List Frame} {meth : Method} {c : Code} {D : va_G} {cy : Nat → ClassId} {B sz : Nat} {sh : jm_S} {res : jm_M} {N : Nat} (C : jCx p s mi args meth c cX12_keep 4 RX12 none D cy) {a0 : Nat} {a1 : Nat} {x2 : Int} (h_x2 : jIn x2) {m : jm_M} {H : Heap} {locs : List Loc} {ls : Array Slot} (S : jHs D cy B sz sh (jA B sz) s.heap H locs m) (L : jL ls [some (jR B a0), some (jR B a1), some (jI x2), none]) (hyp : f_X12_keep N sh a0 a1 x2 m = some res) : W p l e (jrm 0 0 0) s mi args below meth c H locs 0 0 (MQ below (jQc D cy B sz sh res none True) args s 0 0 (jA B sz)) (F0 mi 0 ls []) := by
  unfold f_X12_keep at hyp
  refine jr_iconst (pc := 0) C dX12_keep_0 ?_
  refine jr_istore_n (pc := 1) C L dX12_keep_1 rfl (Nat.le_of_ble_eq_true rfl) (fun ls L => ?_)
  have L : jL ls [some (jR B a0), some (jR B a1), some (jI x2), some (jI 0)] := L
  exact t_X12_keep_l2 C   N a0 a1 x2 0 h_x2 (show jIn 0 from ⟨by decide, by decide⟩) m _ _ _ S (L.sub (jsub_s (jsub_s (jsub_s (jsub_s jsub_0))))) hyp
theorem c_X12_keep {l : Launch} {D : va_G} {cy : Nat → ClassId} {B sz : Nat} {sh : jm_S} {res : jm_M} {N : Nat} {m : jm_M} {a0 : Nat} {a1 : Nat} {x2 : Int} (h_x2 : jIn x2) (hyp : f_X12_keep N sh a0 a1 x2 m = some res) : jCt l D cy B sz sh 0 yX12_keep cX12_keep 4 none [jR B a0, jR B a1, jI x2] m none res True :=
  jc_of (by decide) (fun v h => by simp only [List.mem_cons, List.not_mem_nil, or_false] at h; rcases h with rfl | rfl | rfl <;> first | rfl | exact jR_cat _ _) (Nat.le_of_ble_eq_true rfl) (fun C S L => t_X12_keep_e C  h_x2 S L hyp)
set_option maxHeartbeats 4000000 in
set_option maxRecDepth 100000 in
theorem t_X12_joinFrom_b52 {p : Program} {l : Launch} {e : Env} {s : State} {mi : MethodId} {args : Array Value} {below : List Frame} {meth : Method} {c : Code} {D : va_G} {cy : Nat → ClassId} {B sz : Nat} {sh : jm_S} {res : jm_M} {N : Nat} {k2 : Nat → Nat → Int → Int → jm_M → Option jm_M} (C : jCx p s mi args meth c cX12_joinFrom 5 RX12 none D cy) (K2 : ∀ (a0 : Nat) (a1 : Nat) (x2 : Int) (x3 : Int) , jIn x2 → jIn x3 → ∀ (m : jm_M) (H : Heap) (locs : List Loc) (ls : Array Slot), jHs D cy B sz sh (jA B sz) s.heap H locs m → jL ls [some (jR B a0), some (jR B a1), some (jI x2), some (jI x3), none] → k2 a0 a1 x2 x3 m = some res → W p l e (jrm 1 0 0) s mi args below meth c H locs 0 0 (MQ below (jQc D cy B sz sh res none True) args s 0 0 (jA B sz)) (F0 mi 2 ls [])) {a0 : Nat} {a1 : Nat} {x2 : Int} (h_x2 : jIn x2) {x3 : Int} (h_x3 : jIn x3) {r0 : Nat} {s1 : Int} (h_s1 : jIn s1) {s2 : Int} (h_s2 : jIn s2) {m : jm_M} {H : Heap} {locs : List Loc} {ls : Array Slot} (S : jHs D cy B sz sh (jA B sz) s.heap H locs m) (L : jL ls [some (jR B a0), some (jR B a1), some (jI x2), some (jI x3), none]) (hyp : f_X12_joinFrom_b52 N sh k2 a0 a1 x2 x3 r0 s1 s2 m = some res) : W p l e (jrm 1 0 0) s mi args below meth c H locs 0 0 (MQ below (jQc D cy B sz sh res none True) args s 0 0 (jA B sz)) (F0 mi 52 ls [jI s2, jI s1, jR B r0]) := by
  unfold f_X12_joinFrom_b52 at hyp
  obtain ⟨m1, hm1, hyp⟩ := jbind hyp
  refine jr_ias (pc := 52) C S h_s1 h_s2 hm1 dX12_joinFrom_52 (fun H locs S => ?_)
  refine jr_iinc (pc := 53) C L dX12_joinFrom_53 rfl (Nat.le_of_ble_eq_true rfl) (fun ls L => ?_)
  have L : jL ls [some (jR B a0), some (jR B a1), some (jI x2), some (jI (jw (x3 + 1))), none] := L
  refine jr_goto (pc := 56) C (tgt := 2) dX12_joinFrom_56 (by decide) ?_
  exact K2 a0 a1 x2 (jw (x3 + 1)) h_x2 (jIn_w _) m1 _ _ _ S (L.sub (jsub_s (jsub_s (jsub_s (jsub_s (jsub_n jsub_0)))))) hyp
set_option maxHeartbeats 4000000 in
set_option maxRecDepth 100000 in
theorem t_X12_joinFrom_b2 {p : Program} {l : Launch} {e : Env} {s : State} {mi : MethodId} {args : Array Value} {below : List Frame} {meth : Method} {c : Code} {D : va_G} {cy : Nat → ClassId} {B sz : Nat} {sh : jm_S} {res : jm_M} {N : Nat} {k2 : Nat → Nat → Int → Int → jm_M → Option jm_M} (C : jCx p s mi args meth c cX12_joinFrom 5 RX12 none D cy) (K2 : ∀ (a0 : Nat) (a1 : Nat) (x2 : Int) (x3 : Int) , jIn x2 → jIn x3 → ∀ (m : jm_M) (H : Heap) (locs : List Loc) (ls : Array Slot), jHs D cy B sz sh (jA B sz) s.heap H locs m → jL ls [some (jR B a0), some (jR B a1), some (jI x2), some (jI x3), none] → k2 a0 a1 x2 x3 m = some res → W p l e (jrm 1 0 0) s mi args below meth c H locs 0 0 (MQ below (jQc D cy B sz sh res none True) args s 0 0 (jA B sz)) (F0 mi 2 ls [])) {a0 : Nat} {a1 : Nat} {x2 : Int} (h_x2 : jIn x2) {x3 : Int} (h_x3 : jIn x3) {m : jm_M} {H : Heap} {locs : List Loc} {ls : Array Slot} (S : jHs D cy B sz sh (jA B sz) s.heap H locs m) (L : jL ls [some (jR B a0), some (jR B a1), some (jI x2), some (jI x3), none]) (hyp : f_X12_joinFrom_b2 N sh k2 a0 a1 x2 x3 m = some res) : W p l e (jrm 1 0 0) s mi args below meth c H locs 0 0 (MQ below (jQc D cy B sz sh res none True) args s 0 0 (jA B sz)) (F0 mi 2 ls []) := by
  unfold f_X12_joinFrom_b2 at hyp
  refine jr_iload_n (pc := 2) C L dX12_joinFrom_2 rfl rfl ?_
  refine jr_aload_n (pc := 3) C L dX12_joinFrom_3 rfl rfl ?_
  obtain ⟨v2, hv2, hyp⟩ := jbind hyp
  have iv2 := jrf_in S hv2
  refine jr_getI (pc := 4) C S lf_X12_147 rfl hv2 dX12_joinFrom_4 ?_
  refine jr_icmp_ge (pc := 7) C h_x3 iv2 (tgt := 59) dX12_joinFrom_7 (by decide) (fun c3 => ?_) (fun c3 => ?_)
  · have hyp := (if_pos c3).symm.trans hyp
    refine jr_aload_n (pc := 10) C L dX12_joinFrom_10 rfl rfl ?_
    refine jr_sipush (pc := 11) C dX12_joinFrom_11 (by decide) ?_
    refine jr_iload_n (pc := 14) C L dX12_joinFrom_14 rfl rfl ?_
    refine jr_imul (pc := 15) C dX12_joinFrom_15 ?_
    refine jr_iload_n (pc := 16) C L dX12_joinFrom_16 rfl rfl ?_
    refine jr_iadd (pc := 17) C dX12_joinFrom_17 ?_
    obtain ⟨v4, hv4, hyp⟩ := jbind hyp
    have iv4 := jra_in S hv4
    refine jr_ial (pc := 18) C S (jIn_w _) hv4 dX12_joinFrom_18 ?_
    refine jr_istore (pc := 19) C L dX12_joinFrom_19 (Nat.le_of_ble_eq_true rfl) (fun ls L => ?_)
    have L : jL ls [some (jR B a0), some (jR B a1), some (jI x2), some (jI x3), some (jI v4)] := L
    refine jr_aload_n (pc := 21) C L dX12_joinFrom_21 rfl rfl ?_
    obtain ⟨v5, hv5, hyp⟩ := jbind hyp
    refine jr_getR (pc := 22) C S lf_X12_34 rfl hv5 dX12_joinFrom_22 ?_
    refine jr_iload_n (pc := 25) C L dX12_joinFrom_25 rfl rfl ?_
    refine jr_aload_n (pc := 26) C L dX12_joinFrom_26 rfl rfl ?_
    refine jr_iload (pc := 27) C L dX12_joinFrom_27 rfl ?_
    refine jr_aload_n (pc := 29) C L dX12_joinFrom_29 rfl rfl ?_
    obtain ⟨v6, hv6, hyp⟩ := jbind hyp
    refine jr_getR (pc := 30) C S lf_X12_34 rfl hv6 dX12_joinFrom_30 ?_
    refine jr_iload_n (pc := 33) C L dX12_joinFrom_33 rfl rfl ?_
    obtain ⟨v7, hv7, hyp⟩ := jbind hyp
    have iv7 := jra_in S hv7
    refine jr_ial (pc := 34) C S h_x3 hv7 dX12_joinFrom_34 ?_
    obtain ⟨u8, hu8, hyp⟩ := jbind hyp
    obtain ⟨q9, hq9, hyp⟩ := jbind hyp
    refine jr_callV_I (pc := 35) C S L (As := [jI v4, jI v7]) (rest := [jI x3, jR B v5.toNat]) (c_X12_isBetter (m0 := m) iv4 iv7 hq9) mv_X12_isBetter ml_X12_153 rfl (jck_spec hu8) (by decide) rfl rfl rfl (by simp [jR_cat, jI_cat]) ⟨Nat.le_refl 0, Nat.le_refl 0⟩ dX12_joinFrom_35 (fun p10 H locs S => ?_)
    refine jr_if_eq (pc := 38) C p10 (tgt := 46) dX12_joinFrom_38 (by decide) (fun c11 => ?_) (fun c11 => ?_)
    · have hyp := (if_pos c11).symm.trans hyp
      refine jr_aload_n (pc := 46) C L dX12_joinFrom_46 rfl rfl ?_
      obtain ⟨v12, hv12, hyp⟩ := jbind hyp
      refine jr_getR (pc := 47) C S lf_X12_34 rfl hv12 dX12_joinFrom_47 ?_
      refine jr_iload_n (pc := 50) C L dX12_joinFrom_50 rfl rfl ?_
      obtain ⟨v13, hv13, hyp⟩ := jbind hyp
      have iv13 := jra_in S hv13
      refine jr_ial (pc := 51) C S h_x3 hv13 dX12_joinFrom_51 ?_
      exact t_X12_joinFrom_b52 C  K2 h_x2 h_x3 h_x3 iv13 S (L.sub (jsub_s (jsub_s (jsub_s (jsub_s (jsub_n jsub_0)))))) hyp
    · have hyp := (if_neg c11).symm.trans hyp
      refine jr_iload (pc := 41) C L dX12_joinFrom_41 rfl ?_
      refine jr_goto (pc := 43) C (tgt := 52) dX12_joinFrom_43 (by decide) ?_
      exact t_X12_joinFrom_b52 C  K2 h_x2 h_x3 h_x3 iv4 S (L.sub (jsub_s (jsub_s (jsub_s (jsub_s (jsub_n jsub_0)))))) hyp
  · have hyp := (if_neg c3).symm.trans hyp
    cases hyp
    exact jr_vret C S trivial dX12_joinFrom_59
theorem t_X12_joinFrom_l2 {p : Program} {l : Launch} {e : Env} {s : State} {mi : MethodId} {args : Array Value} {below : List Frame} {meth : Method} {c : Code} {D : va_G} {cy : Nat → ClassId} {B sz : Nat} {sh : jm_S} {res : jm_M} {N : Nat} (C : jCx p s mi args meth c cX12_joinFrom 5 RX12 none D cy) : ∀ (n : Nat) (a0 : Nat) (a1 : Nat) (x2 : Int) (x3 : Int), jIn x2 → jIn x3 → ∀ (m : jm_M) (H : Heap) (locs : List Loc) (ls : Array Slot), jHs D cy B sz sh (jA B sz) s.heap H locs m → jL ls [some (jR B a0), some (jR B a1), some (jI x2), some (jI x3), none] → f_X12_joinFrom_l2 N sh n a0 a1 x2 x3 m = some res → W p l e (jrm 1 0 0) s mi args below meth c H locs 0 0 (MQ below (jQc D cy B sz sh res none True) args s 0 0 (jA B sz)) (F0 mi 2 ls []) := by
  intro n
  induction n with
  | zero => intro a0 a1 x2 x3 h_x2 h_x3 m H locs ls S L hyp; cases hyp
  | succ n ih => intro a0 a1 x2 x3 h_x2 h_x3 m H locs ls S L hyp; exact t_X12_joinFrom_b2 (N := N) C  ih h_x2 h_x3 S L hyp
set_option maxHeartbeats 4000000 in
set_option maxRecDepth 100000 in
theorem t_X12_joinFrom_e {p : Program} {l : Launch} {e : Env} {s : State} {mi : MethodId} {args : Array Value} {below : List Frame} {meth : Method} {c : Code} {D : va_G} {cy : Nat → ClassId} {B sz : Nat} {sh : jm_S} {res : jm_M} {N : Nat} (C : jCx p s mi args meth c cX12_joinFrom 5 RX12 none D cy) {a0 : Nat} {a1 : Nat} {x2 : Int} (h_x2 : jIn x2) {m : jm_M} {H : Heap} {locs : List Loc} {ls : Array Slot} (S : jHs D cy B sz sh (jA B sz) s.heap H locs m) (L : jL ls [some (jR B a0), some (jR B a1), some (jI x2), none, none]) (hyp : f_X12_joinFrom N sh a0 a1 x2 m = some res) : W p l e (jrm 1 0 0) s mi args below meth c H locs 0 0 (MQ below (jQc D cy B sz sh res none True) args s 0 0 (jA B sz)) (F0 mi 0 ls []) := by
  unfold f_X12_joinFrom at hyp
  refine jr_iconst (pc := 0) C dX12_joinFrom_0 ?_
  refine jr_istore_n (pc := 1) C L dX12_joinFrom_1 rfl (Nat.le_of_ble_eq_true rfl) (fun ls L => ?_)
  have L : jL ls [some (jR B a0), some (jR B a1), some (jI x2), some (jI 0), none] := L
  exact t_X12_joinFrom_l2 C   N a0 a1 x2 0 h_x2 (show jIn 0 from ⟨by decide, by decide⟩) m _ _ _ S (L.sub (jsub_s (jsub_s (jsub_s (jsub_s (jsub_n jsub_0)))))) hyp
theorem c_X12_joinFrom {l : Launch} {D : va_G} {cy : Nat → ClassId} {B sz : Nat} {sh : jm_S} {res : jm_M} {N : Nat} {m : jm_M} {a0 : Nat} {a1 : Nat} {x2 : Int} (h_x2 : jIn x2) (hyp : f_X12_joinFrom N sh a0 a1 x2 m = some res) : jCt l D cy B sz sh 1 yX12_joinFrom cX12_joinFrom 5 none [jR B a0, jR B a1, jI x2] m none res True :=
  jc_of (by decide) (fun v h => by simp only [List.mem_cons, List.not_mem_nil, or_false] at h; rcases h with rfl | rfl | rfl <;> first | rfl | exact jR_cat _ _) (Nat.le_of_ble_eq_true rfl) (fun C S L => t_X12_joinFrom_e C  h_x2 S L hyp)
set_option maxHeartbeats 4000000 in
set_option maxRecDepth 100000 in
theorem t_X12_copyFrom_b2 {p : Program} {l : Launch} {e : Env} {s : State} {mi : MethodId} {args : Array Value} {below : List Frame} {meth : Method} {c : Code} {D : va_G} {cy : Nat → ClassId} {B sz : Nat} {sh : jm_S} {res : jm_M} {N : Nat} {k2 : Nat → Nat → Int → Int → jm_M → Option jm_M} (C : jCx p s mi args meth c cX12_copyFrom 4 RX12 none D cy) (K2 : ∀ (a0 : Nat) (a1 : Nat) (x2 : Int) (x3 : Int) , jIn x2 → jIn x3 → ∀ (m : jm_M) (H : Heap) (locs : List Loc) (ls : Array Slot), jHs D cy B sz sh (jA B sz) s.heap H locs m → jL ls [some (jR B a0), some (jR B a1), some (jI x2), some (jI x3)] → k2 a0 a1 x2 x3 m = some res → W p l e (jrm 0 0 0) s mi args below meth c H locs 0 0 (MQ below (jQc D cy B sz sh res none True) args s 0 0 (jA B sz)) (F0 mi 2 ls [])) {a0 : Nat} {a1 : Nat} {x2 : Int} (h_x2 : jIn x2) {x3 : Int} (h_x3 : jIn x3) {m : jm_M} {H : Heap} {locs : List Loc} {ls : Array Slot} (S : jHs D cy B sz sh (jA B sz) s.heap H locs m) (L : jL ls [some (jR B a0), some (jR B a1), some (jI x2), some (jI x3)]) (hyp : f_X12_copyFrom_b2 N sh k2 a0 a1 x2 x3 m = some res) : W p l e (jrm 0 0 0) s mi args below meth c H locs 0 0 (MQ below (jQc D cy B sz sh res none True) args s 0 0 (jA B sz)) (F0 mi 2 ls []) := by
  unfold f_X12_copyFrom_b2 at hyp
  refine jr_iload_n (pc := 2) C L dX12_copyFrom_2 rfl rfl ?_
  refine jr_aload_n (pc := 3) C L dX12_copyFrom_3 rfl rfl ?_
  obtain ⟨v1, hv1, hyp⟩ := jbind hyp
  have iv1 := jrf_in S hv1
  refine jr_getI (pc := 4) C S lf_X12_147 rfl hv1 dX12_copyFrom_4 ?_
  refine jr_icmp_ge (pc := 7) C h_x3 iv1 (tgt := 31) dX12_copyFrom_7 (by decide) (fun c2 => ?_) (fun c2 => ?_)
  · have hyp := (if_pos c2).symm.trans hyp
    refine jr_aload_n (pc := 10) C L dX12_copyFrom_10 rfl rfl ?_
    obtain ⟨v3, hv3, hyp⟩ := jbind hyp
    refine jr_getR (pc := 11) C S lf_X12_34 rfl hv3 dX12_copyFrom_11 ?_
    refine jr_iload_n (pc := 14) C L dX12_copyFrom_14 rfl rfl ?_
    refine jr_aload_n (pc := 15) C L dX12_copyFrom_15 rfl rfl ?_
    refine jr_sipush (pc := 16) C dX12_copyFrom_16 (by decide) ?_
    refine jr_iload_n (pc := 19) C L dX12_copyFrom_19 rfl rfl ?_
    refine jr_imul (pc := 20) C dX12_copyFrom_20 ?_
    refine jr_iload_n (pc := 21) C L dX12_copyFrom_21 rfl rfl ?_
    refine jr_iadd (pc := 22) C dX12_copyFrom_22 ?_
    obtain ⟨v4, hv4, hyp⟩ := jbind hyp
    have iv4 := jra_in S hv4
    refine jr_ial (pc := 23) C S (jIn_w _) hv4 dX12_copyFrom_23 ?_
    obtain ⟨m5, hm5, hyp⟩ := jbind hyp
    refine jr_ias (pc := 24) C S h_x3 iv4 hm5 dX12_copyFrom_24 (fun H locs S => ?_)
    refine jr_iinc (pc := 25) C L dX12_copyFrom_25 rfl (Nat.le_of_ble_eq_true rfl) (fun ls L => ?_)
    have L : jL ls [some (jR B a0), some (jR B a1), some (jI x2), some (jI (jw (x3 + 1)))] := L
    refine jr_goto (pc := 28) C (tgt := 2) dX12_copyFrom_28 (by decide) ?_
    exact K2 a0 a1 x2 (jw (x3 + 1)) h_x2 (jIn_w _) m5 _ _ _ S (L.sub (jsub_s (jsub_s (jsub_s (jsub_s jsub_0))))) hyp
  · have hyp := (if_neg c2).symm.trans hyp
    cases hyp
    exact jr_vret C S trivial dX12_copyFrom_31
theorem t_X12_copyFrom_l2 {p : Program} {l : Launch} {e : Env} {s : State} {mi : MethodId} {args : Array Value} {below : List Frame} {meth : Method} {c : Code} {D : va_G} {cy : Nat → ClassId} {B sz : Nat} {sh : jm_S} {res : jm_M} {N : Nat} (C : jCx p s mi args meth c cX12_copyFrom 4 RX12 none D cy) : ∀ (n : Nat) (a0 : Nat) (a1 : Nat) (x2 : Int) (x3 : Int), jIn x2 → jIn x3 → ∀ (m : jm_M) (H : Heap) (locs : List Loc) (ls : Array Slot), jHs D cy B sz sh (jA B sz) s.heap H locs m → jL ls [some (jR B a0), some (jR B a1), some (jI x2), some (jI x3)] → f_X12_copyFrom_l2 N sh n a0 a1 x2 x3 m = some res → W p l e (jrm 0 0 0) s mi args below meth c H locs 0 0 (MQ below (jQc D cy B sz sh res none True) args s 0 0 (jA B sz)) (F0 mi 2 ls []) := by
  intro n
  induction n with
  | zero => intro a0 a1 x2 x3 h_x2 h_x3 m H locs ls S L hyp; cases hyp
  | succ n ih => intro a0 a1 x2 x3 h_x2 h_x3 m H locs ls S L hyp; exact t_X12_copyFrom_b2 (N := N) C  ih h_x2 h_x3 S L hyp
set_option maxHeartbeats 4000000 in
set_option maxRecDepth 100000 in
theorem t_X12_copyFrom_e {p : Program} {l : Launch} {e : Env} {s : State} {mi : MethodId} {args : Array Value} {below : List Frame} {meth : Method} {c : Code} {D : va_G} {cy : Nat → ClassId} {B sz : Nat} {sh : jm_S} {res : jm_M} {N : Nat} (C : jCx p s mi args meth c cX12_copyFrom 4 RX12 none D cy) {a0 : Nat} {a1 : Nat} {x2 : Int} (h_x2 : jIn x2) {m : jm_M} {H : Heap} {locs : List Loc} {ls : Array Slot} (S : jHs D cy B sz sh (jA B sz) s.heap H locs m) (L : jL ls [some (jR B a0), some (jR B a1), some (jI x2), none]) (hyp : f_X12_copyFrom N sh a0 a1 x2 m = some res) : W p l e (jrm 0 0 0) s mi args below meth c H locs 0 0 (MQ below (jQc D cy B sz sh res none True) args s 0 0 (jA B sz)) (F0 mi 0 ls []) := by
  unfold f_X12_copyFrom at hyp
  refine jr_iconst (pc := 0) C dX12_copyFrom_0 ?_
  refine jr_istore_n (pc := 1) C L dX12_copyFrom_1 rfl (Nat.le_of_ble_eq_true rfl) (fun ls L => ?_)
  have L : jL ls [some (jR B a0), some (jR B a1), some (jI x2), some (jI 0)] := L
  exact t_X12_copyFrom_l2 C   N a0 a1 x2 0 h_x2 (show jIn 0 from ⟨by decide, by decide⟩) m _ _ _ S (L.sub (jsub_s (jsub_s (jsub_s (jsub_s jsub_0))))) hyp
theorem c_X12_copyFrom {l : Launch} {D : va_G} {cy : Nat → ClassId} {B sz : Nat} {sh : jm_S} {res : jm_M} {N : Nat} {m : jm_M} {a0 : Nat} {a1 : Nat} {x2 : Int} (h_x2 : jIn x2) (hyp : f_X12_copyFrom N sh a0 a1 x2 m = some res) : jCt l D cy B sz sh 0 yX12_copyFrom cX12_copyFrom 4 none [jR B a0, jR B a1, jI x2] m none res True :=
  jc_of (by decide) (fun v h => by simp only [List.mem_cons, List.not_mem_nil, or_false] at h; rcases h with rfl | rfl | rfl <;> first | rfl | exact jR_cat _ _) (Nat.le_of_ble_eq_true rfl) (fun C S L => t_X12_copyFrom_e C  h_x2 S L hyp)
set_option maxHeartbeats 4000000 in
set_option maxRecDepth 100000 in
theorem t_X12_digit_b49 {p : Program} {l : Launch} {e : Env} {s : State} {mi : MethodId} {args : Array Value} {below : List Frame} {meth : Method} {c : Code} {D : va_G} {cy : Nat → ClassId} {B sz : Nat} {sh : jm_S} {res : (Int × jm_M)} (C : jCx p s mi args meth c cX12_digit 2 RX12 (some .int) D cy) {r0 : Nat} {s1 : Int} (h_s1 : jIn s1) {m : jm_M} {H : Heap} {locs : List Loc} {ls : Array Slot} (S : jHs D cy B sz sh (jA B sz) s.heap H locs m) (L : jL ls [none, none]) (hyp : f_X12_digit_b49 sh r0 s1 m = some res) : W p l e (jrm 0 0 0) s mi args below meth c H locs 0 0 (MQ below (jQc D cy B sz sh res.2 (some (jI res.1)) (jIn res.1)) args s 0 0 (jA B sz)) (F0 mi 49 ls [jI s1, jR B r0]) := by
  unfold f_X12_digit_b49 at hyp
  obtain ⟨m1, hm1, hyp⟩ := jbind hyp
  refine jr_putI (pc := 49) C S lf_X12_162 fp_X12_23 rfl h_s1 hm1 dX12_digit_49 (fun H locs S => ?_)
  refine jr_bipush (pc := 52) C dX12_digit_52 (by decide) ?_
  cases hyp
  exact jr_iret C S (show jIn (-6) from ⟨by decide, by decide⟩) dX12_digit_54
set_option maxHeartbeats 4000000 in
set_option maxRecDepth 100000 in
theorem t_X12_digit_e {p : Program} {l : Launch} {e : Env} {s : State} {mi : MethodId} {args : Array Value} {below : List Frame} {meth : Method} {c : Code} {D : va_G} {cy : Nat → ClassId} {B sz : Nat} {sh : jm_S} {res : (Int × jm_M)} (C : jCx p s mi args meth c cX12_digit 2 RX12 (some .int) D cy) {a0 : Nat} {x1 : Int} (h_x1 : jIn x1) {m : jm_M} {H : Heap} {locs : List Loc} {ls : Array Slot} (S : jHs D cy B sz sh (jA B sz) s.heap H locs m) (L : jL ls [some (jR B a0), some (jI x1)]) (hyp : f_X12_digit sh a0 x1 m = some res) : W p l e (jrm 0 0 0) s mi args below meth c H locs 0 0 (MQ below (jQc D cy B sz sh res.2 (some (jI res.1)) (jIn res.1)) args s 0 0 (jA B sz)) (F0 mi 0 ls []) := by
  unfold f_X12_digit at hyp
  refine jr_aload_n (pc := 0) C L dX12_digit_0 rfl rfl ?_
  obtain ⟨v2, hv2, hyp⟩ := jbind hyp
  have iv2 := jrf_in S hv2
  refine jr_getI (pc := 1) C S lf_X12_156 rfl hv2 dX12_digit_1 ?_
  refine jr_aload_n (pc := 4) C L dX12_digit_4 rfl rfl ?_
  obtain ⟨v3, hv3, hyp⟩ := jbind hyp
  have iv3 := jrf_in S hv3
  refine jr_getI (pc := 5) C S lf_X12_159 rfl hv3 dX12_digit_5 ?_
  refine jr_icmp_ge (pc := 8) C iv2 iv3 (tgt := 33) dX12_digit_8 (by decide) (fun c4 => ?_) (fun c4 => ?_)
  · have hyp := (if_pos c4).symm.trans hyp
    refine jr_aload_n (pc := 11) C L dX12_digit_11 rfl rfl ?_
    refine jr_dupR (pc := 12) C dX12_digit_12 ?_
    obtain ⟨v5, hv5, hyp⟩ := jbind hyp
    have iv5 := jrf_in S hv5
    refine jr_getI (pc := 13) C S lf_X12_156 rfl hv5 dX12_digit_13 ?_
    refine jr_iconst (pc := 16) C dX12_digit_16 ?_
    refine jr_iadd (pc := 17) C dX12_digit_17 ?_
    obtain ⟨m6, hm6, hyp⟩ := jbind hyp
    refine jr_putI (pc := 18) C S lf_X12_156 fp_X12_22 rfl (jIn_w _) hm6 dX12_digit_18 (fun H locs S => ?_)
    refine jr_aload_n (pc := 21) C L dX12_digit_21 rfl rfl ?_
    obtain ⟨v7, hv7, hyp⟩ := jbind hyp
    refine jr_getR (pc := 22) C S lf_X12_52 rfl hv7 dX12_digit_22 ?_
    refine jr_aload_n (pc := 25) C L dX12_digit_25 rfl rfl ?_
    obtain ⟨v8, hv8, hyp⟩ := jbind hyp
    have iv8 := jrf_in S hv8
    refine jr_getI (pc := 26) C S lf_X12_156 rfl hv8 dX12_digit_26 ?_
    refine jr_iconst (pc := 29) C dX12_digit_29 ?_
    refine jr_isub (pc := 30) C dX12_digit_30 ?_
    obtain ⟨v9, hv9, hyp⟩ := jbind hyp
    have iv9 := jra_in S hv9
    refine jr_ial (pc := 31) C S (jIn_w _) hv9 dX12_digit_31 ?_
    cases hyp
    exact jr_iret C S iv9 dX12_digit_32
  · have hyp := (if_neg c4).symm.trans hyp
    refine jr_aload_n (pc := 33) C L dX12_digit_33 rfl rfl ?_
    refine jr_aload_n (pc := 34) C L dX12_digit_34 rfl rfl ?_
    obtain ⟨v10, hv10, hyp⟩ := jbind hyp
    have iv10 := jrf_in S hv10
    refine jr_getI (pc := 35) C S lf_X12_162 rfl hv10 dX12_digit_35 ?_
    refine jr_if_ge (pc := 38) C iv10 (tgt := 45) dX12_digit_38 (by decide) (fun c11 => ?_) (fun c11 => ?_)
    · have hyp := (if_pos c11).symm.trans hyp
      refine jr_iload_n (pc := 41) C L dX12_digit_41 rfl rfl ?_
      refine jr_goto (pc := 42) C (tgt := 49) dX12_digit_42 (by decide) ?_
      exact t_X12_digit_b49 C   h_x1 S (L.sub (jsub_n (jsub_n jsub_0))) hyp
    · have hyp := (if_neg c11).symm.trans hyp
      refine jr_aload_n (pc := 45) C L dX12_digit_45 rfl rfl ?_
      obtain ⟨v12, hv12, hyp⟩ := jbind hyp
      have iv12 := jrf_in S hv12
      refine jr_getI (pc := 46) C S lf_X12_162 rfl hv12 dX12_digit_46 ?_
      exact t_X12_digit_b49 C   iv12 S (L.sub (jsub_n (jsub_n jsub_0))) hyp
theorem c_X12_digit {l : Launch} {D : va_G} {cy : Nat → ClassId} {B sz : Nat} {sh : jm_S} {res : (Int × jm_M)} {m : jm_M} {a0 : Nat} {x1 : Int} (h_x1 : jIn x1) (hyp : f_X12_digit sh a0 x1 m = some res) : jCt l D cy B sz sh 0 yX12_digit cX12_digit 2 (some .int) [jR B a0, jI x1] m (some (jI res.1)) res.2 (jIn res.1) :=
  jc_of (by decide) (fun v h => by simp only [List.mem_cons, List.not_mem_nil, or_false] at h; rcases h with rfl | rfl <;> first | rfl | exact jR_cat _ _) (Nat.le_of_ble_eq_true rfl) (fun C S L => t_X12_digit_e C  h_x1 S L hyp)
set_option maxHeartbeats 4000000 in
set_option maxRecDepth 100000 in
theorem t_X12_pile_e {p : Program} {l : Launch} {e : Env} {s : State} {mi : MethodId} {args : Array Value} {below : List Frame} {meth : Method} {c : Code} {D : va_G} {cy : Nat → ClassId} {B sz : Nat} {sh : jm_S} {res : jm_M} (C : jCx p s mi args meth c cX12_pile 4 RX12 none D cy) {a0 : Nat} {x1 : Int} (h_x1 : jIn x1) {x2 : Int} (h_x2 : jIn x2) {x3 : Int} (h_x3 : jIn x3) {m : jm_M} {H : Heap} {locs : List Loc} {ls : Array Slot} (S : jHs D cy B sz sh (jA B sz) s.heap H locs m) (L : jL ls [some (jR B a0), some (jI x1), some (jI x2), some (jI x3)]) (hyp : f_X12_pile sh a0 x1 x2 x3 m = some res) : W p l e (jrm 0 0 0) s mi args below meth c H locs 0 0 (MQ below (jQc D cy B sz sh res none True) args s 0 0 (jA B sz)) (F0 mi 0 ls []) := by
  unfold f_X12_pile at hyp
  refine jr_aload_n (pc := 0) C L dX12_pile_0 rfl rfl ?_
  obtain ⟨v1, hv1, hyp⟩ := jbind hyp
  refine jr_getR (pc := 1) C S lf_X12_37 rfl hv1 dX12_pile_1 ?_
  refine jr_aload_n (pc := 4) C L dX12_pile_4 rfl rfl ?_
  obtain ⟨v2, hv2, hyp⟩ := jbind hyp
  have iv2 := jrf_in S hv2
  refine jr_getI (pc := 5) C S lf_X12_165 rfl hv2 dX12_pile_5 ?_
  refine jr_iload_n (pc := 8) C L dX12_pile_8 rfl rfl ?_
  obtain ⟨m3, hm3, hyp⟩ := jbind hyp
  refine jr_ias (pc := 9) C S iv2 h_x1 hm3 dX12_pile_9 (fun H locs S => ?_)
  refine jr_aload_n (pc := 10) C L dX12_pile_10 rfl rfl ?_
  obtain ⟨v4, hv4, hyp⟩ := jbind hyp
  refine jr_getR (pc := 11) C S lf_X12_40 rfl hv4 dX12_pile_11 ?_
  refine jr_aload_n (pc := 14) C L dX12_pile_14 rfl rfl ?_
  obtain ⟨v5, hv5, hyp⟩ := jbind hyp
  have iv5 := jrf_in S hv5
  refine jr_getI (pc := 15) C S lf_X12_165 rfl hv5 dX12_pile_15 ?_
  refine jr_iload_n (pc := 18) C L dX12_pile_18 rfl rfl ?_
  obtain ⟨m6, hm6, hyp⟩ := jbind hyp
  refine jr_ias (pc := 19) C S iv5 h_x2 hm6 dX12_pile_19 (fun H locs S => ?_)
  refine jr_aload_n (pc := 20) C L dX12_pile_20 rfl rfl ?_
  obtain ⟨v7, hv7, hyp⟩ := jbind hyp
  refine jr_getR (pc := 21) C S lf_X12_43 rfl hv7 dX12_pile_21 ?_
  refine jr_aload_n (pc := 24) C L dX12_pile_24 rfl rfl ?_
  obtain ⟨v8, hv8, hyp⟩ := jbind hyp
  have iv8 := jrf_in S hv8
  refine jr_getI (pc := 25) C S lf_X12_165 rfl hv8 dX12_pile_25 ?_
  refine jr_iload_n (pc := 28) C L dX12_pile_28 rfl rfl ?_
  obtain ⟨m9, hm9, hyp⟩ := jbind hyp
  refine jr_ias (pc := 29) C S iv8 h_x3 hm9 dX12_pile_29 (fun H locs S => ?_)
  refine jr_aload_n (pc := 30) C L dX12_pile_30 rfl rfl ?_
  refine jr_dupR (pc := 31) C dX12_pile_31 ?_
  obtain ⟨v10, hv10, hyp⟩ := jbind hyp
  have iv10 := jrf_in S hv10
  refine jr_getI (pc := 32) C S lf_X12_165 rfl hv10 dX12_pile_32 ?_
  refine jr_iconst (pc := 35) C dX12_pile_35 ?_
  refine jr_iadd (pc := 36) C dX12_pile_36 ?_
  obtain ⟨m11, hm11, hyp⟩ := jbind hyp
  refine jr_putI (pc := 37) C S lf_X12_165 fp_X12_12 rfl (jIn_w _) hm11 dX12_pile_37 (fun H locs S => ?_)
  cases hyp
  exact jr_vret C S trivial dX12_pile_40
theorem c_X12_pile {l : Launch} {D : va_G} {cy : Nat → ClassId} {B sz : Nat} {sh : jm_S} {res : jm_M} {m : jm_M} {a0 : Nat} {x1 : Int} (h_x1 : jIn x1) {x2 : Int} (h_x2 : jIn x2) {x3 : Int} (h_x3 : jIn x3) (hyp : f_X12_pile sh a0 x1 x2 x3 m = some res) : jCt l D cy B sz sh 0 yX12_pile cX12_pile 4 none [jR B a0, jI x1, jI x2, jI x3] m none res True :=
  jc_of (by decide) (fun v h => by simp only [List.mem_cons, List.not_mem_nil, or_false] at h; rcases h with rfl | rfl | rfl | rfl <;> first | rfl | exact jR_cat _ _) (Nat.le_of_ble_eq_true rfl) (fun C S L => t_X12_pile_e C  h_x1 h_x2 h_x3 S L hyp)
