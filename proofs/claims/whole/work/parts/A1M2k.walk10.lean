set_option maxHeartbeats 4000000 in
set_option maxRecDepth 100000 in
theorem t_X12_crowdOf_b69 {p : Program} {l : Launch} {e : Env} {s : State} {mi : MethodId} {args : Array Value} {below : List Frame} {meth : Method} {c : Code} {D : va_G} {cy : Nat → ClassId} {B sz : Nat} {sh : jm_S} {res : Int} {N : Nat} {m0 : jm_M} {k5 : Nat → Int → Int → Int → Int → Option Int} (C : jCx p s mi args meth c cX12_crowdOf 6 RX12 (some .int) D cy) (K5 : ∀ (a0 : Nat) (x1 : Int) (x2 : Int) (x3 : Int) (x4 : Int) , jIn x1 → jIn x2 → jIn x3 → jIn x4 → ∀ (H : Heap) (locs : List Loc) (ls : Array Slot), jHs D cy B sz sh (jA B sz) s.heap H locs m0 → jL ls [some (jR B a0), some (jI x1), some (jI x2), some (jI x3), some (jI x4), none] → k5 a0 x1 x2 x3 x4 = some res → W p l e (jrm 1 0 0) s mi args below meth c H locs 0 0 (MQ below (jQc D cy B sz sh m0 (some (jI res)) (jIn res)) args s 0 0 (jA B sz)) (F0 mi 5 ls [])) {a0 : Nat} {x1 : Int} (h_x1 : jIn x1) {x2 : Int} (h_x2 : jIn x2) {x4 : Int} (h_x4 : jIn x4) {s0 : Int} (h_s0 : jIn s0) {s1 : Int} (h_s1 : jIn s1) {H : Heap} {locs : List Loc} {ls : Array Slot} (S : jHs D cy B sz sh (jA B sz) s.heap H locs m0) (L : jL ls [some (jR B a0), some (jI x1), some (jI x2), none, some (jI x4), none]) (hyp : f_X12_crowdOf_b69 N sh k5 a0 x1 x2 x4 s0 s1 m0 = some res) : W p l e (jrm 1 0 0) s mi args below meth c H locs 0 0 (MQ below (jQc D cy B sz sh m0 (some (jI res)) (jIn res)) args s 0 0 (jA B sz)) (F0 mi 69 ls [jI s1, jI s0]) := by
  unfold f_X12_crowdOf_b69 at hyp
  refine jr_ior (pc := 69) C dX12_crowdOf_69 ?_
  refine jr_istore_n (pc := 70) C L dX12_crowdOf_70 rfl (Nat.le_of_ble_eq_true rfl) (fun ls L => ?_)
  have L : jL ls [some (jR B a0), some (jI x1), some (jI x2), some (jI (jor s0 s1)), some (jI x4), none] := L
  refine jr_iinc (pc := 71) C L dX12_crowdOf_71 rfl (Nat.le_of_ble_eq_true rfl) (fun ls L => ?_)
  have L : jL ls [some (jR B a0), some (jI x1), some (jI x2), some (jI (jor s0 s1)), some (jI (jw (x4 + 1))), none] := L
  refine jr_goto (pc := 74) C (tgt := 5) dX12_crowdOf_74 (by decide) ?_
  exact K5 a0 x1 x2 (jor s0 s1) (jw (x4 + 1)) h_x1 h_x2 (jIn_or _ _) (jIn_w _)  _ _ _ S (L.sub (jsub_s (jsub_s (jsub_s (jsub_s (jsub_s (jsub_n jsub_0))))))) hyp
set_option maxHeartbeats 4000000 in
set_option maxRecDepth 100000 in
theorem t_X12_crowdOf_b68 {p : Program} {l : Launch} {e : Env} {s : State} {mi : MethodId} {args : Array Value} {below : List Frame} {meth : Method} {c : Code} {D : va_G} {cy : Nat → ClassId} {B sz : Nat} {sh : jm_S} {res : Int} {N : Nat} {m0 : jm_M} {k5 : Nat → Int → Int → Int → Int → Option Int} (C : jCx p s mi args meth c cX12_crowdOf 6 RX12 (some .int) D cy) (K5 : ∀ (a0 : Nat) (x1 : Int) (x2 : Int) (x3 : Int) (x4 : Int) , jIn x1 → jIn x2 → jIn x3 → jIn x4 → ∀ (H : Heap) (locs : List Loc) (ls : Array Slot), jHs D cy B sz sh (jA B sz) s.heap H locs m0 → jL ls [some (jR B a0), some (jI x1), some (jI x2), some (jI x3), some (jI x4), none] → k5 a0 x1 x2 x3 x4 = some res → W p l e (jrm 1 0 0) s mi args below meth c H locs 0 0 (MQ below (jQc D cy B sz sh m0 (some (jI res)) (jIn res)) args s 0 0 (jA B sz)) (F0 mi 5 ls [])) {a0 : Nat} {x1 : Int} (h_x1 : jIn x1) {x2 : Int} (h_x2 : jIn x2) {x4 : Int} (h_x4 : jIn x4) {s0 : Int} (h_s0 : jIn s0) {H : Heap} {locs : List Loc} {ls : Array Slot} (S : jHs D cy B sz sh (jA B sz) s.heap H locs m0) (L : jL ls [some (jR B a0), some (jI x1), some (jI x2), none, some (jI x4), none]) (hyp : f_X12_crowdOf_b68 N sh k5 a0 x1 x2 x4 s0 m0 = some res) : W p l e (jrm 1 0 0) s mi args below meth c H locs 0 0 (MQ below (jQc D cy B sz sh m0 (some (jI res)) (jIn res)) args s 0 0 (jA B sz)) (F0 mi 68 ls [jI s0]) := by
  unfold f_X12_crowdOf_b68 at hyp
  refine jr_iconst (pc := 68) C dX12_crowdOf_68 ?_
  exact t_X12_crowdOf_b69 C  K5 h_x1 h_x2 h_x4 h_s0 (show jIn 0 from ⟨by decide, by decide⟩) S (L.sub (jsub_s (jsub_s (jsub_s (jsub_n (jsub_s (jsub_n jsub_0))))))) hyp
set_option maxHeartbeats 4000000 in
set_option maxRecDepth 100000 in
theorem t_X12_crowdOf_b5 {p : Program} {l : Launch} {e : Env} {s : State} {mi : MethodId} {args : Array Value} {below : List Frame} {meth : Method} {c : Code} {D : va_G} {cy : Nat → ClassId} {B sz : Nat} {sh : jm_S} {res : Int} {N : Nat} {m0 : jm_M} {k5 : Nat → Int → Int → Int → Int → Option Int} (C : jCx p s mi args meth c cX12_crowdOf 6 RX12 (some .int) D cy) (K5 : ∀ (a0 : Nat) (x1 : Int) (x2 : Int) (x3 : Int) (x4 : Int) , jIn x1 → jIn x2 → jIn x3 → jIn x4 → ∀ (H : Heap) (locs : List Loc) (ls : Array Slot), jHs D cy B sz sh (jA B sz) s.heap H locs m0 → jL ls [some (jR B a0), some (jI x1), some (jI x2), some (jI x3), some (jI x4), none] → k5 a0 x1 x2 x3 x4 = some res → W p l e (jrm 1 0 0) s mi args below meth c H locs 0 0 (MQ below (jQc D cy B sz sh m0 (some (jI res)) (jIn res)) args s 0 0 (jA B sz)) (F0 mi 5 ls [])) {a0 : Nat} {x1 : Int} (h_x1 : jIn x1) {x2 : Int} (h_x2 : jIn x2) {x3 : Int} (h_x3 : jIn x3) {x4 : Int} (h_x4 : jIn x4) {H : Heap} {locs : List Loc} {ls : Array Slot} (S : jHs D cy B sz sh (jA B sz) s.heap H locs m0) (L : jL ls [some (jR B a0), some (jI x1), some (jI x2), some (jI x3), some (jI x4), none]) (hyp : f_X12_crowdOf_b5 N sh k5 a0 x1 x2 x3 x4 m0 = some res) : W p l e (jrm 1 0 0) s mi args below meth c H locs 0 0 (MQ below (jQc D cy B sz sh m0 (some (jI res)) (jIn res)) args s 0 0 (jA B sz)) (F0 mi 5 ls []) := by
  unfold f_X12_crowdOf_b5 at hyp
  refine jr_iload (pc := 5) C L dX12_crowdOf_5 rfl ?_
  refine jr_iload_n (pc := 7) C L dX12_crowdOf_7 rfl rfl ?_
  refine jr_aload_n (pc := 8) C L dX12_crowdOf_8 rfl rfl ?_
  obtain ⟨v1, hv1, hyp⟩ := jbind hyp
  refine jr_getR (pc := 9) C S lf_X12_22 rfl hv1 dX12_crowdOf_9 ?_
  refine jr_iload_n (pc := 12) C L dX12_crowdOf_12 rfl rfl ?_
  obtain ⟨v2, hv2, hyp⟩ := jbind hyp
  have iv2 := jra_in S hv2
  refine jr_ial (pc := 13) C S h_x1 hv2 dX12_crowdOf_13 ?_
  refine jr_iadd (pc := 14) C dX12_crowdOf_14 ?_
  refine jr_icmp_ge (pc := 15) C h_x4 (jIn_w _) (tgt := 77) dX12_crowdOf_15 (by decide) (fun c3 => ?_) (fun c3 => ?_)
  · have hyp := (if_pos c3).symm.trans hyp
    refine jr_aload_n (pc := 18) C L dX12_crowdOf_18 rfl rfl ?_
    obtain ⟨v4, hv4, hyp⟩ := jbind hyp
    refine jr_getR (pc := 19) C S lf_X12_19 rfl hv4 dX12_crowdOf_19 ?_
    refine jr_iload (pc := 22) C L dX12_crowdOf_22 rfl ?_
    obtain ⟨v5, hv5, hyp⟩ := jbind hyp
    have iv5 := jra_in S hv5
    refine jr_ial (pc := 24) C S h_x4 hv5 dX12_crowdOf_24 ?_
    refine jr_bipush (pc := 25) C dX12_crowdOf_25 (by decide) ?_
    refine jr_isub (pc := 27) C dX12_crowdOf_27 ?_
    refine jr_istore (pc := 28) C L dX12_crowdOf_28 (Nat.le_of_ble_eq_true rfl) (fun ls L => ?_)
    have L : jL ls [some (jR B a0), some (jI x1), some (jI x2), some (jI x3), some (jI x4), some (jI (jw (v5 - 48)))] := L
    refine jr_iload_n (pc := 30) C L dX12_crowdOf_30 rfl rfl ?_
    refine jr_iload (pc := 31) C L dX12_crowdOf_31 rfl ?_
    refine jr_iconst (pc := 33) C dX12_crowdOf_33 ?_
    refine jr_bipush (pc := 34) C dX12_crowdOf_34 (by decide) ?_
    obtain ⟨q6, hq6, hyp⟩ := jbind hyp
    refine jr_callS_I (pc := 36) C S L (As := [jI (jw (v5 - 48)), jI 0, jI 7]) (rest := [jI x3]) (c_X12_in (m0 := m0) (jIn_w _) (show jIn 0 from ⟨by decide, by decide⟩) (show jIn 7 from ⟨by decide, by decide⟩) hq6) ms_X12_in ml_X12_80 (by decide) rfl rfl rfl (Nat.le_of_ble_eq_true rfl) ⟨Nat.le_refl 0, Nat.le_refl 0⟩ dX12_crowdOf_36 (fun p7 H locs S => ?_)
    refine jr_if_eq (pc := 39) C p7 (tgt := 68) dX12_crowdOf_39 (by decide) (fun c8 => ?_) (fun c8 => ?_)
    · have hyp := (if_pos c8).symm.trans hyp
      exact t_X12_crowdOf_b68 C  K5 h_x1 h_x2 h_x4 h_x3 S (L.sub (jsub_s (jsub_s (jsub_s (jsub_n (jsub_s (jsub_n jsub_0))))))) hyp
    · have hyp := (if_neg c8).symm.trans hyp
      refine jr_aload_n (pc := 42) C L dX12_crowdOf_42 rfl rfl ?_
      refine jr_iload (pc := 43) C L dX12_crowdOf_43 rfl ?_
      obtain ⟨u9, hu9, hyp⟩ := jbind hyp
      obtain ⟨q10, hq10, hyp⟩ := jbind hyp
      refine jr_callV_I (pc := 45) C S L (As := [jI (jw (v5 - 48))]) (rest := [jI x3]) (c_X12_isHeld (m0 := m0) (jIn_w _) hq10) mv_X12_isHeld ml_X12_124 rfl (jck_spec hu9) (by decide) rfl rfl rfl (Nat.le_of_ble_eq_true rfl) ⟨Nat.le_refl 0, Nat.le_refl 0⟩ dX12_crowdOf_45 (fun p11 H locs S => ?_)
      refine jr_if_ne (pc := 48) C p11 (tgt := 68) dX12_crowdOf_48 (by decide) (fun c12 => ?_) (fun c12 => ?_)
      · have hyp := (if_pos c12).symm.trans hyp
        refine jr_aload_n (pc := 51) C L dX12_crowdOf_51 rfl rfl ?_
        refine jr_iload (pc := 52) C L dX12_crowdOf_52 rfl ?_
        obtain ⟨u13, hu13, hyp⟩ := jbind hyp
        obtain ⟨q14, hq14, hyp⟩ := jbind hyp
        refine jr_callV_I (pc := 54) C S L (As := [jI (jw (v5 - 48))]) (rest := [jI x3]) (c_X12_setOf (m0 := m0) (jIn_w _) hq14) mv_X12_setOf ml_X12_131 rfl (jck_spec hu13) (by decide) rfl rfl rfl (Nat.le_of_ble_eq_true rfl) ⟨Nat.le_refl 0, Nat.le_refl 0⟩ dX12_crowdOf_54 (fun p15 H locs S => ?_)
        refine jr_iload_n (pc := 57) C L dX12_crowdOf_57 rfl rfl ?_
        refine jr_icmp_ne (pc := 58) C p15 h_x2 (tgt := 68) dX12_crowdOf_58 (by decide) (fun c16 => ?_) (fun c16 => ?_)
        · have hyp := (if_pos c16).symm.trans hyp
          refine jr_iconst (pc := 61) C dX12_crowdOf_61 ?_
          refine jr_iload (pc := 62) C L dX12_crowdOf_62 rfl ?_
          refine jr_ishl (pc := 64) C dX12_crowdOf_64 ?_
          refine jr_goto (pc := 65) C (tgt := 69) dX12_crowdOf_65 (by decide) ?_
          exact t_X12_crowdOf_b69 C  K5 h_x1 h_x2 h_x4 h_x3 (jIn_shl _ _) S (L.sub (jsub_s (jsub_s (jsub_s (jsub_n (jsub_s (jsub_n jsub_0))))))) hyp
        · have hyp := (if_neg c16).symm.trans hyp
          exact t_X12_crowdOf_b68 C  K5 h_x1 h_x2 h_x4 h_x3 S (L.sub (jsub_s (jsub_s (jsub_s (jsub_n (jsub_s (jsub_n jsub_0))))))) hyp
      · have hyp := (if_neg c12).symm.trans hyp
        exact t_X12_crowdOf_b68 C  K5 h_x1 h_x2 h_x4 h_x3 S (L.sub (jsub_s (jsub_s (jsub_s (jsub_n (jsub_s (jsub_n jsub_0))))))) hyp
  · have hyp := (if_neg c3).symm.trans hyp
    refine jr_iload_n (pc := 77) C L dX12_crowdOf_77 rfl rfl ?_
    cases hyp
    exact jr_iret C S h_x3 dX12_crowdOf_78
theorem t_X12_crowdOf_l5 {p : Program} {l : Launch} {e : Env} {s : State} {mi : MethodId} {args : Array Value} {below : List Frame} {meth : Method} {c : Code} {D : va_G} {cy : Nat → ClassId} {B sz : Nat} {sh : jm_S} {res : Int} {N : Nat} {m0 : jm_M} (C : jCx p s mi args meth c cX12_crowdOf 6 RX12 (some .int) D cy) : ∀ (n : Nat) (a0 : Nat) (x1 : Int) (x2 : Int) (x3 : Int) (x4 : Int), jIn x1 → jIn x2 → jIn x3 → jIn x4 → ∀ (H : Heap) (locs : List Loc) (ls : Array Slot), jHs D cy B sz sh (jA B sz) s.heap H locs m0 → jL ls [some (jR B a0), some (jI x1), some (jI x2), some (jI x3), some (jI x4), none] → f_X12_crowdOf_l5 N sh n a0 x1 x2 x3 x4 m0 = some res → W p l e (jrm 1 0 0) s mi args below meth c H locs 0 0 (MQ below (jQc D cy B sz sh m0 (some (jI res)) (jIn res)) args s 0 0 (jA B sz)) (F0 mi 5 ls []) := by
  intro n
  induction n with
  | zero => intro a0 x1 x2 x3 x4 h_x1 h_x2 h_x3 h_x4 H locs ls S L hyp; cases hyp
  | succ n ih => intro a0 x1 x2 x3 x4 h_x1 h_x2 h_x3 h_x4 H locs ls S L hyp; exact t_X12_crowdOf_b5 (N := N) C  ih h_x1 h_x2 h_x3 h_x4 S L hyp
set_option maxHeartbeats 4000000 in
set_option maxRecDepth 100000 in
theorem t_X12_crowdOf_e {p : Program} {l : Launch} {e : Env} {s : State} {mi : MethodId} {args : Array Value} {below : List Frame} {meth : Method} {c : Code} {D : va_G} {cy : Nat → ClassId} {B sz : Nat} {sh : jm_S} {res : Int} {N : Nat} {m0 : jm_M} (C : jCx p s mi args meth c cX12_crowdOf 6 RX12 (some .int) D cy) {a0 : Nat} {x1 : Int} (h_x1 : jIn x1) {x2 : Int} (h_x2 : jIn x2) {H : Heap} {locs : List Loc} {ls : Array Slot} (S : jHs D cy B sz sh (jA B sz) s.heap H locs m0) (L : jL ls [some (jR B a0), some (jI x1), some (jI x2), none, none, none]) (hyp : f_X12_crowdOf N sh a0 x1 x2 m0 = some res) : W p l e (jrm 1 0 0) s mi args below meth c H locs 0 0 (MQ below (jQc D cy B sz sh m0 (some (jI res)) (jIn res)) args s 0 0 (jA B sz)) (F0 mi 0 ls []) := by
  unfold f_X12_crowdOf at hyp
  refine jr_iconst (pc := 0) C dX12_crowdOf_0 ?_
  refine jr_istore_n (pc := 1) C L dX12_crowdOf_1 rfl (Nat.le_of_ble_eq_true rfl) (fun ls L => ?_)
  have L : jL ls [some (jR B a0), some (jI x1), some (jI x2), some (jI 0), none, none] := L
  refine jr_iload_n (pc := 2) C L dX12_crowdOf_2 rfl rfl ?_
  refine jr_istore (pc := 3) C L dX12_crowdOf_3 (Nat.le_of_ble_eq_true rfl) (fun ls L => ?_)
  have L : jL ls [some (jR B a0), some (jI x1), some (jI x2), some (jI 0), some (jI x1), none] := L
  exact t_X12_crowdOf_l5 C   N a0 x1 x2 0 x1 h_x1 h_x2 (show jIn 0 from ⟨by decide, by decide⟩) h_x1  _ _ _ S (L.sub (jsub_s (jsub_s (jsub_s (jsub_s (jsub_s (jsub_n jsub_0))))))) hyp
theorem c_X12_crowdOf {l : Launch} {D : va_G} {cy : Nat → ClassId} {B sz : Nat} {sh : jm_S} {res : Int} {N : Nat} {m0 : jm_M} {a0 : Nat} {x1 : Int} (h_x1 : jIn x1) {x2 : Int} (h_x2 : jIn x2) (hyp : f_X12_crowdOf N sh a0 x1 x2 m0 = some res) : jCt l D cy B sz sh 1 yX12_crowdOf cX12_crowdOf 6 (some .int) [jR B a0, jI x1, jI x2] m0 (some (jI res)) m0 (jIn res) :=
  jc_of (by decide) (fun v h => by simp only [List.mem_cons, List.not_mem_nil, or_false] at h; rcases h with rfl | rfl | rfl <;> first | rfl | exact jR_cat _ _) (Nat.le_of_ble_eq_true rfl) (fun C S L => t_X12_crowdOf_e C  h_x1 h_x2 S L hyp)
set_option maxHeartbeats 4000000 in
set_option maxRecDepth 100000 in
theorem t_X12_loopOf_b84 {p : Program} {l : Launch} {e : Env} {s : State} {mi : MethodId} {args : Array Value} {below : List Frame} {meth : Method} {c : Code} {D : va_G} {cy : Nat → ClassId} {B sz : Nat} {sh : jm_S} {res : Int} {N : Nat} {m0 : jm_M} {k28 : Nat → Int → Int → Int → Option Int} (C : jCx p s mi args meth c cX12_loopOf 6 RX12 (some .int) D cy) (K28 : ∀ (a0 : Nat) (x3 : Int) (x4 : Int) (x5 : Int) , jIn x3 → jIn x4 → jIn x5 → ∀ (H : Heap) (locs : List Loc) (ls : Array Slot), jHs D cy B sz sh (jA B sz) s.heap H locs m0 → jL ls [some (jR B a0), none, none, some (jI x3), some (jI x4), some (jI x5)] → k28 a0 x3 x4 x5 = some res → W p l e (jrm 2 0 0) s mi args below meth c H locs 0 0 (MQ below (jQc D cy B sz sh m0 (some (jI res)) (jIn res)) args s 0 0 (jA B sz)) (F0 mi 28 ls [])) {a0 : Nat} {x3 : Int} (h_x3 : jIn x3) {x4 : Int} (h_x4 : jIn x4) {x5 : Int} (h_x5 : jIn x5) {H : Heap} {locs : List Loc} {ls : Array Slot} (S : jHs D cy B sz sh (jA B sz) s.heap H locs m0) (L : jL ls [some (jR B a0), none, none, some (jI x3), some (jI x4), some (jI x5)]) (hyp : f_X12_loopOf_b84 N sh k28 a0 x3 x4 x5 m0 = some res) : W p l e (jrm 2 0 0) s mi args below meth c H locs 0 0 (MQ below (jQc D cy B sz sh m0 (some (jI res)) (jIn res)) args s 0 0 (jA B sz)) (F0 mi 84 ls []) := by
  unfold f_X12_loopOf_b84 at hyp
  refine jr_iinc (pc := 84) C L dX12_loopOf_84 rfl (Nat.le_of_ble_eq_true rfl) (fun ls L => ?_)
  have L : jL ls [some (jR B a0), none, none, some (jI x3), some (jI x4), some (jI (jw (x5 + 1)))] := L
  refine jr_goto (pc := 87) C (tgt := 28) dX12_loopOf_87 (by decide) ?_
  exact K28 a0 x3 x4 (jw (x5 + 1)) h_x3 h_x4 (jIn_w _)  _ _ _ S (L.sub (jsub_s (jsub_n (jsub_n (jsub_s (jsub_s (jsub_s jsub_0))))))) hyp
set_option maxHeartbeats 4000000 in
set_option maxRecDepth 100000 in
theorem t_X12_loopOf_b28 {p : Program} {l : Launch} {e : Env} {s : State} {mi : MethodId} {args : Array Value} {below : List Frame} {meth : Method} {c : Code} {D : va_G} {cy : Nat → ClassId} {B sz : Nat} {sh : jm_S} {res : Int} {N : Nat} {m0 : jm_M} {k28 : Nat → Int → Int → Int → Option Int} (C : jCx p s mi args meth c cX12_loopOf 6 RX12 (some .int) D cy) (K28 : ∀ (a0 : Nat) (x3 : Int) (x4 : Int) (x5 : Int) , jIn x3 → jIn x4 → jIn x5 → ∀ (H : Heap) (locs : List Loc) (ls : Array Slot), jHs D cy B sz sh (jA B sz) s.heap H locs m0 → jL ls [some (jR B a0), none, none, some (jI x3), some (jI x4), some (jI x5)] → k28 a0 x3 x4 x5 = some res → W p l e (jrm 2 0 0) s mi args below meth c H locs 0 0 (MQ below (jQc D cy B sz sh m0 (some (jI res)) (jIn res)) args s 0 0 (jA B sz)) (F0 mi 28 ls [])) {a0 : Nat} {x3 : Int} (h_x3 : jIn x3) {x4 : Int} (h_x4 : jIn x4) {x5 : Int} (h_x5 : jIn x5) {H : Heap} {locs : List Loc} {ls : Array Slot} (S : jHs D cy B sz sh (jA B sz) s.heap H locs m0) (L : jL ls [some (jR B a0), none, none, some (jI x3), some (jI x4), some (jI x5)]) (hyp : f_X12_loopOf_b28 N sh k28 a0 x3 x4 x5 m0 = some res) : W p l e (jrm 2 0 0) s mi args below meth c H locs 0 0 (MQ below (jQc D cy B sz sh m0 (some (jI res)) (jIn res)) args s 0 0 (jA B sz)) (F0 mi 28 ls []) := by
  unfold f_X12_loopOf_b28 at hyp
  refine jr_iload (pc := 28) C L dX12_loopOf_28 rfl ?_
  refine jr_iload_n (pc := 30) C L dX12_loopOf_30 rfl rfl ?_
  refine jr_icmp_ge (pc := 31) C h_x5 h_x3 (tgt := 90) dX12_loopOf_31 (by decide) (fun c1 => ?_) (fun c1 => ?_)
  · have hyp := (if_pos c1).symm.trans hyp
    refine jr_aload_n (pc := 34) C L dX12_loopOf_34 rfl rfl ?_
    obtain ⟨v2, hv2, hyp⟩ := jbind hyp
    refine jr_getR (pc := 35) C S lf_X12_19 rfl hv2 dX12_loopOf_35 ?_
    refine jr_iload (pc := 38) C L dX12_loopOf_38 rfl ?_
    obtain ⟨v3, hv3, hyp⟩ := jbind hyp
    have iv3 := jra_in S hv3
    refine jr_ial (pc := 40) C S h_x5 hv3 dX12_loopOf_40 ?_
    obtain ⟨q4, hq4, hyp⟩ := jbind hyp
    refine jr_callS_I (pc := 41) C S L (As := [jI v3]) (rest := []) (c_X12_isLoop (m0 := m0) iv3 hq4) ms_X12_isLoop ml_X12_91 (by decide) rfl rfl rfl (Nat.le_of_ble_eq_true rfl) ⟨Nat.le_refl 0, Nat.le_refl 0⟩ dX12_loopOf_41 (fun p5 H locs S => ?_)
    refine jr_if_eq (pc := 44) C p5 (tgt := 84) dX12_loopOf_44 (by decide) (fun c6 => ?_) (fun c6 => ?_)
    · have hyp := (if_pos c6).symm.trans hyp
      exact t_X12_loopOf_b84 C  K28 h_x3 h_x4 h_x5 S (L.sub (jsub_s (jsub_n (jsub_n (jsub_s (jsub_s (jsub_s jsub_0))))))) hyp
    · have hyp := (if_neg c6).symm.trans hyp
      refine jr_iload (pc := 47) C L dX12_loopOf_47 rfl ?_
      refine jr_aload_n (pc := 49) C L dX12_loopOf_49 rfl rfl ?_
      obtain ⟨v7, hv7, hyp⟩ := jbind hyp
      refine jr_getR (pc := 50) C S lf_X12_22 rfl hv7 dX12_loopOf_50 ?_
      refine jr_iload (pc := 53) C L dX12_loopOf_53 rfl ?_
      obtain ⟨v8, hv8, hyp⟩ := jbind hyp
      have iv8 := jra_in S hv8
      refine jr_ial (pc := 55) C S h_x5 hv8 dX12_loopOf_55 ?_
      refine jr_iadd (pc := 56) C dX12_loopOf_56 ?_
      refine jr_iload_n (pc := 57) C L dX12_loopOf_57 rfl rfl ?_
      refine jr_icmp_le (pc := 58) C (jIn_w _) h_x3 (tgt := 84) dX12_loopOf_58 (by decide) (fun c9 => ?_) (fun c9 => ?_)
      · have hyp := (if_pos c9).symm.trans hyp
        refine jr_aload_n (pc := 61) C L dX12_loopOf_61 rfl rfl ?_
        refine jr_iload (pc := 62) C L dX12_loopOf_62 rfl ?_
        refine jr_iload (pc := 64) C L dX12_loopOf_64 rfl ?_
        obtain ⟨u10, hu10, hyp⟩ := jbind hyp
        obtain ⟨q11, hq11, hyp⟩ := jbind hyp
        refine jr_callV_I (pc := 66) C S L (As := [jI x5, jI x4]) (rest := []) (c_X12_crowdOf (m0 := m0) h_x5 h_x4 hq11) mv_X12_crowdOf ml_X12_246 rfl (jck_spec hu10) (by decide) rfl rfl rfl (Nat.le_of_ble_eq_true rfl) ⟨Nat.le_refl 0, Nat.le_refl 0⟩ dX12_loopOf_66 (fun p12 H locs S => ?_)
        obtain ⟨q13, hq13, hyp⟩ := jbind hyp
        refine jr_callS_I (pc := 69) C S L (As := [jI q11]) (rest := []) (c_X12_bits (m0 := m0) p12 hq13) ms_X12_bits ml_X12_249 (by decide) rfl rfl rfl (Nat.le_of_ble_eq_true rfl) ⟨Nat.le_refl 0, Nat.le_refl 0⟩ dX12_loopOf_69 (fun p14 H locs S => ?_)
        refine jr_aload_n (pc := 72) C L dX12_loopOf_72 rfl rfl ?_
        refine jr_iload (pc := 73) C L dX12_loopOf_73 rfl ?_
        obtain ⟨u15, hu15, hyp⟩ := jbind hyp
        obtain ⟨q16, hq16, hyp⟩ := jbind hyp
        refine jr_callV_I (pc := 75) C S L (As := [jI x4]) (rest := [jI q13]) (c_X12_roomOf (m0 := m0) h_x4 hq16) mv_X12_roomOf ml_X12_134 rfl (jck_spec hu15) (by decide) rfl rfl rfl (Nat.le_of_ble_eq_true rfl) ⟨Nat.le_refl 0, Nat.le_refl 0⟩ dX12_loopOf_75 (fun p17 H locs S => ?_)
        refine jr_icmp_gt (pc := 78) C p14 p17 (tgt := 84) dX12_loopOf_78 (by decide) (fun c18 => ?_) (fun c18 => ?_)
        · have hyp := (if_pos c18).symm.trans hyp
          exact t_X12_loopOf_b84 C  K28 h_x3 h_x4 h_x5 S (L.sub (jsub_s (jsub_n (jsub_n (jsub_s (jsub_s (jsub_s jsub_0))))))) hyp
        · have hyp := (if_neg c18).symm.trans hyp
          refine jr_iload (pc := 81) C L dX12_loopOf_81 rfl ?_
          cases hyp
          exact jr_iret C S h_x5 dX12_loopOf_83
      · have hyp := (if_neg c9).symm.trans hyp
        exact t_X12_loopOf_b84 C  K28 h_x3 h_x4 h_x5 S (L.sub (jsub_s (jsub_n (jsub_n (jsub_s (jsub_s (jsub_s jsub_0))))))) hyp
  · have hyp := (if_neg c1).symm.trans hyp
    refine jr_bipush (pc := 90) C dX12_loopOf_90 (by decide) ?_
    cases hyp
    exact jr_iret C S (show jIn (-6) from ⟨by decide, by decide⟩) dX12_loopOf_92
theorem t_X12_loopOf_l28 {p : Program} {l : Launch} {e : Env} {s : State} {mi : MethodId} {args : Array Value} {below : List Frame} {meth : Method} {c : Code} {D : va_G} {cy : Nat → ClassId} {B sz : Nat} {sh : jm_S} {res : Int} {N : Nat} {m0 : jm_M} (C : jCx p s mi args meth c cX12_loopOf 6 RX12 (some .int) D cy) : ∀ (n : Nat) (a0 : Nat) (x3 : Int) (x4 : Int) (x5 : Int), jIn x3 → jIn x4 → jIn x5 → ∀ (H : Heap) (locs : List Loc) (ls : Array Slot), jHs D cy B sz sh (jA B sz) s.heap H locs m0 → jL ls [some (jR B a0), none, none, some (jI x3), some (jI x4), some (jI x5)] → f_X12_loopOf_l28 N sh n a0 x3 x4 x5 m0 = some res → W p l e (jrm 2 0 0) s mi args below meth c H locs 0 0 (MQ below (jQc D cy B sz sh m0 (some (jI res)) (jIn res)) args s 0 0 (jA B sz)) (F0 mi 28 ls []) := by
  intro n
  induction n with
  | zero => intro a0 x3 x4 x5 h_x3 h_x4 h_x5 H locs ls S L hyp; cases hyp
  | succ n ih => intro a0 x3 x4 x5 h_x3 h_x4 h_x5 H locs ls S L hyp; exact t_X12_loopOf_b28 (N := N) C  ih h_x3 h_x4 h_x5 S L hyp
set_option maxHeartbeats 4000000 in
set_option maxRecDepth 100000 in
theorem t_X12_loopOf_e {p : Program} {l : Launch} {e : Env} {s : State} {mi : MethodId} {args : Array Value} {below : List Frame} {meth : Method} {c : Code} {D : va_G} {cy : Nat → ClassId} {B sz : Nat} {sh : jm_S} {res : Int} {N : Nat} {m0 : jm_M} (C : jCx p s mi args meth c cX12_loopOf 6 RX12 (some .int) D cy) {a0 : Nat} {x1 : Int} (h_x1 : jIn x1) {x2 : Int} (h_x2 : jIn x2) {H : Heap} {locs : List Loc} {ls : Array Slot} (S : jHs D cy B sz sh (jA B sz) s.heap H locs m0) (L : jL ls [some (jR B a0), some (jI x1), some (jI x2), none, none, none]) (hyp : f_X12_loopOf N sh a0 x1 x2 m0 = some res) : W p l e (jrm 2 0 0) s mi args below meth c H locs 0 0 (MQ below (jQc D cy B sz sh m0 (some (jI res)) (jIn res)) args s 0 0 (jA B sz)) (F0 mi 0 ls []) := by
  unfold f_X12_loopOf at hyp
  refine jr_bipush (pc := 0) C dX12_loopOf_0 (by decide) ?_
  refine jr_iload_n (pc := 2) C L dX12_loopOf_2 rfl rfl ?_
  refine jr_imul (pc := 3) C dX12_loopOf_3 ?_
  refine jr_iload_n (pc := 4) C L dX12_loopOf_4 rfl rfl ?_
  refine jr_iadd (pc := 5) C dX12_loopOf_5 ?_
  refine jr_istore_n (pc := 6) C L dX12_loopOf_6 rfl (Nat.le_of_ble_eq_true rfl) (fun ls L => ?_)
  have L : jL ls [some (jR B a0), some (jI x1), some (jI x2), some (jI (jw ((jw (30 * x1)) + x2))), none, none] := L
  refine jr_aload_n (pc := 7) C L dX12_loopOf_7 rfl rfl ?_
  refine jr_aload_n (pc := 8) C L dX12_loopOf_8 rfl rfl ?_
  obtain ⟨v19, hv19, hyp⟩ := jbind hyp
  refine jr_getR (pc := 9) C S lf_X12_19 rfl hv19 dX12_loopOf_9 ?_
  refine jr_iload_n (pc := 12) C L dX12_loopOf_12 rfl rfl ?_
  obtain ⟨v20, hv20, hyp⟩ := jbind hyp
  have iv20 := jra_in S hv20
  refine jr_ial (pc := 13) C S (jIn_w _) hv20 dX12_loopOf_13 ?_
  refine jr_bipush (pc := 14) C dX12_loopOf_14 (by decide) ?_
  refine jr_isub (pc := 16) C dX12_loopOf_16 ?_
  obtain ⟨u21, hu21, hyp⟩ := jbind hyp
  obtain ⟨q22, hq22, hyp⟩ := jbind hyp
  refine jr_callV_I (pc := 17) C S L (As := [jI (jw (v20 - 48))]) (rest := []) (c_X12_setOf (m0 := m0) (jIn_w _) hq22) mv_X12_setOf ml_X12_131 rfl (jck_spec hu21) (by decide) rfl rfl rfl (Nat.le_of_ble_eq_true rfl) ⟨Nat.le_refl 0, Nat.le_refl 0⟩ dX12_loopOf_17 (fun p23 H locs S => ?_)
  refine jr_istore (pc := 20) C L dX12_loopOf_20 (Nat.le_of_ble_eq_true rfl) (fun ls L => ?_)
  have L : jL ls [some (jR B a0), some (jI x1), some (jI x2), some (jI (jw ((jw (30 * x1)) + x2))), some (jI q22), none] := L
  refine jr_bipush (pc := 22) C dX12_loopOf_22 (by decide) ?_
  refine jr_iload_n (pc := 24) C L dX12_loopOf_24 rfl rfl ?_
  refine jr_imul (pc := 25) C dX12_loopOf_25 ?_
  refine jr_istore (pc := 26) C L dX12_loopOf_26 (Nat.le_of_ble_eq_true rfl) (fun ls L => ?_)
  have L : jL ls [some (jR B a0), some (jI x1), some (jI x2), some (jI (jw ((jw (30 * x1)) + x2))), some (jI q22), some (jI (jw (30 * x1)))] := L
  exact t_X12_loopOf_l28 C   N a0 (jw ((jw (30 * x1)) + x2)) q22 (jw (30 * x1)) (jIn_w _) p23 (jIn_w _)  _ _ _ S (L.sub (jsub_s (jsub_n (jsub_n (jsub_s (jsub_s (jsub_s jsub_0))))))) hyp
theorem c_X12_loopOf {l : Launch} {D : va_G} {cy : Nat → ClassId} {B sz : Nat} {sh : jm_S} {res : Int} {N : Nat} {m0 : jm_M} {a0 : Nat} {x1 : Int} (h_x1 : jIn x1) {x2 : Int} (h_x2 : jIn x2) (hyp : f_X12_loopOf N sh a0 x1 x2 m0 = some res) : jCt l D cy B sz sh 2 yX12_loopOf cX12_loopOf 6 (some .int) [jR B a0, jI x1, jI x2] m0 (some (jI res)) m0 (jIn res) :=
  jc_of (by decide) (fun v h => by simp only [List.mem_cons, List.not_mem_nil, or_false] at h; rcases h with rfl | rfl | rfl <;> first | rfl | exact jR_cat _ _) (Nat.le_of_ble_eq_true rfl) (fun C S L => t_X12_loopOf_e C  h_x1 h_x2 S L hyp)
set_option maxHeartbeats 4000000 in
set_option maxRecDepth 100000 in
theorem t_X12_sortOf_e {p : Program} {l : Launch} {e : Env} {s : State} {mi : MethodId} {args : Array Value} {below : List Frame} {meth : Method} {c : Code} {D : va_G} {cy : Nat → ClassId} {B sz : Nat} {sh : jm_S} {res : Int} {N : Nat} {m0 : jm_M} (C : jCx p s mi args meth c cX12_sortOf 5 RX12 (some .int) D cy) {a0 : Nat} {x1 : Int} (h_x1 : jIn x1) {x2 : Int} (h_x2 : jIn x2) {H : Heap} {locs : List Loc} {ls : Array Slot} (S : jHs D cy B sz sh (jA B sz) s.heap H locs m0) (L : jL ls [some (jR B a0), some (jI x1), some (jI x2), none, none]) (hyp : f_X12_sortOf N sh a0 x1 x2 m0 = some res) : W p l e (jrm 3 0 0) s mi args below meth c H locs 0 0 (MQ below (jQc D cy B sz sh m0 (some (jI res)) (jIn res)) args s 0 0 (jA B sz)) (F0 mi 0 ls []) := by
  unfold f_X12_sortOf at hyp
  refine jr_aload_n (pc := 0) C L dX12_sortOf_0 rfl rfl ?_
  obtain ⟨v1, hv1, hyp⟩ := jbind hyp
  refine jr_getR (pc := 1) C S lf_X12_19 rfl hv1 dX12_sortOf_1 ?_
  refine jr_bipush (pc := 4) C dX12_sortOf_4 (by decide) ?_
  refine jr_iload_n (pc := 6) C L dX12_sortOf_6 rfl rfl ?_
  refine jr_imul (pc := 7) C dX12_sortOf_7 ?_
  refine jr_iload_n (pc := 8) C L dX12_sortOf_8 rfl rfl ?_
  refine jr_iadd (pc := 9) C dX12_sortOf_9 ?_
  obtain ⟨v2, hv2, hyp⟩ := jbind hyp
  have iv2 := jra_in S hv2
  refine jr_ial (pc := 10) C S (jIn_w _) hv2 dX12_sortOf_10 ?_
  refine jr_bipush (pc := 11) C dX12_sortOf_11 (by decide) ?_
  refine jr_isub (pc := 13) C dX12_sortOf_13 ?_
  refine jr_istore_n (pc := 14) C L dX12_sortOf_14 rfl (Nat.le_of_ble_eq_true rfl) (fun ls L => ?_)
  have L : jL ls [some (jR B a0), some (jI x1), some (jI x2), some (jI (jw (v2 - 48))), none] := L
  refine jr_aload_n (pc := 15) C L dX12_sortOf_15 rfl rfl ?_
  refine jr_aload_n (pc := 16) C L dX12_sortOf_16 rfl rfl ?_
  refine jr_iload_n (pc := 17) C L dX12_sortOf_17 rfl rfl ?_
  obtain ⟨u3, hu3, hyp⟩ := jbind hyp
  obtain ⟨q4, hq4, hyp⟩ := jbind hyp
  refine jr_callV_I (pc := 18) C S L (As := [jI (jw (v2 - 48))]) (rest := [jR B a0]) (c_X12_setOf (m0 := m0) (jIn_w _) hq4) mv_X12_setOf ml_X12_131 rfl (jck_spec hu3) (by decide) rfl rfl rfl (by simp [jR_cat, jI_cat]) ⟨Nat.le_refl 0, Nat.le_refl 0⟩ dX12_sortOf_18 (fun p5 H locs S => ?_)
  obtain ⟨u6, hu6, hyp⟩ := jbind hyp
  obtain ⟨q7, hq7, hyp⟩ := jbind hyp
  refine jr_callV_I (pc := 21) C S L (As := [jI q4]) (rest := []) (c_X12_roomOf (m0 := m0) p5 hq7) mv_X12_roomOf ml_X12_134 rfl (jck_spec hu6) (by decide) rfl rfl rfl (Nat.le_of_ble_eq_true rfl) ⟨Nat.le_refl 0, Nat.le_refl 0⟩ dX12_sortOf_21 (fun p8 H locs S => ?_)
  refine jr_istore (pc := 24) C L dX12_sortOf_24 (Nat.le_of_ble_eq_true rfl) (fun ls L => ?_)
  have L : jL ls [some (jR B a0), some (jI x1), some (jI x2), some (jI (jw (v2 - 48))), some (jI q7)] := L
  refine jr_aload_n (pc := 26) C L dX12_sortOf_26 rfl rfl ?_
  refine jr_iload_n (pc := 27) C L dX12_sortOf_27 rfl rfl ?_
  obtain ⟨u9, hu9, hyp⟩ := jbind hyp
  obtain ⟨q10, hq10, hyp⟩ := jbind hyp
  refine jr_callV_I (pc := 28) C S L (As := [jI (jw (v2 - 48))]) (rest := []) (c_X12_isHeld (m0 := m0) (jIn_w _) hq10) mv_X12_isHeld ml_X12_124 rfl (jck_spec hu9) (by decide) rfl rfl rfl (Nat.le_of_ble_eq_true rfl) ⟨Nat.le_refl 0, Nat.le_refl 0⟩ dX12_sortOf_28 (fun p11 H locs S => ?_)
  refine jr_if_ne (pc := 31) C p11 (tgt := 50) dX12_sortOf_31 (by decide) (fun c12 => ?_) (fun c12 => ?_)
  · have hyp := (if_pos c12).symm.trans hyp
    refine jr_aload_n (pc := 34) C L dX12_sortOf_34 rfl rfl ?_
    obtain ⟨v13, hv13, hyp⟩ := jbind hyp
    refine jr_getR (pc := 35) C S lf_X12_64 rfl hv13 dX12_sortOf_35 ?_
    refine jr_bipush (pc := 38) C dX12_sortOf_38 (by decide) ?_
    refine jr_iload_n (pc := 40) C L dX12_sortOf_40 rfl rfl ?_
    refine jr_imul (pc := 41) C dX12_sortOf_41 ?_
    refine jr_iload_n (pc := 42) C L dX12_sortOf_42 rfl rfl ?_
    refine jr_iadd (pc := 43) C dX12_sortOf_43 ?_
    obtain ⟨v14, hv14, hyp⟩ := jbind hyp
    have iv14 := jra_in S hv14
    refine jr_ial (pc := 44) C S (jIn_w _) hv14 dX12_sortOf_44 ?_
    refine jr_iload (pc := 45) C L dX12_sortOf_45 rfl ?_
    refine jr_icmp_ge (pc := 47) C iv14 p8 (tgt := 52) dX12_sortOf_47 (by decide) (fun c15 => ?_) (fun c15 => ?_)
    · have hyp := (if_pos c15).symm.trans hyp
      refine jr_iconst (pc := 50) C dX12_sortOf_50 ?_
      cases hyp
      exact jr_iret C S (show jIn 0 from ⟨by decide, by decide⟩) dX12_sortOf_51
    · have hyp := (if_neg c15).symm.trans hyp
      refine jr_aload_n (pc := 52) C L dX12_sortOf_52 rfl rfl ?_
      obtain ⟨v16, hv16, hyp⟩ := jbind hyp
      refine jr_getR (pc := 53) C S lf_X12_64 rfl hv16 dX12_sortOf_53 ?_
      refine jr_bipush (pc := 56) C dX12_sortOf_56 (by decide) ?_
      refine jr_iload_n (pc := 58) C L dX12_sortOf_58 rfl rfl ?_
      refine jr_imul (pc := 59) C dX12_sortOf_59 ?_
      refine jr_bipush (pc := 60) C dX12_sortOf_60 (by decide) ?_
      refine jr_iadd (pc := 62) C dX12_sortOf_62 ?_
      refine jr_iload_n (pc := 63) C L dX12_sortOf_63 rfl rfl ?_
      refine jr_iadd (pc := 64) C dX12_sortOf_64 ?_
      obtain ⟨v17, hv17, hyp⟩ := jbind hyp
      have iv17 := jra_in S hv17
      refine jr_ial (pc := 65) C S (jIn_w _) hv17 dX12_sortOf_65 ?_
      refine jr_iload (pc := 66) C L dX12_sortOf_66 rfl ?_
      refine jr_icmp_ne (pc := 68) C iv17 p8 (tgt := 75) dX12_sortOf_68 (by decide) (fun c18 => ?_) (fun c18 => ?_)
      · have hyp := (if_pos c18).symm.trans hyp
        refine jr_iconst (pc := 71) C dX12_sortOf_71 ?_
        refine jr_goto (pc := 72) C (tgt := 89) dX12_sortOf_72 (by decide) ?_
        cases hyp
        exact jr_iret C S (show jIn 1 from ⟨by decide, by decide⟩) dX12_sortOf_89
      · have hyp := (if_neg c18).symm.trans hyp
        refine jr_aload_n (pc := 75) C L dX12_sortOf_75 rfl rfl ?_
        refine jr_iload_n (pc := 76) C L dX12_sortOf_76 rfl rfl ?_
        refine jr_iload_n (pc := 77) C L dX12_sortOf_77 rfl rfl ?_
        obtain ⟨u19, hu19, hyp⟩ := jbind hyp
        obtain ⟨q20, hq20, hyp⟩ := jbind hyp
        refine jr_callV_I (pc := 78) C S L (As := [jI x1, jI x2]) (rest := []) (c_X12_loopOf (m0 := m0) h_x1 h_x2 hq20) mv_X12_loopOf ml_X12_252 rfl (jck_spec hu19) (by decide) rfl rfl rfl (Nat.le_of_ble_eq_true rfl) ⟨Nat.le_refl 0, Nat.le_refl 0⟩ dX12_sortOf_78 (fun p21 H locs S => ?_)
        refine jr_if_lt (pc := 81) C p21 (tgt := 88) dX12_sortOf_81 (by decide) (fun c22 => ?_) (fun c22 => ?_)
        · have hyp := (if_pos c22).symm.trans hyp
          refine jr_iconst (pc := 88) C dX12_sortOf_88 ?_
          cases hyp
          exact jr_iret C S (show jIn 3 from ⟨by decide, by decide⟩) dX12_sortOf_89
        · have hyp := (if_neg c22).symm.trans hyp
          refine jr_iconst (pc := 84) C dX12_sortOf_84 ?_
          refine jr_goto (pc := 85) C (tgt := 89) dX12_sortOf_85 (by decide) ?_
          cases hyp
          exact jr_iret C S (show jIn 2 from ⟨by decide, by decide⟩) dX12_sortOf_89
  · have hyp := (if_neg c12).symm.trans hyp
    refine jr_iconst (pc := 50) C dX12_sortOf_50 ?_
    cases hyp
    exact jr_iret C S (show jIn 0 from ⟨by decide, by decide⟩) dX12_sortOf_51
theorem c_X12_sortOf {l : Launch} {D : va_G} {cy : Nat → ClassId} {B sz : Nat} {sh : jm_S} {res : Int} {N : Nat} {m0 : jm_M} {a0 : Nat} {x1 : Int} (h_x1 : jIn x1) {x2 : Int} (h_x2 : jIn x2) (hyp : f_X12_sortOf N sh a0 x1 x2 m0 = some res) : jCt l D cy B sz sh 3 yX12_sortOf cX12_sortOf 5 (some .int) [jR B a0, jI x1, jI x2] m0 (some (jI res)) m0 (jIn res) :=
  jc_of (by decide) (fun v h => by simp only [List.mem_cons, List.not_mem_nil, or_false] at h; rcases h with rfl | rfl | rfl <;> first | rfl | exact jR_cat _ _) (Nat.le_of_ble_eq_true rfl) (fun C S L => t_X12_sortOf_e C  h_x1 h_x2 S L hyp)
set_option maxHeartbeats 4000000 in
set_option maxRecDepth 100000 in
theorem t_X12_sort_e {p : Program} {l : Launch} {e : Env} {s : State} {mi : MethodId} {args : Array Value} {below : List Frame} {meth : Method} {c : Code} {D : va_G} {cy : Nat → ClassId} {B sz : Nat} {sh : jm_S} {res : (Int × jm_M)} {N : Nat} (C : jCx p s mi args meth c cX12_sort 3 RX12 (some .int) D cy) {a0 : Nat} {x1 : Int} (h_x1 : jIn x1) {x2 : Int} (h_x2 : jIn x2) {m : jm_M} {H : Heap} {locs : List Loc} {ls : Array Slot} (S : jHs D cy B sz sh (jA B sz) s.heap H locs m) (L : jL ls [some (jR B a0), some (jI x1), some (jI x2)]) (hyp : f_X12_sort N sh a0 x1 x2 m = some res) : W p l e (jrm 4 0 0) s mi args below meth c H locs 0 0 (MQ below (jQc D cy B sz sh res.2 (some (jI res.1)) (jIn res.1)) args s 0 0 (jA B sz)) (F0 mi 0 ls []) := by
  unfold f_X12_sort at hyp
  refine jr_aload_n (pc := 0) C L dX12_sort_0 rfl rfl ?_
  refine jr_iload_n (pc := 1) C L dX12_sort_1 rfl rfl ?_
  refine jr_iload_n (pc := 2) C L dX12_sort_2 rfl rfl ?_
  obtain ⟨u1, hu1, hyp⟩ := jbind hyp
  obtain ⟨q2, hq2, hyp⟩ := jbind hyp
  refine jr_callV_I (pc := 3) C S L (As := [jI x1, jI x2]) (rest := []) (c_X12_isFetch (m0 := m) h_x1 h_x2 hq2) mv_X12_isFetch ml_X12_240 rfl (jck_spec hu1) (by decide) rfl rfl rfl (Nat.le_of_ble_eq_true rfl) ⟨Nat.le_refl 0, Nat.le_refl 0⟩ dX12_sort_3 (fun p3 H locs S => ?_)
  refine jr_if_ne (pc := 6) C p3 (tgt := 11) dX12_sort_6 (by decide) (fun c4 => ?_) (fun c4 => ?_)
  · have hyp := (if_pos c4).symm.trans hyp
    refine jr_iconst (pc := 9) C dX12_sort_9 ?_
    cases hyp
    exact jr_iret C S (show jIn (-1) from ⟨by decide, by decide⟩) dX12_sort_10
  · have hyp := (if_neg c4).symm.trans hyp
    refine jr_aload_n (pc := 11) C L dX12_sort_11 rfl rfl ?_
    refine jr_iload_n (pc := 12) C L dX12_sort_12 rfl rfl ?_
    obtain ⟨u5, hu5, hyp⟩ := jbind hyp
    obtain ⟨q6, hq6, hyp⟩ := jbind hyp
    refine jr_callV_N (pc := 13) C S L (As := [jI x1]) (rest := []) (c_X12_layAges h_x1 hq6) mv_X12_layAges ml_X12_243 rfl (jck_spec hu5) (by decide) rfl rfl rfl (Nat.le_of_ble_eq_true rfl) ⟨Nat.le_refl 0, Nat.le_refl 0⟩ dX12_sort_13 (fun p7 H locs S => ?_)
    refine jr_aload_n (pc := 16) C L dX12_sort_16 rfl rfl ?_
    refine jr_iload_n (pc := 17) C L dX12_sort_17 rfl rfl ?_
    refine jr_iload_n (pc := 18) C L dX12_sort_18 rfl rfl ?_
    obtain ⟨u8, hu8, hyp⟩ := jbind hyp
    obtain ⟨q9, hq9, hyp⟩ := jbind hyp
    refine jr_callV_I (pc := 19) C S L (As := [jI x1, jI x2]) (rest := []) (c_X12_sortOf (m0 := q6) h_x1 h_x2 hq9) mv_X12_sortOf ml_X12_255 rfl (jck_spec hu8) (by decide) rfl rfl rfl (Nat.le_of_ble_eq_true rfl) ⟨Nat.le_refl 0, Nat.le_refl 0⟩ dX12_sort_19 (fun p10 H locs S => ?_)
    cases hyp
    exact jr_iret C S p10 dX12_sort_22
theorem c_X12_sort {l : Launch} {D : va_G} {cy : Nat → ClassId} {B sz : Nat} {sh : jm_S} {res : (Int × jm_M)} {N : Nat} {m : jm_M} {a0 : Nat} {x1 : Int} (h_x1 : jIn x1) {x2 : Int} (h_x2 : jIn x2) (hyp : f_X12_sort N sh a0 x1 x2 m = some res) : jCt l D cy B sz sh 4 yX12_sort cX12_sort 3 (some .int) [jR B a0, jI x1, jI x2] m (some (jI res.1)) res.2 (jIn res.1) :=
  jc_of (by decide) (fun v h => by simp only [List.mem_cons, List.not_mem_nil, or_false] at h; rcases h with rfl | rfl | rfl <;> first | rfl | exact jR_cat _ _) (Nat.le_of_ble_eq_true rfl) (fun C S L => t_X12_sort_e C  h_x1 h_x2 S L hyp)
set_option maxHeartbeats 4000000 in
set_option maxRecDepth 100000 in
theorem t_X12_onceIn_b75 {p : Program} {l : Launch} {e : Env} {s : State} {mi : MethodId} {args : Array Value} {below : List Frame} {meth : Method} {c : Code} {D : va_G} {cy : Nat → ClassId} {B sz : Nat} {sh : jm_S} {res : Int} {N : Nat} {m0 : jm_M} {k7 : Nat → Int → Int → Int → Int → Option Int} (C : jCx p s mi args meth c cX12_onceIn 5 RX12 (some .int) D cy) (K7 : ∀ (a0 : Nat) (x1 : Int) (x2 : Int) (x3 : Int) (x4 : Int) , jIn x1 → jIn x2 → jIn x3 → jIn x4 → ∀ (H : Heap) (locs : List Loc) (ls : Array Slot), jHs D cy B sz sh (jA B sz) s.heap H locs m0 → jL ls [some (jR B a0), some (jI x1), some (jI x2), some (jI x3), some (jI x4)] → k7 a0 x1 x2 x3 x4 = some res → W p l e (jrm 4 0 0) s mi args below meth c H locs 0 0 (MQ below (jQc D cy B sz sh m0 (some (jI res)) (jIn res)) args s 0 0 (jA B sz)) (F0 mi 7 ls [])) {a0 : Nat} {x1 : Int} (h_x1 : jIn x1) {x2 : Int} (h_x2 : jIn x2) {x3 : Int} (h_x3 : jIn x3) {x4 : Int} (h_x4 : jIn x4) {H : Heap} {locs : List Loc} {ls : Array Slot} (S : jHs D cy B sz sh (jA B sz) s.heap H locs m0) (L : jL ls [some (jR B a0), some (jI x1), some (jI x2), some (jI x3), some (jI x4)]) (hyp : f_X12_onceIn_b75 N sh k7 a0 x1 x2 x3 x4 m0 = some res) : W p l e (jrm 4 0 0) s mi args below meth c H locs 0 0 (MQ below (jQc D cy B sz sh m0 (some (jI res)) (jIn res)) args s 0 0 (jA B sz)) (F0 mi 75 ls []) := by
  unfold f_X12_onceIn_b75 at hyp
  refine jr_iinc (pc := 75) C L dX12_onceIn_75 rfl (Nat.le_of_ble_eq_true rfl) (fun ls L => ?_)
  have L : jL ls [some (jR B a0), some (jI x1), some (jI x2), some (jI x3), some (jI (jw (x4 + 1)))] := L
  refine jr_goto (pc := 78) C (tgt := 7) dX12_onceIn_78 (by decide) ?_
  exact K7 a0 x1 x2 x3 (jw (x4 + 1)) h_x1 h_x2 h_x3 (jIn_w _)  _ _ _ S (L.sub (jsub_s (jsub_s (jsub_s (jsub_s (jsub_s jsub_0)))))) hyp
set_option maxHeartbeats 4000000 in
set_option maxRecDepth 100000 in
theorem t_X12_onceIn_b7 {p : Program} {l : Launch} {e : Env} {s : State} {mi : MethodId} {args : Array Value} {below : List Frame} {meth : Method} {c : Code} {D : va_G} {cy : Nat → ClassId} {B sz : Nat} {sh : jm_S} {res : Int} {N : Nat} {m0 : jm_M} {k7 : Nat → Int → Int → Int → Int → Option Int} (C : jCx p s mi args meth c cX12_onceIn 5 RX12 (some .int) D cy) (K7 : ∀ (a0 : Nat) (x1 : Int) (x2 : Int) (x3 : Int) (x4 : Int) , jIn x1 → jIn x2 → jIn x3 → jIn x4 → ∀ (H : Heap) (locs : List Loc) (ls : Array Slot), jHs D cy B sz sh (jA B sz) s.heap H locs m0 → jL ls [some (jR B a0), some (jI x1), some (jI x2), some (jI x3), some (jI x4)] → k7 a0 x1 x2 x3 x4 = some res → W p l e (jrm 4 0 0) s mi args below meth c H locs 0 0 (MQ below (jQc D cy B sz sh m0 (some (jI res)) (jIn res)) args s 0 0 (jA B sz)) (F0 mi 7 ls [])) {a0 : Nat} {x1 : Int} (h_x1 : jIn x1) {x2 : Int} (h_x2 : jIn x2) {x3 : Int} (h_x3 : jIn x3) {x4 : Int} (h_x4 : jIn x4) {H : Heap} {locs : List Loc} {ls : Array Slot} (S : jHs D cy B sz sh (jA B sz) s.heap H locs m0) (L : jL ls [some (jR B a0), some (jI x1), some (jI x2), some (jI x3), some (jI x4)]) (hyp : f_X12_onceIn_b7 N sh k7 a0 x1 x2 x3 x4 m0 = some res) : W p l e (jrm 4 0 0) s mi args below meth c H locs 0 0 (MQ below (jQc D cy B sz sh m0 (some (jI res)) (jIn res)) args s 0 0 (jA B sz)) (F0 mi 7 ls []) := by
  unfold f_X12_onceIn_b7 at hyp
  refine jr_iload (pc := 7) C L dX12_onceIn_7 rfl ?_
  refine jr_aload_n (pc := 9) C L dX12_onceIn_9 rfl rfl ?_
  obtain ⟨v1, hv1, hyp⟩ := jbind hyp
  refine jr_getR (pc := 10) C S lf_X12_16 rfl hv1 dX12_onceIn_10 ?_
  refine jr_iload_n (pc := 13) C L dX12_onceIn_13 rfl rfl ?_
  obtain ⟨v2, hv2, hyp⟩ := jbind hyp
  have iv2 := jra_in S hv2
  refine jr_ial (pc := 14) C S h_x1 hv2 dX12_onceIn_14 ?_
  refine jr_icmp_ge (pc := 15) C h_x4 iv2 (tgt := 81) dX12_onceIn_15 (by decide) (fun c3 => ?_) (fun c3 => ?_)
  · have hyp := (if_pos c3).symm.trans hyp
    refine jr_aload_n (pc := 18) C L dX12_onceIn_18 rfl rfl ?_
    refine jr_iload_n (pc := 19) C L dX12_onceIn_19 rfl rfl ?_
    refine jr_iload (pc := 20) C L dX12_onceIn_20 rfl ?_
    obtain ⟨u4, hu4, hyp⟩ := jbind hyp
    obtain ⟨q5, hq5, hyp⟩ := jbind hyp
    refine jr_callV_I (pc := 22) C S L (As := [jI x1, jI x4]) (rest := []) (c_X12_isFetch (m0 := m0) h_x1 h_x4 hq5) mv_X12_isFetch ml_X12_240 rfl (jck_spec hu4) (by decide) rfl rfl rfl (Nat.le_of_ble_eq_true rfl) ⟨Nat.le_refl 0, Nat.le_refl 0⟩ dX12_onceIn_22 (fun p6 H locs S => ?_)
    refine jr_if_eq (pc := 25) C p6 (tgt := 75) dX12_onceIn_25 (by decide) (fun c7 => ?_) (fun c7 => ?_)
    · have hyp := (if_pos c7).symm.trans hyp
      exact t_X12_onceIn_b75 C  K7 h_x1 h_x2 h_x3 h_x4 S (L.sub (jsub_s (jsub_s (jsub_s (jsub_s (jsub_s jsub_0)))))) hyp
    · have hyp := (if_neg c7).symm.trans hyp
      refine jr_aload_n (pc := 28) C L dX12_onceIn_28 rfl rfl ?_
      refine jr_iload_n (pc := 29) C L dX12_onceIn_29 rfl rfl ?_
      refine jr_iload (pc := 30) C L dX12_onceIn_30 rfl ?_
      obtain ⟨u8, hu8, hyp⟩ := jbind hyp
      obtain ⟨q9, hq9, hyp⟩ := jbind hyp
      refine jr_callV_I (pc := 32) C S L (As := [jI x1, jI x4]) (rest := []) (c_X12_sortOf (m0 := m0) h_x1 h_x4 hq9) mv_X12_sortOf ml_X12_255 rfl (jck_spec hu8) (by decide) rfl rfl rfl (Nat.le_of_ble_eq_true rfl) ⟨Nat.le_refl 0, Nat.le_refl 0⟩ dX12_onceIn_32 (fun p10 H locs S => ?_)
      refine jr_iconst (pc := 35) C dX12_onceIn_35 ?_
      refine jr_icmp_ne (pc := 36) C p10 (show jIn 2 from ⟨by decide, by decide⟩) (tgt := 75) dX12_onceIn_36 (by decide) (fun c11 => ?_) (fun c11 => ?_)
      · have hyp := (if_pos c11).symm.trans hyp
        refine jr_aload_n (pc := 39) C L dX12_onceIn_39 rfl rfl ?_
        refine jr_iload_n (pc := 40) C L dX12_onceIn_40 rfl rfl ?_
        refine jr_iload (pc := 41) C L dX12_onceIn_41 rfl ?_
        obtain ⟨u12, hu12, hyp⟩ := jbind hyp
        obtain ⟨q13, hq13, hyp⟩ := jbind hyp
        refine jr_callV_I (pc := 43) C S L (As := [jI x1, jI x4]) (rest := []) (c_X12_loopOf (m0 := m0) h_x1 h_x4 hq13) mv_X12_loopOf ml_X12_252 rfl (jck_spec hu12) (by decide) rfl rfl rfl (Nat.le_of_ble_eq_true rfl) ⟨Nat.le_refl 0, Nat.le_refl 0⟩ dX12_onceIn_43 (fun p14 H locs S => ?_)
        refine jr_bipush (pc := 46) C dX12_onceIn_46 (by decide) ?_
        refine jr_iload_n (pc := 48) C L dX12_onceIn_48 rfl rfl ?_
        refine jr_imul (pc := 49) C dX12_onceIn_49 ?_
        refine jr_iload_n (pc := 50) C L dX12_onceIn_50 rfl rfl ?_
        refine jr_iadd (pc := 51) C dX12_onceIn_51 ?_
        refine jr_icmp_ne (pc := 52) C p14 (jIn_w _) (tgt := 75) dX12_onceIn_52 (by decide) (fun c15 => ?_) (fun c15 => ?_)
        · have hyp := (if_pos c15).symm.trans hyp
          refine jr_iload_n (pc := 55) C L dX12_onceIn_55 rfl rfl ?_
          refine jr_iconst (pc := 56) C dX12_onceIn_56 ?_
          refine jr_aload_n (pc := 57) C L dX12_onceIn_57 rfl rfl ?_
          obtain ⟨v16, hv16, hyp⟩ := jbind hyp
          refine jr_getR (pc := 58) C S lf_X12_19 rfl hv16 dX12_onceIn_58 ?_
          refine jr_bipush (pc := 61) C dX12_onceIn_61 (by decide) ?_
          refine jr_iload_n (pc := 63) C L dX12_onceIn_63 rfl rfl ?_
          refine jr_imul (pc := 64) C dX12_onceIn_64 ?_
          refine jr_iload (pc := 65) C L dX12_onceIn_65 rfl ?_
          refine jr_iadd (pc := 67) C dX12_onceIn_67 ?_
          obtain ⟨v17, hv17, hyp⟩ := jbind hyp
          have iv17 := jra_in S hv17
          refine jr_ial (pc := 68) C S (jIn_w _) hv17 dX12_onceIn_68 ?_
          refine jr_bipush (pc := 69) C dX12_onceIn_69 (by decide) ?_
          refine jr_isub (pc := 71) C dX12_onceIn_71 ?_
          refine jr_ishl (pc := 72) C dX12_onceIn_72 ?_
          refine jr_ior (pc := 73) C dX12_onceIn_73 ?_
          refine jr_istore_n (pc := 74) C L dX12_onceIn_74 rfl (Nat.le_of_ble_eq_true rfl) (fun ls L => ?_)
          have L : jL ls [some (jR B a0), some (jI x1), some (jI x2), some (jI (jor x3 (jshl 1 (jw (v17 - 48))))), some (jI x4)] := L
          exact t_X12_onceIn_b75 C  K7 h_x1 h_x2 (jIn_or _ _) h_x4 S (L.sub (jsub_s (jsub_s (jsub_s (jsub_s (jsub_s jsub_0)))))) hyp
        · have hyp := (if_neg c15).symm.trans hyp
          exact t_X12_onceIn_b75 C  K7 h_x1 h_x2 h_x3 h_x4 S (L.sub (jsub_s (jsub_s (jsub_s (jsub_s (jsub_s jsub_0)))))) hyp
      · have hyp := (if_neg c11).symm.trans hyp
        exact t_X12_onceIn_b75 C  K7 h_x1 h_x2 h_x3 h_x4 S (L.sub (jsub_s (jsub_s (jsub_s (jsub_s (jsub_s jsub_0)))))) hyp
  · have hyp := (if_neg c3).symm.trans hyp
    refine jr_iload_n (pc := 81) C L dX12_onceIn_81 rfl rfl ?_
    cases hyp
    exact jr_iret C S h_x3 dX12_onceIn_82
theorem t_X12_onceIn_l7 {p : Program} {l : Launch} {e : Env} {s : State} {mi : MethodId} {args : Array Value} {below : List Frame} {meth : Method} {c : Code} {D : va_G} {cy : Nat → ClassId} {B sz : Nat} {sh : jm_S} {res : Int} {N : Nat} {m0 : jm_M} (C : jCx p s mi args meth c cX12_onceIn 5 RX12 (some .int) D cy) : ∀ (n : Nat) (a0 : Nat) (x1 : Int) (x2 : Int) (x3 : Int) (x4 : Int), jIn x1 → jIn x2 → jIn x3 → jIn x4 → ∀ (H : Heap) (locs : List Loc) (ls : Array Slot), jHs D cy B sz sh (jA B sz) s.heap H locs m0 → jL ls [some (jR B a0), some (jI x1), some (jI x2), some (jI x3), some (jI x4)] → f_X12_onceIn_l7 N sh n a0 x1 x2 x3 x4 m0 = some res → W p l e (jrm 4 0 0) s mi args below meth c H locs 0 0 (MQ below (jQc D cy B sz sh m0 (some (jI res)) (jIn res)) args s 0 0 (jA B sz)) (F0 mi 7 ls []) := by
  intro n
  induction n with
  | zero => intro a0 x1 x2 x3 x4 h_x1 h_x2 h_x3 h_x4 H locs ls S L hyp; cases hyp
  | succ n ih => intro a0 x1 x2 x3 x4 h_x1 h_x2 h_x3 h_x4 H locs ls S L hyp; exact t_X12_onceIn_b7 (N := N) C  ih h_x1 h_x2 h_x3 h_x4 S L hyp
set_option maxHeartbeats 4000000 in
set_option maxRecDepth 100000 in
theorem t_X12_onceIn_e {p : Program} {l : Launch} {e : Env} {s : State} {mi : MethodId} {args : Array Value} {below : List Frame} {meth : Method} {c : Code} {D : va_G} {cy : Nat → ClassId} {B sz : Nat} {sh : jm_S} {res : Int} {N : Nat} {m0 : jm_M} (C : jCx p s mi args meth c cX12_onceIn 5 RX12 (some .int) D cy) {a0 : Nat} {x1 : Int} (h_x1 : jIn x1) {x2 : Int} (h_x2 : jIn x2) {H : Heap} {locs : List Loc} {ls : Array Slot} (S : jHs D cy B sz sh (jA B sz) s.heap H locs m0) (L : jL ls [some (jR B a0), some (jI x1), some (jI x2), none, none]) (hyp : f_X12_onceIn N sh a0 x1 x2 m0 = some res) : W p l e (jrm 4 0 0) s mi args below meth c H locs 0 0 (MQ below (jQc D cy B sz sh m0 (some (jI res)) (jIn res)) args s 0 0 (jA B sz)) (F0 mi 0 ls []) := by
  unfold f_X12_onceIn at hyp
  refine jr_iconst (pc := 0) C dX12_onceIn_0 ?_
  refine jr_istore_n (pc := 1) C L dX12_onceIn_1 rfl (Nat.le_of_ble_eq_true rfl) (fun ls L => ?_)
  have L : jL ls [some (jR B a0), some (jI x1), some (jI x2), some (jI 0), none] := L
  refine jr_iload_n (pc := 2) C L dX12_onceIn_2 rfl rfl ?_
  refine jr_iconst (pc := 3) C dX12_onceIn_3 ?_
  refine jr_iadd (pc := 4) C dX12_onceIn_4 ?_
  refine jr_istore (pc := 5) C L dX12_onceIn_5 (Nat.le_of_ble_eq_true rfl) (fun ls L => ?_)
  have L : jL ls [some (jR B a0), some (jI x1), some (jI x2), some (jI 0), some (jI (jw (x2 + 1)))] := L
  exact t_X12_onceIn_l7 C   N a0 x1 x2 0 (jw (x2 + 1)) h_x1 h_x2 (show jIn 0 from ⟨by decide, by decide⟩) (jIn_w _)  _ _ _ S (L.sub (jsub_s (jsub_s (jsub_s (jsub_s (jsub_s jsub_0)))))) hyp
theorem c_X12_onceIn {l : Launch} {D : va_G} {cy : Nat → ClassId} {B sz : Nat} {sh : jm_S} {res : Int} {N : Nat} {m0 : jm_M} {a0 : Nat} {x1 : Int} (h_x1 : jIn x1) {x2 : Int} (h_x2 : jIn x2) (hyp : f_X12_onceIn N sh a0 x1 x2 m0 = some res) : jCt l D cy B sz sh 4 yX12_onceIn cX12_onceIn 5 (some .int) [jR B a0, jI x1, jI x2] m0 (some (jI res)) m0 (jIn res) :=
  jc_of (by decide) (fun v h => by simp only [List.mem_cons, List.not_mem_nil, or_false] at h; rcases h with rfl | rfl | rfl <;> first | rfl | exact jR_cat _ _) (Nat.le_of_ble_eq_true rfl) (fun C S L => t_X12_onceIn_e C  h_x1 h_x2 S L hyp)
set_option maxHeartbeats 4000000 in
set_option maxRecDepth 100000 in
theorem t_X12_comesTo_b62 {p : Program} {l : Launch} {e : Env} {s : State} {mi : MethodId} {args : Array Value} {below : List Frame} {meth : Method} {c : Code} {D : va_G} {cy : Nat → ClassId} {B sz : Nat} {sh : jm_S} {res : Int} {N : Nat} {m0 : jm_M} {k5 : Nat → Int → Int → Int → Int → Option Int} (C : jCx p s mi args meth c cX12_comesTo 6 RX12 (some .int) D cy) (K5 : ∀ (a0 : Nat) (x1 : Int) (x2 : Int) (x3 : Int) (x4 : Int) , jIn x1 → jIn x2 → jIn x3 → jIn x4 → ∀ (H : Heap) (locs : List Loc) (ls : Array Slot), jHs D cy B sz sh (jA B sz) s.heap H locs m0 → jL ls [some (jR B a0), some (jI x1), some (jI x2), some (jI x3), some (jI x4), none] → k5 a0 x1 x2 x3 x4 = some res → W p l e (jrm 2 0 0) s mi args below meth c H locs 0 0 (MQ below (jQc D cy B sz sh m0 (some (jI res)) (jIn res)) args s 0 0 (jA B sz)) (F0 mi 5 ls [])) {a0 : Nat} {x1 : Int} (h_x1 : jIn x1) {x2 : Int} (h_x2 : jIn x2) {x4 : Int} (h_x4 : jIn x4) {s0 : Int} (h_s0 : jIn s0) {s1 : Int} (h_s1 : jIn s1) {H : Heap} {locs : List Loc} {ls : Array Slot} (S : jHs D cy B sz sh (jA B sz) s.heap H locs m0) (L : jL ls [some (jR B a0), some (jI x1), some (jI x2), none, some (jI x4), none]) (hyp : f_X12_comesTo_b62 N sh k5 a0 x1 x2 x4 s0 s1 m0 = some res) : W p l e (jrm 2 0 0) s mi args below meth c H locs 0 0 (MQ below (jQc D cy B sz sh m0 (some (jI res)) (jIn res)) args s 0 0 (jA B sz)) (F0 mi 62 ls [jI s1, jI s0]) := by
  unfold f_X12_comesTo_b62 at hyp
  refine jr_imul (pc := 62) C dX12_comesTo_62 ?_
  refine jr_istore_n (pc := 63) C L dX12_comesTo_63 rfl (Nat.le_of_ble_eq_true rfl) (fun ls L => ?_)
  have L : jL ls [some (jR B a0), some (jI x1), some (jI x2), some (jI (jw (s0 * s1))), some (jI x4), none] := L
  refine jr_iinc (pc := 64) C L dX12_comesTo_64 rfl (Nat.le_of_ble_eq_true rfl) (fun ls L => ?_)
  have L : jL ls [some (jR B a0), some (jI x1), some (jI x2), some (jI (jw (s0 * s1))), some (jI (jw (x4 + 1))), none] := L
  refine jr_goto (pc := 67) C (tgt := 5) dX12_comesTo_67 (by decide) ?_
  exact K5 a0 x1 x2 (jw (s0 * s1)) (jw (x4 + 1)) h_x1 h_x2 (jIn_w _) (jIn_w _)  _ _ _ S (L.sub (jsub_s (jsub_s (jsub_s (jsub_s (jsub_s (jsub_n jsub_0))))))) hyp
set_option maxHeartbeats 4000000 in
set_option maxRecDepth 100000 in
theorem t_X12_comesTo_b61 {p : Program} {l : Launch} {e : Env} {s : State} {mi : MethodId} {args : Array Value} {below : List Frame} {meth : Method} {c : Code} {D : va_G} {cy : Nat → ClassId} {B sz : Nat} {sh : jm_S} {res : Int} {N : Nat} {m0 : jm_M} {k5 : Nat → Int → Int → Int → Int → Option Int} (C : jCx p s mi args meth c cX12_comesTo 6 RX12 (some .int) D cy) (K5 : ∀ (a0 : Nat) (x1 : Int) (x2 : Int) (x3 : Int) (x4 : Int) , jIn x1 → jIn x2 → jIn x3 → jIn x4 → ∀ (H : Heap) (locs : List Loc) (ls : Array Slot), jHs D cy B sz sh (jA B sz) s.heap H locs m0 → jL ls [some (jR B a0), some (jI x1), some (jI x2), some (jI x3), some (jI x4), none] → k5 a0 x1 x2 x3 x4 = some res → W p l e (jrm 2 0 0) s mi args below meth c H locs 0 0 (MQ below (jQc D cy B sz sh m0 (some (jI res)) (jIn res)) args s 0 0 (jA B sz)) (F0 mi 5 ls [])) {a0 : Nat} {x1 : Int} (h_x1 : jIn x1) {x2 : Int} (h_x2 : jIn x2) {x4 : Int} (h_x4 : jIn x4) {s0 : Int} (h_s0 : jIn s0) {H : Heap} {locs : List Loc} {ls : Array Slot} (S : jHs D cy B sz sh (jA B sz) s.heap H locs m0) (L : jL ls [some (jR B a0), some (jI x1), some (jI x2), none, some (jI x4), none]) (hyp : f_X12_comesTo_b61 N sh k5 a0 x1 x2 x4 s0 m0 = some res) : W p l e (jrm 2 0 0) s mi args below meth c H locs 0 0 (MQ below (jQc D cy B sz sh m0 (some (jI res)) (jIn res)) args s 0 0 (jA B sz)) (F0 mi 61 ls [jI s0]) := by
  unfold f_X12_comesTo_b61 at hyp
  refine jr_iconst (pc := 61) C dX12_comesTo_61 ?_
  exact t_X12_comesTo_b62 C  K5 h_x1 h_x2 h_x4 h_s0 (show jIn 1 from ⟨by decide, by decide⟩) S (L.sub (jsub_s (jsub_s (jsub_s (jsub_n (jsub_s (jsub_n jsub_0))))))) hyp
set_option maxHeartbeats 4000000 in
set_option maxRecDepth 100000 in
theorem t_X12_comesTo_b5 {p : Program} {l : Launch} {e : Env} {s : State} {mi : MethodId} {args : Array Value} {below : List Frame} {meth : Method} {c : Code} {D : va_G} {cy : Nat → ClassId} {B sz : Nat} {sh : jm_S} {res : Int} {N : Nat} {m0 : jm_M} {k5 : Nat → Int → Int → Int → Int → Option Int} (C : jCx p s mi args meth c cX12_comesTo 6 RX12 (some .int) D cy) (K5 : ∀ (a0 : Nat) (x1 : Int) (x2 : Int) (x3 : Int) (x4 : Int) , jIn x1 → jIn x2 → jIn x3 → jIn x4 → ∀ (H : Heap) (locs : List Loc) (ls : Array Slot), jHs D cy B sz sh (jA B sz) s.heap H locs m0 → jL ls [some (jR B a0), some (jI x1), some (jI x2), some (jI x3), some (jI x4), none] → k5 a0 x1 x2 x3 x4 = some res → W p l e (jrm 2 0 0) s mi args below meth c H locs 0 0 (MQ below (jQc D cy B sz sh m0 (some (jI res)) (jIn res)) args s 0 0 (jA B sz)) (F0 mi 5 ls [])) {a0 : Nat} {x1 : Int} (h_x1 : jIn x1) {x2 : Int} (h_x2 : jIn x2) {x3 : Int} (h_x3 : jIn x3) {x4 : Int} (h_x4 : jIn x4) {H : Heap} {locs : List Loc} {ls : Array Slot} (S : jHs D cy B sz sh (jA B sz) s.heap H locs m0) (L : jL ls [some (jR B a0), some (jI x1), some (jI x2), some (jI x3), some (jI x4), none]) (hyp : f_X12_comesTo_b5 N sh k5 a0 x1 x2 x3 x4 m0 = some res) : W p l e (jrm 2 0 0) s mi args below meth c H locs 0 0 (MQ below (jQc D cy B sz sh m0 (some (jI res)) (jIn res)) args s 0 0 (jA B sz)) (F0 mi 5 ls []) := by
  unfold f_X12_comesTo_b5 at hyp
  refine jr_iload (pc := 5) C L dX12_comesTo_5 rfl ?_
  refine jr_iload_n (pc := 7) C L dX12_comesTo_7 rfl rfl ?_
  refine jr_icmp_ge (pc := 8) C h_x4 h_x2 (tgt := 70) dX12_comesTo_8 (by decide) (fun c1 => ?_) (fun c1 => ?_)
  · have hyp := (if_pos c1).symm.trans hyp
    refine jr_bipush (pc := 11) C dX12_comesTo_11 (by decide) ?_
    refine jr_iload_n (pc := 13) C L dX12_comesTo_13 rfl rfl ?_
    refine jr_imul (pc := 14) C dX12_comesTo_14 ?_
    refine jr_iload (pc := 15) C L dX12_comesTo_15 rfl ?_
    refine jr_iadd (pc := 17) C dX12_comesTo_17 ?_
    refine jr_istore (pc := 18) C L dX12_comesTo_18 (Nat.le_of_ble_eq_true rfl) (fun ls L => ?_)
    have L : jL ls [some (jR B a0), some (jI x1), some (jI x2), some (jI x3), some (jI x4), some (jI (jw ((jw (30 * x1)) + x4)))] := L
    refine jr_iload_n (pc := 20) C L dX12_comesTo_20 rfl rfl ?_
    refine jr_aload_n (pc := 21) C L dX12_comesTo_21 rfl rfl ?_
    obtain ⟨v2, hv2, hyp⟩ := jbind hyp
    refine jr_getR (pc := 22) C S lf_X12_19 rfl hv2 dX12_comesTo_22 ?_
    refine jr_iload (pc := 25) C L dX12_comesTo_25 rfl ?_
    obtain ⟨v3, hv3, hyp⟩ := jbind hyp
    have iv3 := jra_in S hv3
    refine jr_ial (pc := 27) C S (jIn_w _) hv3 dX12_comesTo_27 ?_
    obtain ⟨q4, hq4, hyp⟩ := jbind hyp
    refine jr_callS_I (pc := 28) C S L (As := [jI v3]) (rest := [jI x3]) (c_X12_isLoop (m0 := m0) iv3 hq4) ms_X12_isLoop ml_X12_91 (by decide) rfl rfl rfl (Nat.le_of_ble_eq_true rfl) ⟨Nat.le_refl 0, Nat.le_refl 0⟩ dX12_comesTo_28 (fun p5 H locs S => ?_)
    refine jr_if_eq (pc := 31) C p5 (tgt := 61) dX12_comesTo_31 (by decide) (fun c6 => ?_) (fun c6 => ?_)
    · have hyp := (if_pos c6).symm.trans hyp
      exact t_X12_comesTo_b61 C  K5 h_x1 h_x2 h_x4 h_x3 S (L.sub (jsub_s (jsub_s (jsub_s (jsub_n (jsub_s (jsub_n jsub_0))))))) hyp
    · have hyp := (if_neg c6).symm.trans hyp
      refine jr_iload (pc := 34) C L dX12_comesTo_34 rfl ?_
      refine jr_aload_n (pc := 36) C L dX12_comesTo_36 rfl rfl ?_
      obtain ⟨v7, hv7, hyp⟩ := jbind hyp
      refine jr_getR (pc := 37) C S lf_X12_22 rfl hv7 dX12_comesTo_37 ?_
      refine jr_iload (pc := 40) C L dX12_comesTo_40 rfl ?_
      obtain ⟨v8, hv8, hyp⟩ := jbind hyp
      have iv8 := jra_in S hv8
      refine jr_ial (pc := 42) C S (jIn_w _) hv8 dX12_comesTo_42 ?_
      refine jr_iadd (pc := 43) C dX12_comesTo_43 ?_
      refine jr_iload_n (pc := 44) C L dX12_comesTo_44 rfl rfl ?_
      refine jr_icmp_le (pc := 45) C (jIn_w _) h_x2 (tgt := 61) dX12_comesTo_45 (by decide) (fun c9 => ?_) (fun c9 => ?_)
      · have hyp := (if_pos c9).symm.trans hyp
        refine jr_aload_n (pc := 48) C L dX12_comesTo_48 rfl rfl ?_
        obtain ⟨v10, hv10, hyp⟩ := jbind hyp
        refine jr_getR (pc := 49) C S lf_X12_19 rfl hv10 dX12_comesTo_49 ?_
        refine jr_iload (pc := 52) C L dX12_comesTo_52 rfl ?_
        obtain ⟨v11, hv11, hyp⟩ := jbind hyp
        have iv11 := jra_in S hv11
        refine jr_ial (pc := 54) C S (jIn_w _) hv11 dX12_comesTo_54 ?_
        obtain ⟨q12, hq12, hyp⟩ := jbind hyp
        refine jr_callS_I (pc := 55) C S L (As := [jI v11]) (rest := [jI x3]) (c_X12_timesOf (m0 := m0) iv11 hq12) ms_X12_timesOf ml_X12_185 (by decide) rfl rfl rfl (Nat.le_of_ble_eq_true rfl) ⟨Nat.le_refl 0, Nat.le_refl 0⟩ dX12_comesTo_55 (fun p13 H locs S => ?_)
        refine jr_goto (pc := 58) C (tgt := 62) dX12_comesTo_58 (by decide) ?_
        exact t_X12_comesTo_b62 C  K5 h_x1 h_x2 h_x4 h_x3 p13 S (L.sub (jsub_s (jsub_s (jsub_s (jsub_n (jsub_s (jsub_n jsub_0))))))) hyp
      · have hyp := (if_neg c9).symm.trans hyp
        exact t_X12_comesTo_b61 C  K5 h_x1 h_x2 h_x4 h_x3 S (L.sub (jsub_s (jsub_s (jsub_s (jsub_n (jsub_s (jsub_n jsub_0))))))) hyp
  · have hyp := (if_neg c1).symm.trans hyp
    refine jr_iload_n (pc := 70) C L dX12_comesTo_70 rfl rfl ?_
    cases hyp
    exact jr_iret C S h_x3 dX12_comesTo_71
theorem t_X12_comesTo_l5 {p : Program} {l : Launch} {e : Env} {s : State} {mi : MethodId} {args : Array Value} {below : List Frame} {meth : Method} {c : Code} {D : va_G} {cy : Nat → ClassId} {B sz : Nat} {sh : jm_S} {res : Int} {N : Nat} {m0 : jm_M} (C : jCx p s mi args meth c cX12_comesTo 6 RX12 (some .int) D cy) : ∀ (n : Nat) (a0 : Nat) (x1 : Int) (x2 : Int) (x3 : Int) (x4 : Int), jIn x1 → jIn x2 → jIn x3 → jIn x4 → ∀ (H : Heap) (locs : List Loc) (ls : Array Slot), jHs D cy B sz sh (jA B sz) s.heap H locs m0 → jL ls [some (jR B a0), some (jI x1), some (jI x2), some (jI x3), some (jI x4), none] → f_X12_comesTo_l5 N sh n a0 x1 x2 x3 x4 m0 = some res → W p l e (jrm 2 0 0) s mi args below meth c H locs 0 0 (MQ below (jQc D cy B sz sh m0 (some (jI res)) (jIn res)) args s 0 0 (jA B sz)) (F0 mi 5 ls []) := by
  intro n
  induction n with
  | zero => intro a0 x1 x2 x3 x4 h_x1 h_x2 h_x3 h_x4 H locs ls S L hyp; cases hyp
  | succ n ih => intro a0 x1 x2 x3 x4 h_x1 h_x2 h_x3 h_x4 H locs ls S L hyp; exact t_X12_comesTo_b5 (N := N) C  ih h_x1 h_x2 h_x3 h_x4 S L hyp
set_option maxHeartbeats 4000000 in
set_option maxRecDepth 100000 in
theorem t_X12_comesTo_e {p : Program} {l : Launch} {e : Env} {s : State} {mi : MethodId} {args : Array Value} {below : List Frame} {meth : Method} {c : Code} {D : va_G} {cy : Nat → ClassId} {B sz : Nat} {sh : jm_S} {res : Int} {N : Nat} {m0 : jm_M} (C : jCx p s mi args meth c cX12_comesTo 6 RX12 (some .int) D cy) {a0 : Nat} {x1 : Int} (h_x1 : jIn x1) {x2 : Int} (h_x2 : jIn x2) {H : Heap} {locs : List Loc} {ls : Array Slot} (S : jHs D cy B sz sh (jA B sz) s.heap H locs m0) (L : jL ls [some (jR B a0), some (jI x1), some (jI x2), none, none, none]) (hyp : f_X12_comesTo N sh a0 x1 x2 m0 = some res) : W p l e (jrm 2 0 0) s mi args below meth c H locs 0 0 (MQ below (jQc D cy B sz sh m0 (some (jI res)) (jIn res)) args s 0 0 (jA B sz)) (F0 mi 0 ls []) := by
  unfold f_X12_comesTo at hyp
  refine jr_iconst (pc := 0) C dX12_comesTo_0 ?_
  refine jr_istore_n (pc := 1) C L dX12_comesTo_1 rfl (Nat.le_of_ble_eq_true rfl) (fun ls L => ?_)
  have L : jL ls [some (jR B a0), some (jI x1), some (jI x2), some (jI 1), none, none] := L
  refine jr_iconst (pc := 2) C dX12_comesTo_2 ?_
  refine jr_istore (pc := 3) C L dX12_comesTo_3 (Nat.le_of_ble_eq_true rfl) (fun ls L => ?_)
  have L : jL ls [some (jR B a0), some (jI x1), some (jI x2), some (jI 1), some (jI 0), none] := L
  exact t_X12_comesTo_l5 C   N a0 x1 x2 1 0 h_x1 h_x2 (show jIn 1 from ⟨by decide, by decide⟩) (show jIn 0 from ⟨by decide, by decide⟩)  _ _ _ S (L.sub (jsub_s (jsub_s (jsub_s (jsub_s (jsub_s (jsub_n jsub_0))))))) hyp
theorem c_X12_comesTo {l : Launch} {D : va_G} {cy : Nat → ClassId} {B sz : Nat} {sh : jm_S} {res : Int} {N : Nat} {m0 : jm_M} {a0 : Nat} {x1 : Int} (h_x1 : jIn x1) {x2 : Int} (h_x2 : jIn x2) (hyp : f_X12_comesTo N sh a0 x1 x2 m0 = some res) : jCt l D cy B sz sh 2 yX12_comesTo cX12_comesTo 6 (some .int) [jR B a0, jI x1, jI x2] m0 (some (jI res)) m0 (jIn res) :=
  jc_of (by decide) (fun v h => by simp only [List.mem_cons, List.not_mem_nil, or_false] at h; rcases h with rfl | rfl | rfl <;> first | rfl | exact jR_cat _ _) (Nat.le_of_ble_eq_true rfl) (fun C S L => t_X12_comesTo_e C  h_x1 h_x2 S L hyp)
set_option maxHeartbeats 4000000 in
set_option maxRecDepth 100000 in
theorem t_X12_bound_b304 {p : Program} {l : Launch} {e : Env} {s : State} {mi : MethodId} {args : Array Value} {below : List Frame} {meth : Method} {c : Code} {D : va_G} {cy : Nat → ClassId} {B sz : Nat} {sh : jm_S} {res : (Int × jm_M)} {N : Nat} {k240 : Nat → Int → Int → Int → Int → jm_M → Option (Int × jm_M)} (C : jCx p s mi args meth c cX12_bound 8 RX12 (some .int) D cy) (K240 : ∀ (a0 : Nat) (x1 : Int) (x2 : Int) (x3 : Int) (x4 : Int) , jIn x1 → jIn x2 → jIn x3 → jIn x4 → ∀ (m : jm_M) (H : Heap) (locs : List Loc) (ls : Array Slot), jHs D cy B sz sh (jA B sz) s.heap H locs m → jL ls [some (jR B a0), some (jI x1), some (jI x2), some (jI x3), some (jI x4), none, none, none] → k240 a0 x1 x2 x3 x4 m = some res → W p l e (jrm 5 0 0) s mi args below meth c H locs 0 0 (MQ below (jQc D cy B sz sh res.2 (some (jI res.1)) (jIn res.1)) args s 0 0 (jA B sz)) (F0 mi 240 ls [])) {a0 : Nat} {x1 : Int} (h_x1 : jIn x1) {x2 : Int} (h_x2 : jIn x2) {x3 : Int} (h_x3 : jIn x3) {x4 : Int} (h_x4 : jIn x4) {m : jm_M} {H : Heap} {locs : List Loc} {ls : Array Slot} (S : jHs D cy B sz sh (jA B sz) s.heap H locs m) (L : jL ls [some (jR B a0), some (jI x1), some (jI x2), some (jI x3), some (jI x4), none, none, none]) (hyp : f_X12_bound_b304 N sh k240 a0 x1 x2 x3 x4 m = some res) : W p l e (jrm 5 0 0) s mi args below meth c H locs 0 0 (MQ below (jQc D cy B sz sh res.2 (some (jI res.1)) (jIn res.1)) args s 0 0 (jA B sz)) (F0 mi 304 ls []) := by
  unfold f_X12_bound_b304 at hyp
  refine jr_iinc (pc := 304) C L dX12_bound_304 rfl (Nat.le_of_ble_eq_true rfl) (fun ls L => ?_)
  have L : jL ls [some (jR B a0), some (jI x1), some (jI x2), some (jI x3), some (jI (jw (x4 + 1))), none, none, none] := L
  refine jr_goto (pc := 307) C (tgt := 240) dX12_bound_307 (by decide) ?_
  exact K240 a0 x1 x2 x3 (jw (x4 + 1)) h_x1 h_x2 h_x3 (jIn_w _) m _ _ _ S (L.sub (jsub_s (jsub_s (jsub_s (jsub_s (jsub_s (jsub_n (jsub_n (jsub_n jsub_0))))))))) hyp
set_option maxHeartbeats 4000000 in
set_option maxRecDepth 100000 in
theorem t_X12_bound_b240 {p : Program} {l : Launch} {e : Env} {s : State} {mi : MethodId} {args : Array Value} {below : List Frame} {meth : Method} {c : Code} {D : va_G} {cy : Nat → ClassId} {B sz : Nat} {sh : jm_S} {res : (Int × jm_M)} {N : Nat} {k240 : Nat → Int → Int → Int → Int → jm_M → Option (Int × jm_M)} (C : jCx p s mi args meth c cX12_bound 8 RX12 (some .int) D cy) (K240 : ∀ (a0 : Nat) (x1 : Int) (x2 : Int) (x3 : Int) (x4 : Int) , jIn x1 → jIn x2 → jIn x3 → jIn x4 → ∀ (m : jm_M) (H : Heap) (locs : List Loc) (ls : Array Slot), jHs D cy B sz sh (jA B sz) s.heap H locs m → jL ls [some (jR B a0), some (jI x1), some (jI x2), some (jI x3), some (jI x4), none, none, none] → k240 a0 x1 x2 x3 x4 m = some res → W p l e (jrm 5 0 0) s mi args below meth c H locs 0 0 (MQ below (jQc D cy B sz sh res.2 (some (jI res.1)) (jIn res.1)) args s 0 0 (jA B sz)) (F0 mi 240 ls [])) {a0 : Nat} {x1 : Int} (h_x1 : jIn x1) {x2 : Int} (h_x2 : jIn x2) {x3 : Int} (h_x3 : jIn x3) {x4 : Int} (h_x4 : jIn x4) {m : jm_M} {H : Heap} {locs : List Loc} {ls : Array Slot} (S : jHs D cy B sz sh (jA B sz) s.heap H locs m) (L : jL ls [some (jR B a0), some (jI x1), some (jI x2), some (jI x3), some (jI x4), none, none, none]) (hyp : f_X12_bound_b240 N sh k240 a0 x1 x2 x3 x4 m = some res) : W p l e (jrm 5 0 0) s mi args below meth c H locs 0 0 (MQ below (jQc D cy B sz sh res.2 (some (jI res.1)) (jIn res.1)) args s 0 0 (jA B sz)) (F0 mi 240 ls []) := by
  unfold f_X12_bound_b240 at hyp
  refine jr_iload (pc := 240) C L dX12_bound_240 rfl ?_
  refine jr_aload_n (pc := 242) C L dX12_bound_242 rfl rfl ?_
  obtain ⟨v1, hv1, hyp⟩ := jbind hyp
  refine jr_getR (pc := 243) C S lf_X12_16 rfl hv1 dX12_bound_243 ?_
  refine jr_iload_n (pc := 246) C L dX12_bound_246 rfl rfl ?_
  obtain ⟨v2, hv2, hyp⟩ := jbind hyp
  have iv2 := jra_in S hv2
  refine jr_ial (pc := 247) C S h_x1 hv2 dX12_bound_247 ?_
  refine jr_icmp_ge (pc := 248) C h_x4 iv2 (tgt := 310) dX12_bound_248 (by decide) (fun c3 => ?_) (fun c3 => ?_)
  · have hyp := (if_pos c3).symm.trans hyp
    refine jr_iload_n (pc := 251) C L dX12_bound_251 rfl rfl ?_
    refine jr_iconst (pc := 252) C dX12_bound_252 ?_
    refine jr_icmp_ne (pc := 253) C h_x2 (show jIn 1 from ⟨by decide, by decide⟩) (tgt := 310) dX12_bound_253 (by decide) (fun c4 => ?_) (fun c4 => ?_)
    · have hyp := (if_pos c4).symm.trans hyp
      refine jr_aload_n (pc := 256) C L dX12_bound_256 rfl rfl ?_
      obtain ⟨v5, hv5, hyp⟩ := jbind hyp
      refine jr_getR (pc := 257) C S lf_X12_19 rfl hv5 dX12_bound_257 ?_
      refine jr_bipush (pc := 260) C dX12_bound_260 (by decide) ?_
      refine jr_iload_n (pc := 262) C L dX12_bound_262 rfl rfl ?_
      refine jr_imul (pc := 263) C dX12_bound_263 ?_
      refine jr_iload (pc := 264) C L dX12_bound_264 rfl ?_
      refine jr_iadd (pc := 266) C dX12_bound_266 ?_
      obtain ⟨v6, hv6, hyp⟩ := jbind hyp
      have iv6 := jra_in S hv6
      refine jr_ial (pc := 267) C S (jIn_w _) hv6 dX12_bound_267 ?_
      obtain ⟨q7, hq7, hyp⟩ := jbind hyp
      refine jr_callS_I (pc := 268) C S L (As := [jI v6]) (rest := []) (c_X12_isLoop (m0 := m) iv6 hq7) ms_X12_isLoop ml_X12_91 (by decide) rfl rfl rfl (Nat.le_of_ble_eq_true rfl) ⟨Nat.le_refl 0, Nat.le_refl 0⟩ dX12_bound_268 (fun p8 H locs S => ?_)
      refine jr_if_eq (pc := 271) C p8 (tgt := 304) dX12_bound_271 (by decide) (fun c9 => ?_) (fun c9 => ?_)
      · have hyp := (if_pos c9).symm.trans hyp
        exact t_X12_bound_b304 C  K240 h_x1 h_x2 h_x3 h_x4 S (L.sub (jsub_s (jsub_s (jsub_s (jsub_s (jsub_s (jsub_n (jsub_n (jsub_n jsub_0))))))))) hyp
      · have hyp := (if_neg c9).symm.trans hyp
        refine jr_iload_n (pc := 274) C L dX12_bound_274 rfl rfl ?_
        refine jr_aload_n (pc := 275) C L dX12_bound_275 rfl rfl ?_
        obtain ⟨v10, hv10, hyp⟩ := jbind hyp
        refine jr_getR (pc := 276) C S lf_X12_7 rfl hv10 dX12_bound_276 ?_
        refine jr_iconst (pc := 279) C dX12_bound_279 ?_
        obtain ⟨v11, hv11, hyp⟩ := jbind hyp
        have iv11 := jra_in S hv11
        refine jr_ial (pc := 280) C S (show jIn 2 from ⟨by decide, by decide⟩) hv11 dX12_bound_280 ?_
        refine jr_iconst (pc := 281) C dX12_bound_281 ?_
        refine jr_isub (pc := 282) C dX12_bound_282 ?_
        refine jr_aload_n (pc := 283) C L dX12_bound_283 rfl rfl ?_
        refine jr_iload_n (pc := 284) C L dX12_bound_284 rfl rfl ?_
        refine jr_iload (pc := 285) C L dX12_bound_285 rfl ?_
        obtain ⟨u12, hu12, hyp⟩ := jbind hyp
        obtain ⟨q13, hq13, hyp⟩ := jbind hyp
        refine jr_callV_I (pc := 287) C S L (As := [jI x1, jI x4]) (rest := [jI (jw (v11 - 1)), jI x3]) (c_X12_onceIn (m0 := m) h_x1 h_x4 hq13) mv_X12_onceIn ml_X12_258 rfl (jck_spec hu12) (by decide) rfl rfl rfl (Nat.le_of_ble_eq_true rfl) ⟨Nat.le_refl 0, Nat.le_refl 0⟩ dX12_bound_287 (fun p14 H locs S => ?_)
        obtain ⟨q15, hq15, hyp⟩ := jbind hyp
        refine jr_callS_I (pc := 290) C S L (As := [jI q13]) (rest := [jI (jw (v11 - 1)), jI x3]) (c_X12_bits (m0 := m) p14 hq15) ms_X12_bits ml_X12_249 (by decide) rfl rfl rfl (Nat.le_of_ble_eq_true rfl) ⟨Nat.le_refl 0, Nat.le_refl 0⟩ dX12_bound_290 (fun p16 H locs S => ?_)
        refine jr_imul (pc := 293) C dX12_bound_293 ?_
        refine jr_aload_n (pc := 294) C L dX12_bound_294 rfl rfl ?_
        refine jr_iload_n (pc := 295) C L dX12_bound_295 rfl rfl ?_
        refine jr_iload (pc := 296) C L dX12_bound_296 rfl ?_
        obtain ⟨u17, hu17, hyp⟩ := jbind hyp
        obtain ⟨q18, hq18, hyp⟩ := jbind hyp
        refine jr_callV_I (pc := 298) C S L (As := [jI x1, jI x4]) (rest := [jI (jw ((jw (v11 - 1)) * q15)), jI x3]) (c_X12_comesTo (m0 := m) h_x1 h_x4 hq18) mv_X12_comesTo ml_X12_261 rfl (jck_spec hu17) (by decide) rfl rfl rfl (Nat.le_of_ble_eq_true rfl) ⟨Nat.le_refl 0, Nat.le_refl 0⟩ dX12_bound_298 (fun p19 H locs S => ?_)
        refine jr_imul (pc := 301) C dX12_bound_301 ?_
        refine jr_iadd (pc := 302) C dX12_bound_302 ?_
        refine jr_istore_n (pc := 303) C L dX12_bound_303 rfl (Nat.le_of_ble_eq_true rfl) (fun ls L => ?_)
        have L : jL ls [some (jR B a0), some (jI x1), some (jI x2), some (jI (jw (x3 + (jw ((jw ((jw (v11 - 1)) * q15)) * q18))))), some (jI x4), none, none, none] := L
        exact t_X12_bound_b304 C  K240 h_x1 h_x2 (jIn_w _) h_x4 S (L.sub (jsub_s (jsub_s (jsub_s (jsub_s (jsub_s (jsub_n (jsub_n (jsub_n jsub_0))))))))) hyp
    · have hyp := (if_neg c4).symm.trans hyp
      refine jr_iload_n (pc := 310) C L dX12_bound_310 rfl rfl ?_
      cases hyp
      exact jr_iret C S h_x3 dX12_bound_311
  · have hyp := (if_neg c3).symm.trans hyp
    refine jr_iload_n (pc := 310) C L dX12_bound_310 rfl rfl ?_
    cases hyp
    exact jr_iret C S h_x3 dX12_bound_311
theorem t_X12_bound_l240 {p : Program} {l : Launch} {e : Env} {s : State} {mi : MethodId} {args : Array Value} {below : List Frame} {meth : Method} {c : Code} {D : va_G} {cy : Nat → ClassId} {B sz : Nat} {sh : jm_S} {res : (Int × jm_M)} {N : Nat} (C : jCx p s mi args meth c cX12_bound 8 RX12 (some .int) D cy) : ∀ (n : Nat) (a0 : Nat) (x1 : Int) (x2 : Int) (x3 : Int) (x4 : Int), jIn x1 → jIn x2 → jIn x3 → jIn x4 → ∀ (m : jm_M) (H : Heap) (locs : List Loc) (ls : Array Slot), jHs D cy B sz sh (jA B sz) s.heap H locs m → jL ls [some (jR B a0), some (jI x1), some (jI x2), some (jI x3), some (jI x4), none, none, none] → f_X12_bound_l240 N sh n a0 x1 x2 x3 x4 m = some res → W p l e (jrm 5 0 0) s mi args below meth c H locs 0 0 (MQ below (jQc D cy B sz sh res.2 (some (jI res.1)) (jIn res.1)) args s 0 0 (jA B sz)) (F0 mi 240 ls []) := by
  intro n
  induction n with
  | zero => intro a0 x1 x2 x3 x4 h_x1 h_x2 h_x3 h_x4 m H locs ls S L hyp; cases hyp
  | succ n ih => intro a0 x1 x2 x3 x4 h_x1 h_x2 h_x3 h_x4 m H locs ls S L hyp; exact t_X12_bound_b240 (N := N) C  ih h_x1 h_x2 h_x3 h_x4 S L hyp
set_option maxHeartbeats 4000000 in
set_option maxRecDepth 100000 in
theorem t_X12_bound_b224 {p : Program} {l : Launch} {e : Env} {s : State} {mi : MethodId} {args : Array Value} {below : List Frame} {meth : Method} {c : Code} {D : va_G} {cy : Nat → ClassId} {B sz : Nat} {sh : jm_S} {res : (Int × jm_M)} {N : Nat} {k35 : Nat → Int → Int → Int → jm_M → Option (Int × jm_M)} (C : jCx p s mi args meth c cX12_bound 8 RX12 (some .int) D cy) (K35 : ∀ (a0 : Nat) (x1 : Int) (x2 : Int) (x3 : Int) , jIn x1 → jIn x2 → jIn x3 → ∀ (m : jm_M) (H : Heap) (locs : List Loc) (ls : Array Slot), jHs D cy B sz sh (jA B sz) s.heap H locs m → jL ls [some (jR B a0), some (jI x1), some (jI x2), some (jI x3), none, none, none, none] → k35 a0 x1 x2 x3 m = some res → W p l e (jrm 5 0 0) s mi args below meth c H locs 0 0 (MQ below (jQc D cy B sz sh res.2 (some (jI res.1)) (jIn res.1)) args s 0 0 (jA B sz)) (F0 mi 35 ls [])) {a0 : Nat} {x1 : Int} (h_x1 : jIn x1) {x2 : Int} (h_x2 : jIn x2) {x3 : Int} (h_x3 : jIn x3) {m : jm_M} {H : Heap} {locs : List Loc} {ls : Array Slot} (S : jHs D cy B sz sh (jA B sz) s.heap H locs m) (L : jL ls [some (jR B a0), some (jI x1), some (jI x2), some (jI x3), none, none, none, none]) (hyp : f_X12_bound_b224 N sh k35 a0 x1 x2 x3 m = some res) : W p l e (jrm 5 0 0) s mi args below meth c H locs 0 0 (MQ below (jQc D cy B sz sh res.2 (some (jI res.1)) (jIn res.1)) args s 0 0 (jA B sz)) (F0 mi 224 ls []) := by
  unfold f_X12_bound_b224 at hyp
  refine jr_iinc (pc := 224) C L dX12_bound_224 rfl (Nat.le_of_ble_eq_true rfl) (fun ls L => ?_)
  have L : jL ls [some (jR B a0), some (jI x1), some (jI x2), some (jI (jw (x3 + (-1)))), none, none, none, none] := L
  refine jr_goto (pc := 227) C (tgt := 35) dX12_bound_227 (by decide) ?_
  exact K35 a0 x1 x2 (jw (x3 + (-1))) h_x1 h_x2 (jIn_w _) m _ _ _ S (L.sub (jsub_s (jsub_s (jsub_s (jsub_s (jsub_n (jsub_n (jsub_n (jsub_n jsub_0))))))))) hyp
set_option maxHeartbeats 4000000 in
set_option maxRecDepth 100000 in
theorem t_X12_bound_b223 {p : Program} {l : Launch} {e : Env} {s : State} {mi : MethodId} {args : Array Value} {below : List Frame} {meth : Method} {c : Code} {D : va_G} {cy : Nat → ClassId} {B sz : Nat} {sh : jm_S} {res : (Int × jm_M)} {N : Nat} {k35 : Nat → Int → Int → Int → jm_M → Option (Int × jm_M)} (C : jCx p s mi args meth c cX12_bound 8 RX12 (some .int) D cy) (K35 : ∀ (a0 : Nat) (x1 : Int) (x2 : Int) (x3 : Int) , jIn x1 → jIn x2 → jIn x3 → ∀ (m : jm_M) (H : Heap) (locs : List Loc) (ls : Array Slot), jHs D cy B sz sh (jA B sz) s.heap H locs m → jL ls [some (jR B a0), some (jI x1), some (jI x2), some (jI x3), none, none, none, none] → k35 a0 x1 x2 x3 m = some res → W p l e (jrm 5 0 0) s mi args below meth c H locs 0 0 (MQ below (jQc D cy B sz sh res.2 (some (jI res.1)) (jIn res.1)) args s 0 0 (jA B sz)) (F0 mi 35 ls [])) {a0 : Nat} {x1 : Int} (h_x1 : jIn x1) {x2 : Int} (h_x2 : jIn x2) {x3 : Int} (h_x3 : jIn x3) {r0 : Nat} {s1 : Int} (h_s1 : jIn s1) {s2 : Int} (h_s2 : jIn s2) {m : jm_M} {H : Heap} {locs : List Loc} {ls : Array Slot} (S : jHs D cy B sz sh (jA B sz) s.heap H locs m) (L : jL ls [some (jR B a0), some (jI x1), some (jI x2), some (jI x3), none, none, none, none]) (hyp : f_X12_bound_b223 N sh k35 a0 x1 x2 x3 r0 s1 s2 m = some res) : W p l e (jrm 5 0 0) s mi args below meth c H locs 0 0 (MQ below (jQc D cy B sz sh res.2 (some (jI res.1)) (jIn res.1)) args s 0 0 (jA B sz)) (F0 mi 223 ls [jI s2, jI s1, jR B r0]) := by
  unfold f_X12_bound_b223 at hyp
  obtain ⟨m20, hm20, hyp⟩ := jbind hyp
  refine jr_ias (pc := 223) C S h_s1 h_s2 hm20 dX12_bound_223 (fun H locs S => ?_)
  exact t_X12_bound_b224 C  K35 h_x1 h_x2 h_x3 S (L.sub (jsub_s (jsub_s (jsub_s (jsub_s (jsub_n (jsub_n (jsub_n (jsub_n jsub_0))))))))) hyp
set_option maxHeartbeats 4000000 in
set_option maxRecDepth 100000 in
theorem t_X12_bound_b107 {p : Program} {l : Launch} {e : Env} {s : State} {mi : MethodId} {args : Array Value} {below : List Frame} {meth : Method} {c : Code} {D : va_G} {cy : Nat → ClassId} {B sz : Nat} {sh : jm_S} {res : (Int × jm_M)} {N : Nat} {k35 : Nat → Int → Int → Int → jm_M → Option (Int × jm_M)} (C : jCx p s mi args meth c cX12_bound 8 RX12 (some .int) D cy) (K35 : ∀ (a0 : Nat) (x1 : Int) (x2 : Int) (x3 : Int) , jIn x1 → jIn x2 → jIn x3 → ∀ (m : jm_M) (H : Heap) (locs : List Loc) (ls : Array Slot), jHs D cy B sz sh (jA B sz) s.heap H locs m → jL ls [some (jR B a0), some (jI x1), some (jI x2), some (jI x3), none, none, none, none] → k35 a0 x1 x2 x3 m = some res → W p l e (jrm 5 0 0) s mi args below meth c H locs 0 0 (MQ below (jQc D cy B sz sh res.2 (some (jI res.1)) (jIn res.1)) args s 0 0 (jA B sz)) (F0 mi 35 ls [])) {a0 : Nat} {x1 : Int} (h_x1 : jIn x1) {x2 : Int} (h_x2 : jIn x2) {x3 : Int} (h_x3 : jIn x3) {r0 : Nat} {s1 : Int} (h_s1 : jIn s1) {s2 : Int} (h_s2 : jIn s2) {m : jm_M} {H : Heap} {locs : List Loc} {ls : Array Slot} (S : jHs D cy B sz sh (jA B sz) s.heap H locs m) (L : jL ls [some (jR B a0), some (jI x1), some (jI x2), some (jI x3), none, none, none, none]) (hyp : f_X12_bound_b107 N sh k35 a0 x1 x2 x3 r0 s1 s2 m = some res) : W p l e (jrm 5 0 0) s mi args below meth c H locs 0 0 (MQ below (jQc D cy B sz sh res.2 (some (jI res.1)) (jIn res.1)) args s 0 0 (jA B sz)) (F0 mi 107 ls [jI s2, jI s1, jR B r0]) := by
  unfold f_X12_bound_b107 at hyp
  obtain ⟨m21, hm21, hyp⟩ := jbind hyp
  refine jr_ias (pc := 107) C S h_s1 h_s2 hm21 dX12_bound_107 (fun H locs S => ?_)
  refine jr_goto (pc := 108) C (tgt := 224) dX12_bound_108 (by decide) ?_
  exact t_X12_bound_b224 C  K35 h_x1 h_x2 h_x3 S (L.sub (jsub_s (jsub_s (jsub_s (jsub_s (jsub_n (jsub_n (jsub_n (jsub_n jsub_0))))))))) hyp
set_option maxHeartbeats 4000000 in
set_option maxRecDepth 100000 in
theorem t_X12_bound_b97 {p : Program} {l : Launch} {e : Env} {s : State} {mi : MethodId} {args : Array Value} {below : List Frame} {meth : Method} {c : Code} {D : va_G} {cy : Nat → ClassId} {B sz : Nat} {sh : jm_S} {res : (Int × jm_M)} {N : Nat} {k35 : Nat → Int → Int → Int → jm_M → Option (Int × jm_M)} (C : jCx p s mi args meth c cX12_bound 8 RX12 (some .int) D cy) (K35 : ∀ (a0 : Nat) (x1 : Int) (x2 : Int) (x3 : Int) , jIn x1 → jIn x2 → jIn x3 → ∀ (m : jm_M) (H : Heap) (locs : List Loc) (ls : Array Slot), jHs D cy B sz sh (jA B sz) s.heap H locs m → jL ls [some (jR B a0), some (jI x1), some (jI x2), some (jI x3), none, none, none, none] → k35 a0 x1 x2 x3 m = some res → W p l e (jrm 5 0 0) s mi args below meth c H locs 0 0 (MQ below (jQc D cy B sz sh res.2 (some (jI res.1)) (jIn res.1)) args s 0 0 (jA B sz)) (F0 mi 35 ls [])) {a0 : Nat} {x1 : Int} (h_x1 : jIn x1) {x2 : Int} (h_x2 : jIn x2) {x3 : Int} (h_x3 : jIn x3) {r0 : Nat} {s1 : Int} (h_s1 : jIn s1) {m : jm_M} {H : Heap} {locs : List Loc} {ls : Array Slot} (S : jHs D cy B sz sh (jA B sz) s.heap H locs m) (L : jL ls [some (jR B a0), some (jI x1), some (jI x2), some (jI x3), none, none, none, none]) (hyp : f_X12_bound_b97 N sh k35 a0 x1 x2 x3 r0 s1 m = some res) : W p l e (jrm 5 0 0) s mi args below meth c H locs 0 0 (MQ below (jQc D cy B sz sh res.2 (some (jI res.1)) (jIn res.1)) args s 0 0 (jA B sz)) (F0 mi 97 ls [jI s1, jR B r0]) := by
  unfold f_X12_bound_b97 at hyp
  refine jr_iconst (pc := 97) C dX12_bound_97 ?_
  refine jr_goto (pc := 98) C (tgt := 107) dX12_bound_98 (by decide) ?_
  exact t_X12_bound_b107 C  K35 h_x1 h_x2 h_x3 h_s1 (show jIn 1 from ⟨by decide, by decide⟩) S (L.sub (jsub_s (jsub_s (jsub_s (jsub_s (jsub_n (jsub_n (jsub_n (jsub_n jsub_0))))))))) hyp
set_option maxHeartbeats 4000000 in
set_option maxRecDepth 100000 in
theorem t_X12_bound_b101 {p : Program} {l : Launch} {e : Env} {s : State} {mi : MethodId} {args : Array Value} {below : List Frame} {meth : Method} {c : Code} {D : va_G} {cy : Nat → ClassId} {B sz : Nat} {sh : jm_S} {res : (Int × jm_M)} {N : Nat} {k35 : Nat → Int → Int → Int → jm_M → Option (Int × jm_M)} (C : jCx p s mi args meth c cX12_bound 8 RX12 (some .int) D cy) (K35 : ∀ (a0 : Nat) (x1 : Int) (x2 : Int) (x3 : Int) , jIn x1 → jIn x2 → jIn x3 → ∀ (m : jm_M) (H : Heap) (locs : List Loc) (ls : Array Slot), jHs D cy B sz sh (jA B sz) s.heap H locs m → jL ls [some (jR B a0), some (jI x1), some (jI x2), some (jI x3), none, none, none, none] → k35 a0 x1 x2 x3 m = some res → W p l e (jrm 5 0 0) s mi args below meth c H locs 0 0 (MQ below (jQc D cy B sz sh res.2 (some (jI res.1)) (jIn res.1)) args s 0 0 (jA B sz)) (F0 mi 35 ls [])) {a0 : Nat} {x1 : Int} (h_x1 : jIn x1) {x2 : Int} (h_x2 : jIn x2) {x3 : Int} (h_x3 : jIn x3) {r0 : Nat} {s1 : Int} (h_s1 : jIn s1) {m : jm_M} {H : Heap} {locs : List Loc} {ls : Array Slot} (S : jHs D cy B sz sh (jA B sz) s.heap H locs m) (L : jL ls [some (jR B a0), some (jI x1), some (jI x2), some (jI x3), none, none, none, none]) (hyp : f_X12_bound_b101 N sh k35 a0 x1 x2 x3 r0 s1 m = some res) : W p l e (jrm 5 0 0) s mi args below meth c H locs 0 0 (MQ below (jQc D cy B sz sh res.2 (some (jI res.1)) (jIn res.1)) args s 0 0 (jA B sz)) (F0 mi 101 ls [jI s1, jR B r0]) := by
  unfold f_X12_bound_b101 at hyp
  refine jr_aload_n (pc := 101) C L dX12_bound_101 rfl rfl ?_
  obtain ⟨v22, hv22, hyp⟩ := jbind hyp
  refine jr_getR (pc := 102) C S lf_X12_7 rfl hv22 dX12_bound_102 ?_
  refine jr_iconst (pc := 105) C dX12_bound_105 ?_
  obtain ⟨v23, hv23, hyp⟩ := jbind hyp
  have iv23 := jra_in S hv23
  refine jr_ial (pc := 106) C S (show jIn 2 from ⟨by decide, by decide⟩) hv23 dX12_bound_106 ?_
  exact t_X12_bound_b107 C  K35 h_x1 h_x2 h_x3 h_s1 iv23 S (L.sub (jsub_s (jsub_s (jsub_s (jsub_s (jsub_n (jsub_n (jsub_n (jsub_n jsub_0))))))))) hyp
set_option maxHeartbeats 4000000 in
set_option maxRecDepth 100000 in
theorem t_X12_bound_b35 {p : Program} {l : Launch} {e : Env} {s : State} {mi : MethodId} {args : Array Value} {below : List Frame} {meth : Method} {c : Code} {D : va_G} {cy : Nat → ClassId} {B sz : Nat} {sh : jm_S} {res : (Int × jm_M)} {N : Nat} {k35 : Nat → Int → Int → Int → jm_M → Option (Int × jm_M)} (C : jCx p s mi args meth c cX12_bound 8 RX12 (some .int) D cy) (K35 : ∀ (a0 : Nat) (x1 : Int) (x2 : Int) (x3 : Int) , jIn x1 → jIn x2 → jIn x3 → ∀ (m : jm_M) (H : Heap) (locs : List Loc) (ls : Array Slot), jHs D cy B sz sh (jA B sz) s.heap H locs m → jL ls [some (jR B a0), some (jI x1), some (jI x2), some (jI x3), none, none, none, none] → k35 a0 x1 x2 x3 m = some res → W p l e (jrm 5 0 0) s mi args below meth c H locs 0 0 (MQ below (jQc D cy B sz sh res.2 (some (jI res.1)) (jIn res.1)) args s 0 0 (jA B sz)) (F0 mi 35 ls [])) {a0 : Nat} {x1 : Int} (h_x1 : jIn x1) {x2 : Int} (h_x2 : jIn x2) {x3 : Int} (h_x3 : jIn x3) {m : jm_M} {H : Heap} {locs : List Loc} {ls : Array Slot} (S : jHs D cy B sz sh (jA B sz) s.heap H locs m) (L : jL ls [some (jR B a0), some (jI x1), some (jI x2), some (jI x3), none, none, none, none]) (hyp : f_X12_bound_b35 N sh k35 a0 x1 x2 x3 m = some res) : W p l e (jrm 5 0 0) s mi args below meth c H locs 0 0 (MQ below (jQc D cy B sz sh res.2 (some (jI res.1)) (jIn res.1)) args s 0 0 (jA B sz)) (F0 mi 35 ls []) := by
  unfold f_X12_bound_b35 at hyp
  refine jr_iload_n (pc := 35) C L dX12_bound_35 rfl rfl ?_
  refine jr_if_lt (pc := 36) C h_x3 (tgt := 230) dX12_bound_36 (by decide) (fun c24 => ?_) (fun c24 => ?_)
  · have hyp := (if_pos c24).symm.trans hyp
    refine jr_aload_n (pc := 230) C L dX12_bound_230 rfl rfl ?_
    obtain ⟨v25, hv25, hyp⟩ := jbind hyp
    refine jr_getR (pc := 231) C S lf_X12_67 rfl hv25 dX12_bound_231 ?_
    refine jr_iconst (pc := 234) C dX12_bound_234 ?_
    obtain ⟨v26, hv26, hyp⟩ := jbind hyp
    have iv26 := jra_in S hv26
    refine jr_ial (pc := 235) C S (show jIn 0 from ⟨by decide, by decide⟩) hv26 dX12_bound_235 ?_
    refine jr_istore_n (pc := 236) C L dX12_bound_236 rfl (Nat.le_of_ble_eq_true rfl) (fun ls L => ?_)
    have L : jL ls [some (jR B a0), some (jI x1), some (jI x2), some (jI v26), none, none, none, none] := L
    refine jr_iconst (pc := 237) C dX12_bound_237 ?_
    refine jr_istore (pc := 238) C L dX12_bound_238 (Nat.le_of_ble_eq_true rfl) (fun ls L => ?_)
    have L : jL ls [some (jR B a0), some (jI x1), some (jI x2), some (jI v26), some (jI 0), none, none, none] := L
    exact t_X12_bound_l240 C   N a0 x1 x2 v26 0 h_x1 h_x2 iv26 (show jIn 0 from ⟨by decide, by decide⟩) m _ _ _ S (L.sub (jsub_s (jsub_s (jsub_s (jsub_s (jsub_s (jsub_n (jsub_n (jsub_n jsub_0))))))))) hyp
  · have hyp := (if_neg c24).symm.trans hyp
    refine jr_bipush (pc := 39) C dX12_bound_39 (by decide) ?_
    refine jr_iload_n (pc := 41) C L dX12_bound_41 rfl rfl ?_
    refine jr_imul (pc := 42) C dX12_bound_42 ?_
    refine jr_iload_n (pc := 43) C L dX12_bound_43 rfl rfl ?_
    refine jr_iadd (pc := 44) C dX12_bound_44 ?_
    refine jr_istore (pc := 45) C L dX12_bound_45 (Nat.le_of_ble_eq_true rfl) (fun ls L => ?_)
    have L : jL ls [some (jR B a0), some (jI x1), some (jI x2), some (jI x3), some (jI (jw ((jw (30 * x1)) + x3))), none, none, none] := L
    refine jr_aload_n (pc := 47) C L dX12_bound_47 rfl rfl ?_
    obtain ⟨v27, hv27, hyp⟩ := jbind hyp
    refine jr_getR (pc := 48) C S lf_X12_19 rfl hv27 dX12_bound_48 ?_
    refine jr_iload (pc := 51) C L dX12_bound_51 rfl ?_
    obtain ⟨v28, hv28, hyp⟩ := jbind hyp
    have iv28 := jra_in S hv28
    refine jr_ial (pc := 53) C S (jIn_w _) hv28 dX12_bound_53 ?_
    refine jr_istore (pc := 54) C L dX12_bound_54 (Nat.le_of_ble_eq_true rfl) (fun ls L => ?_)
    have L : jL ls [some (jR B a0), some (jI x1), some (jI x2), some (jI x3), some (jI (jw ((jw (30 * x1)) + x3))), some (jI v28), none, none] := L
    refine jr_iload (pc := 56) C L dX12_bound_56 rfl ?_
    refine jr_bipush (pc := 58) C dX12_bound_58 (by decide) ?_
    refine jr_bipush (pc := 60) C dX12_bound_60 (by decide) ?_
    obtain ⟨q29, hq29, hyp⟩ := jbind hyp
    refine jr_callS_I (pc := 62) C S L (As := [jI v28, jI 48, jI 55]) (rest := []) (c_X12_in (m0 := m) iv28 (show jIn 48 from ⟨by decide, by decide⟩) (show jIn 55 from ⟨by decide, by decide⟩) hq29) ms_X12_in ml_X12_80 (by decide) rfl rfl rfl (Nat.le_of_ble_eq_true rfl) ⟨Nat.le_refl 0, Nat.le_refl 0⟩ dX12_bound_62 (fun p30 H locs S => ?_)
    refine jr_if_eq (pc := 65) C p30 (tgt := 111) dX12_bound_65 (by decide) (fun c31 => ?_) (fun c31 => ?_)
    · have hyp := (if_pos c31).symm.trans hyp
      refine jr_iload (pc := 111) C L dX12_bound_111 rfl ?_
      refine jr_bipush (pc := 113) C dX12_bound_113 (by decide) ?_
      refine jr_icmp_ne (pc := 115) C iv28 (show jIn 45 from ⟨by decide, by decide⟩) (tgt := 128) dX12_bound_115 (by decide) (fun c32 => ?_) (fun c32 => ?_)
      · have hyp := (if_pos c32).symm.trans hyp
        refine jr_aload_n (pc := 118) C L dX12_bound_118 rfl rfl ?_
        obtain ⟨v33, hv33, hyp⟩ := jbind hyp
        refine jr_getR (pc := 119) C S lf_X12_67 rfl hv33 dX12_bound_119 ?_
        refine jr_iload_n (pc := 122) C L dX12_bound_122 rfl rfl ?_
        refine jr_iconst (pc := 123) C dX12_bound_123 ?_
        obtain ⟨m34, hm34, hyp⟩ := jbind hyp
        refine jr_ias (pc := 124) C S h_x3 (show jIn 0 from ⟨by decide, by decide⟩) hm34 dX12_bound_124 (fun H locs S => ?_)
        refine jr_goto (pc := 125) C (tgt := 224) dX12_bound_125 (by decide) ?_
        exact t_X12_bound_b224 C  K35 h_x1 h_x2 h_x3 S (L.sub (jsub_s (jsub_s (jsub_s (jsub_s (jsub_n (jsub_n (jsub_n (jsub_n jsub_0))))))))) hyp
      · have hyp := (if_neg c32).symm.trans hyp
        refine jr_iload (pc := 128) C L dX12_bound_128 rfl ?_
        obtain ⟨q35, hq35, hyp⟩ := jbind hyp
        refine jr_callS_I (pc := 130) C S L (As := [jI v28]) (rest := []) (c_X12_isLoop (m0 := m) iv28 hq35) ms_X12_isLoop ml_X12_91 (by decide) rfl rfl rfl (Nat.le_of_ble_eq_true rfl) ⟨Nat.le_refl 0, Nat.le_refl 0⟩ dX12_bound_130 (fun p36 H locs S => ?_)
        refine jr_if_eq (pc := 133) C p36 (tgt := 159) dX12_bound_133 (by decide) (fun c37 => ?_) (fun c37 => ?_)
        · have hyp := (if_pos c37).symm.trans hyp
          refine jr_aload_n (pc := 159) C L dX12_bound_159 rfl rfl ?_
          obtain ⟨v38, hv38, hyp⟩ := jbind hyp
          refine jr_getR (pc := 160) C S lf_X12_67 rfl hv38 dX12_bound_160 ?_
          refine jr_iload_n (pc := 163) C L dX12_bound_163 rfl rfl ?_
          refine jr_iconst (pc := 164) C dX12_bound_164 ?_
          refine jr_iadd (pc := 165) C dX12_bound_165 ?_
          obtain ⟨v39, hv39, hyp⟩ := jbind hyp
          have iv39 := jra_in S hv39
          refine jr_ial (pc := 166) C S (jIn_w _) hv39 dX12_bound_166 ?_
          refine jr_istore (pc := 167) C L dX12_bound_167 (Nat.le_of_ble_eq_true rfl) (fun ls L => ?_)
          have L : jL ls [some (jR B a0), some (jI x1), some (jI x2), some (jI x3), some (jI (jw ((jw (30 * x1)) + x3))), some (jI v28), some (jI v39), none] := L
          refine jr_aload_n (pc := 169) C L dX12_bound_169 rfl rfl ?_
          obtain ⟨v40, hv40, hyp⟩ := jbind hyp
          refine jr_getR (pc := 170) C S lf_X12_67 rfl hv40 dX12_bound_170 ?_
          refine jr_iload_n (pc := 173) C L dX12_bound_173 rfl rfl ?_
          refine jr_iconst (pc := 174) C dX12_bound_174 ?_
          refine jr_iadd (pc := 175) C dX12_bound_175 ?_
          refine jr_aload_n (pc := 176) C L dX12_bound_176 rfl rfl ?_
          obtain ⟨v41, hv41, hyp⟩ := jbind hyp
          refine jr_getR (pc := 177) C S lf_X12_22 rfl hv41 dX12_bound_177 ?_
          refine jr_iload (pc := 180) C L dX12_bound_180 rfl ?_
          refine jr_iconst (pc := 182) C dX12_bound_182 ?_
          refine jr_iadd (pc := 183) C dX12_bound_183 ?_
          obtain ⟨v42, hv42, hyp⟩ := jbind hyp
          have iv42 := jra_in S hv42
          refine jr_ial (pc := 184) C S (jIn_w _) hv42 dX12_bound_184 ?_
          refine jr_iadd (pc := 185) C dX12_bound_185 ?_
          obtain ⟨v43, hv43, hyp⟩ := jbind hyp
          have iv43 := jra_in S hv43
          refine jr_ial (pc := 186) C S (jIn_w _) hv43 dX12_bound_186 ?_
          refine jr_istore (pc := 187) C L dX12_bound_187 (Nat.le_of_ble_eq_true rfl) (fun ls L => ?_)
          have L : jL ls [some (jR B a0), some (jI x1), some (jI x2), some (jI x3), some (jI (jw ((jw (30 * x1)) + x3))), some (jI v28), some (jI v39), some (jI v43)] := L
          refine jr_aload_n (pc := 189) C L dX12_bound_189 rfl rfl ?_
          obtain ⟨v44, hv44, hyp⟩ := jbind hyp
          refine jr_getR (pc := 190) C S lf_X12_67 rfl hv44 dX12_bound_190 ?_
          refine jr_iload_n (pc := 193) C L dX12_bound_193 rfl rfl ?_
          refine jr_iload (pc := 194) C L dX12_bound_194 rfl ?_
          refine jr_bipush (pc := 196) C dX12_bound_196 (by decide) ?_
          refine jr_icmp_ne (pc := 198) C iv28 (show jIn 59 from ⟨by decide, by decide⟩) (tgt := 209) dX12_bound_198 (by decide) (fun c45 => ?_) (fun c45 => ?_)
          · have hyp := (if_pos c45).symm.trans hyp
            refine jr_iload (pc := 201) C L dX12_bound_201 rfl ?_
            refine jr_iload (pc := 203) C L dX12_bound_203 rfl ?_
            refine jr_iadd (pc := 205) C dX12_bound_205 ?_
            refine jr_goto (pc := 206) C (tgt := 223) dX12_bound_206 (by decide) ?_
            exact t_X12_bound_b223 C  K35 h_x1 h_x2 h_x3 h_x3 (jIn_w _) S (L.sub (jsub_s (jsub_s (jsub_s (jsub_s (jsub_n (jsub_n (jsub_n (jsub_n jsub_0))))))))) hyp
          · have hyp := (if_neg c45).symm.trans hyp
            refine jr_iload (pc := 209) C L dX12_bound_209 rfl ?_
            refine jr_iload (pc := 211) C L dX12_bound_211 rfl ?_
            refine jr_icmp_le (pc := 213) C iv39 iv43 (tgt := 221) dX12_bound_213 (by decide) (fun c46 => ?_) (fun c46 => ?_)
            · have hyp := (if_pos c46).symm.trans hyp
              refine jr_iload (pc := 216) C L dX12_bound_216 rfl ?_
              refine jr_goto (pc := 218) C (tgt := 223) dX12_bound_218 (by decide) ?_
              exact t_X12_bound_b223 C  K35 h_x1 h_x2 h_x3 h_x3 iv39 S (L.sub (jsub_s (jsub_s (jsub_s (jsub_s (jsub_n (jsub_n (jsub_n (jsub_n jsub_0))))))))) hyp
            · have hyp := (if_neg c46).symm.trans hyp
              refine jr_iload (pc := 221) C L dX12_bound_221 rfl ?_
              exact t_X12_bound_b223 C  K35 h_x1 h_x2 h_x3 h_x3 iv43 S (L.sub (jsub_s (jsub_s (jsub_s (jsub_s (jsub_n (jsub_n (jsub_n (jsub_n jsub_0))))))))) hyp
        · have hyp := (if_neg c37).symm.trans hyp
          refine jr_aload_n (pc := 136) C L dX12_bound_136 rfl rfl ?_
          obtain ⟨v47, hv47, hyp⟩ := jbind hyp
          refine jr_getR (pc := 137) C S lf_X12_67 rfl hv47 dX12_bound_137 ?_
          refine jr_iload_n (pc := 140) C L dX12_bound_140 rfl rfl ?_
          refine jr_iload (pc := 141) C L dX12_bound_141 rfl ?_
          obtain ⟨q48, hq48, hyp⟩ := jbind hyp
          refine jr_callS_I (pc := 143) C S L (As := [jI v28]) (rest := [jI x3, jR B v47.toNat]) (c_X12_timesOf (m0 := m) iv28 hq48) ms_X12_timesOf ml_X12_185 (by decide) rfl rfl rfl (by simp [jR_cat, jI_cat]) ⟨Nat.le_refl 0, Nat.le_refl 0⟩ dX12_bound_143 (fun p49 H locs S => ?_)
          refine jr_aload_n (pc := 146) C L dX12_bound_146 rfl rfl ?_
          obtain ⟨v50, hv50, hyp⟩ := jbind hyp
          refine jr_getR (pc := 147) C S lf_X12_67 rfl hv50 dX12_bound_147 ?_
          refine jr_iload_n (pc := 150) C L dX12_bound_150 rfl rfl ?_
          refine jr_iconst (pc := 151) C dX12_bound_151 ?_
          refine jr_iadd (pc := 152) C dX12_bound_152 ?_
          obtain ⟨v51, hv51, hyp⟩ := jbind hyp
          have iv51 := jra_in S hv51
          refine jr_ial (pc := 153) C S (jIn_w _) hv51 dX12_bound_153 ?_
          refine jr_imul (pc := 154) C dX12_bound_154 ?_
          obtain ⟨m52, hm52, hyp⟩ := jbind hyp
          refine jr_ias (pc := 155) C S h_x3 (jIn_w _) hm52 dX12_bound_155 (fun H locs S => ?_)
          refine jr_goto (pc := 156) C (tgt := 224) dX12_bound_156 (by decide) ?_
          exact t_X12_bound_b224 C  K35 h_x1 h_x2 h_x3 S (L.sub (jsub_s (jsub_s (jsub_s (jsub_s (jsub_n (jsub_n (jsub_n (jsub_n jsub_0))))))))) hyp
    · have hyp := (if_neg c31).symm.trans hyp
      refine jr_aload_n (pc := 68) C L dX12_bound_68 rfl rfl ?_
      refine jr_iload_n (pc := 69) C L dX12_bound_69 rfl rfl ?_
      refine jr_iload_n (pc := 70) C L dX12_bound_70 rfl rfl ?_
      obtain ⟨u53, hu53, hyp⟩ := jbind hyp
      obtain ⟨q54, hq54, hyp⟩ := jbind hyp
      refine jr_callV_I (pc := 71) C S L (As := [jI x1, jI x3]) (rest := []) (c_X12_sortOf (m0 := m) h_x1 h_x3 hq54) mv_X12_sortOf ml_X12_255 rfl (jck_spec hu53) (by decide) rfl rfl rfl (Nat.le_of_ble_eq_true rfl) ⟨Nat.le_refl 0, Nat.le_refl 0⟩ dX12_bound_71 (fun p55 H locs S => ?_)
      refine jr_istore (pc := 74) C L dX12_bound_74 (Nat.le_of_ble_eq_true rfl) (fun ls L => ?_)
      have L : jL ls [some (jR B a0), some (jI x1), some (jI x2), some (jI x3), some (jI (jw ((jw (30 * x1)) + x3))), some (jI v28), some (jI q54), none] := L
      refine jr_aload_n (pc := 76) C L dX12_bound_76 rfl rfl ?_
      obtain ⟨v56, hv56, hyp⟩ := jbind hyp
      refine jr_getR (pc := 77) C S lf_X12_67 rfl hv56 dX12_bound_77 ?_
      refine jr_iload_n (pc := 80) C L dX12_bound_80 rfl rfl ?_
      refine jr_iload (pc := 81) C L dX12_bound_81 rfl ?_
      refine jr_if_eq (pc := 83) C p55 (tgt := 97) dX12_bound_83 (by decide) (fun c57 => ?_) (fun c57 => ?_)
      · have hyp := (if_pos c57).symm.trans hyp
        exact t_X12_bound_b97 C  K35 h_x1 h_x2 h_x3 h_x3 S (L.sub (jsub_s (jsub_s (jsub_s (jsub_s (jsub_n (jsub_n (jsub_n (jsub_n jsub_0))))))))) hyp
      · have hyp := (if_neg c57).symm.trans hyp
        refine jr_iload_n (pc := 86) C L dX12_bound_86 rfl rfl ?_
        refine jr_iconst (pc := 87) C dX12_bound_87 ?_
        refine jr_icmp_ne (pc := 88) C h_x2 (show jIn 1 from ⟨by decide, by decide⟩) (tgt := 101) dX12_bound_88 (by decide) (fun c58 => ?_) (fun c58 => ?_)
        · have hyp := (if_pos c58).symm.trans hyp
          refine jr_iload (pc := 91) C L dX12_bound_91 rfl ?_
          refine jr_iconst (pc := 93) C dX12_bound_93 ?_
          refine jr_icmp_ne (pc := 94) C p55 (show jIn 2 from ⟨by decide, by decide⟩) (tgt := 101) dX12_bound_94 (by decide) (fun c59 => ?_) (fun c59 => ?_)
          · have hyp := (if_pos c59).symm.trans hyp
            exact t_X12_bound_b97 C  K35 h_x1 h_x2 h_x3 h_x3 S (L.sub (jsub_s (jsub_s (jsub_s (jsub_s (jsub_n (jsub_n (jsub_n (jsub_n jsub_0))))))))) hyp
          · have hyp := (if_neg c59).symm.trans hyp
            exact t_X12_bound_b101 C  K35 h_x1 h_x2 h_x3 h_x3 S (L.sub (jsub_s (jsub_s (jsub_s (jsub_s (jsub_n (jsub_n (jsub_n (jsub_n jsub_0))))))))) hyp
        · have hyp := (if_neg c58).symm.trans hyp
          exact t_X12_bound_b101 C  K35 h_x1 h_x2 h_x3 h_x3 S (L.sub (jsub_s (jsub_s (jsub_s (jsub_s (jsub_n (jsub_n (jsub_n (jsub_n jsub_0))))))))) hyp
theorem t_X12_bound_l35 {p : Program} {l : Launch} {e : Env} {s : State} {mi : MethodId} {args : Array Value} {below : List Frame} {meth : Method} {c : Code} {D : va_G} {cy : Nat → ClassId} {B sz : Nat} {sh : jm_S} {res : (Int × jm_M)} {N : Nat} (C : jCx p s mi args meth c cX12_bound 8 RX12 (some .int) D cy) : ∀ (n : Nat) (a0 : Nat) (x1 : Int) (x2 : Int) (x3 : Int), jIn x1 → jIn x2 → jIn x3 → ∀ (m : jm_M) (H : Heap) (locs : List Loc) (ls : Array Slot), jHs D cy B sz sh (jA B sz) s.heap H locs m → jL ls [some (jR B a0), some (jI x1), some (jI x2), some (jI x3), none, none, none, none] → f_X12_bound_l35 N sh n a0 x1 x2 x3 m = some res → W p l e (jrm 5 0 0) s mi args below meth c H locs 0 0 (MQ below (jQc D cy B sz sh res.2 (some (jI res.1)) (jIn res.1)) args s 0 0 (jA B sz)) (F0 mi 35 ls []) := by
  intro n
  induction n with
  | zero => intro a0 x1 x2 x3 h_x1 h_x2 h_x3 m H locs ls S L hyp; cases hyp
  | succ n ih => intro a0 x1 x2 x3 h_x1 h_x2 h_x3 m H locs ls S L hyp; exact t_X12_bound_b35 (N := N) C  ih h_x1 h_x2 h_x3 S L hyp
set_option maxHeartbeats 4000000 in
set_option maxRecDepth 100000 in
theorem t_X12_bound_e {p : Program} {l : Launch} {e : Env} {s : State} {mi : MethodId} {args : Array Value} {below : List Frame} {meth : Method} {c : Code} {D : va_G} {cy : Nat → ClassId} {B sz : Nat} {sh : jm_S} {res : (Int × jm_M)} {N : Nat} (C : jCx p s mi args meth c cX12_bound 8 RX12 (some .int) D cy) {a0 : Nat} {x1 : Int} (h_x1 : jIn x1) {x2 : Int} (h_x2 : jIn x2) {m : jm_M} {H : Heap} {locs : List Loc} {ls : Array Slot} (S : jHs D cy B sz sh (jA B sz) s.heap H locs m) (L : jL ls [some (jR B a0), some (jI x1), some (jI x2), none, none, none, none, none]) (hyp : f_X12_bound N sh a0 x1 x2 m = some res) : W p l e (jrm 5 0 0) s mi args below meth c H locs 0 0 (MQ below (jQc D cy B sz sh res.2 (some (jI res.1)) (jIn res.1)) args s 0 0 (jA B sz)) (F0 mi 0 ls []) := by
  unfold f_X12_bound at hyp
  refine jr_iload_n (pc := 0) C L dX12_bound_0 rfl rfl ?_
  obtain ⟨q60, hq60, hyp⟩ := jbind hyp
  refine jr_callS_I (pc := 1) C S L (As := [jI x1]) (rest := []) (c_X12_isProgram (m0 := m) h_x1 hq60) ms_X12_isProgram ml_X12_103 (by decide) rfl rfl rfl (Nat.le_of_ble_eq_true rfl) ⟨Nat.le_refl 0, Nat.le_refl 0⟩ dX12_bound_1 (fun p61 H locs S => ?_)
  refine jr_if_ne (pc := 4) C p61 (tgt := 9) dX12_bound_4 (by decide) (fun c62 => ?_) (fun c62 => ?_)
  · have hyp := (if_pos c62).symm.trans hyp
    refine jr_iconst (pc := 7) C dX12_bound_7 ?_
    cases hyp
    exact jr_iret C S (show jIn (-1) from ⟨by decide, by decide⟩) dX12_bound_8
  · have hyp := (if_neg c62).symm.trans hyp
    refine jr_iload_n (pc := 9) C L dX12_bound_9 rfl rfl ?_
    refine jr_iconst (pc := 10) C dX12_bound_10 ?_
    refine jr_iconst (pc := 11) C dX12_bound_11 ?_
    obtain ⟨q63, hq63, hyp⟩ := jbind hyp
    refine jr_callS_I (pc := 12) C S L (As := [jI x2, jI 0, jI 1]) (rest := []) (c_X12_in (m0 := m) h_x2 (show jIn 0 from ⟨by decide, by decide⟩) (show jIn 1 from ⟨by decide, by decide⟩) hq63) ms_X12_in ml_X12_80 (by decide) rfl rfl rfl (Nat.le_of_ble_eq_true rfl) ⟨Nat.le_refl 0, Nat.le_refl 0⟩ dX12_bound_12 (fun p64 H locs S => ?_)
    refine jr_if_ne (pc := 15) C p64 (tgt := 21) dX12_bound_15 (by decide) (fun c65 => ?_) (fun c65 => ?_)
    · have hyp := (if_pos c65).symm.trans hyp
      refine jr_bipush (pc := 18) C dX12_bound_18 (by decide) ?_
      cases hyp
      exact jr_iret C S (show jIn (-2) from ⟨by decide, by decide⟩) dX12_bound_20
    · have hyp := (if_neg c65).symm.trans hyp
      refine jr_aload_n (pc := 21) C L dX12_bound_21 rfl rfl ?_
      refine jr_iload_n (pc := 22) C L dX12_bound_22 rfl rfl ?_
      obtain ⟨u66, hu66, hyp⟩ := jbind hyp
      obtain ⟨q67, hq67, hyp⟩ := jbind hyp
      refine jr_callV_N (pc := 23) C S L (As := [jI x1]) (rest := []) (c_X12_layAges h_x1 hq67) mv_X12_layAges ml_X12_243 rfl (jck_spec hu66) (by decide) rfl rfl rfl (Nat.le_of_ble_eq_true rfl) ⟨Nat.le_refl 0, Nat.le_refl 0⟩ dX12_bound_23 (fun p68 H locs S => ?_)
      refine jr_aload_n (pc := 26) C L dX12_bound_26 rfl rfl ?_
      obtain ⟨v69, hv69, hyp⟩ := jbind hyp
      refine jr_getR (pc := 27) C S lf_X12_16 rfl hv69 dX12_bound_27 ?_
      refine jr_iload_n (pc := 30) C L dX12_bound_30 rfl rfl ?_
      obtain ⟨v70, hv70, hyp⟩ := jbind hyp
      have iv70 := jra_in S hv70
      refine jr_ial (pc := 31) C S h_x1 hv70 dX12_bound_31 ?_
      refine jr_iconst (pc := 32) C dX12_bound_32 ?_
      refine jr_isub (pc := 33) C dX12_bound_33 ?_
      refine jr_istore_n (pc := 34) C L dX12_bound_34 rfl (Nat.le_of_ble_eq_true rfl) (fun ls L => ?_)
      have L : jL ls [some (jR B a0), some (jI x1), some (jI x2), some (jI (jw (v70 - 1))), none, none, none, none] := L
      exact t_X12_bound_l35 C   N a0 x1 x2 (jw (v70 - 1)) h_x1 h_x2 (jIn_w _) q67 _ _ _ S (L.sub (jsub_s (jsub_s (jsub_s (jsub_s (jsub_n (jsub_n (jsub_n (jsub_n jsub_0))))))))) hyp
theorem c_X12_bound {l : Launch} {D : va_G} {cy : Nat → ClassId} {B sz : Nat} {sh : jm_S} {res : (Int × jm_M)} {N : Nat} {m : jm_M} {a0 : Nat} {x1 : Int} (h_x1 : jIn x1) {x2 : Int} (h_x2 : jIn x2) (hyp : f_X12_bound N sh a0 x1 x2 m = some res) : jCt l D cy B sz sh 5 yX12_bound cX12_bound 8 (some .int) [jR B a0, jI x1, jI x2] m (some (jI res.1)) res.2 (jIn res.1) :=
  jc_of (by decide) (fun v h => by simp only [List.mem_cons, List.not_mem_nil, or_false] at h; rcases h with rfl | rfl | rfl <;> first | rfl | exact jR_cat _ _) (Nat.le_of_ble_eq_true rfl) (fun C S L => t_X12_bound_e C  h_x1 h_x2 S L hyp)
set_option maxHeartbeats 4000000 in
set_option maxRecDepth 100000 in
theorem t_X12_fast_b122 {p : Program} {l : Launch} {e : Env} {s : State} {mi : MethodId} {args : Array Value} {below : List Frame} {meth : Method} {c : Code} {D : va_G} {cy : Nat → ClassId} {B sz : Nat} {sh : jm_S} {res : (Int × jm_M)} {N : Nat} {k38 : Nat → Int → Int → Int → Int → Int → Int → jm_M → Option (Int × jm_M)} (C : jCx p s mi args meth c cX12_fast 8 RX12 (some .int) D cy) (K38 : ∀ (a0 : Nat) (x1 : Int) (x2 : Int) (x3 : Int) (x4 : Int) (x5 : Int) (x6 : Int) , jIn x1 → jIn x2 → jIn x3 → jIn x4 → jIn x5 → jIn x6 → ∀ (m : jm_M) (H : Heap) (locs : List Loc) (ls : Array Slot), jHs D cy B sz sh (jA B sz) s.heap H locs m → jL ls [some (jR B a0), some (jI x1), some (jI x2), some (jI x3), some (jI x4), some (jI x5), some (jI x6), none] → k38 a0 x1 x2 x3 x4 x5 x6 m = some res → W p l e (jrm 7 0 0) s mi args below meth c H locs 0 0 (MQ below (jQc D cy B sz sh res.2 (some (jI res.1)) (jIn res.1)) args s 0 0 (jA B sz)) (F0 mi 38 ls [])) {a0 : Nat} {x1 : Int} (h_x1 : jIn x1) {x2 : Int} (h_x2 : jIn x2) {x3 : Int} (h_x3 : jIn x3) {x4 : Int} (h_x4 : jIn x4) {x5 : Int} (h_x5 : jIn x5) {x6 : Int} (h_x6 : jIn x6) {m : jm_M} {H : Heap} {locs : List Loc} {ls : Array Slot} (S : jHs D cy B sz sh (jA B sz) s.heap H locs m) (L : jL ls [some (jR B a0), some (jI x1), some (jI x2), some (jI x3), some (jI x4), some (jI x5), some (jI x6), none]) (hyp : f_X12_fast_b122 N sh k38 a0 x1 x2 x3 x4 x5 x6 m = some res) : W p l e (jrm 7 0 0) s mi args below meth c H locs 0 0 (MQ below (jQc D cy B sz sh res.2 (some (jI res.1)) (jIn res.1)) args s 0 0 (jA B sz)) (F0 mi 122 ls []) := by
  unfold f_X12_fast_b122 at hyp
  refine jr_iinc (pc := 122) C L dX12_fast_122 rfl (Nat.le_of_ble_eq_true rfl) (fun ls L => ?_)
  have L : jL ls [some (jR B a0), some (jI x1), some (jI x2), some (jI x3), some (jI x4), some (jI x5), some (jI (jw (x6 + 1))), none] := L
  refine jr_goto (pc := 125) C (tgt := 38) dX12_fast_125 (by decide) ?_
  exact K38 a0 x1 x2 x3 x4 x5 (jw (x6 + 1)) h_x1 h_x2 h_x3 h_x4 h_x5 (jIn_w _) m _ _ _ S (L.sub (jsub_s (jsub_s (jsub_s (jsub_s (jsub_s (jsub_s (jsub_s (jsub_n jsub_0))))))))) hyp
set_option maxHeartbeats 4000000 in
set_option maxRecDepth 100000 in
theorem t_X12_fast_b114 {p : Program} {l : Launch} {e : Env} {s : State} {mi : MethodId} {args : Array Value} {below : List Frame} {meth : Method} {c : Code} {D : va_G} {cy : Nat → ClassId} {B sz : Nat} {sh : jm_S} {res : (Int × jm_M)} {N : Nat} {k38 : Nat → Int → Int → Int → Int → Int → Int → jm_M → Option (Int × jm_M)} (C : jCx p s mi args meth c cX12_fast 8 RX12 (some .int) D cy) (K38 : ∀ (a0 : Nat) (x1 : Int) (x2 : Int) (x3 : Int) (x4 : Int) (x5 : Int) (x6 : Int) , jIn x1 → jIn x2 → jIn x3 → jIn x4 → jIn x5 → jIn x6 → ∀ (m : jm_M) (H : Heap) (locs : List Loc) (ls : Array Slot), jHs D cy B sz sh (jA B sz) s.heap H locs m → jL ls [some (jR B a0), some (jI x1), some (jI x2), some (jI x3), some (jI x4), some (jI x5), some (jI x6), none] → k38 a0 x1 x2 x3 x4 x5 x6 m = some res → W p l e (jrm 7 0 0) s mi args below meth c H locs 0 0 (MQ below (jQc D cy B sz sh res.2 (some (jI res.1)) (jIn res.1)) args s 0 0 (jA B sz)) (F0 mi 38 ls [])) {a0 : Nat} {x1 : Int} (h_x1 : jIn x1) {x2 : Int} (h_x2 : jIn x2) {x3 : Int} (h_x3 : jIn x3) {x6 : Int} (h_x6 : jIn x6) {x7 : Int} (h_x7 : jIn x7) {m : jm_M} {H : Heap} {locs : List Loc} {ls : Array Slot} (S : jHs D cy B sz sh (jA B sz) s.heap H locs m) (L : jL ls [some (jR B a0), some (jI x1), some (jI x2), some (jI x3), none, none, some (jI x6), some (jI x7)]) (hyp : f_X12_fast_b114 N sh k38 a0 x1 x2 x3 x6 x7 m = some res) : W p l e (jrm 7 0 0) s mi args below meth c H locs 0 0 (MQ below (jQc D cy B sz sh res.2 (some (jI res.1)) (jIn res.1)) args s 0 0 (jA B sz)) (F0 mi 114 ls []) := by
  unfold f_X12_fast_b114 at hyp
  refine jr_iload (pc := 114) C L dX12_fast_114 rfl ?_
  refine jr_istore (pc := 116) C L dX12_fast_116 (Nat.le_of_ble_eq_true rfl) (fun ls L => ?_)
  have L : jL ls [some (jR B a0), some (jI x1), some (jI x2), some (jI x3), some (jI x6), none, some (jI x6), some (jI x7)] := L
  refine jr_iload (pc := 118) C L dX12_fast_118 rfl ?_
  refine jr_istore (pc := 120) C L dX12_fast_120 (Nat.le_of_ble_eq_true rfl) (fun ls L => ?_)
  have L : jL ls [some (jR B a0), some (jI x1), some (jI x2), some (jI x3), some (jI x6), some (jI x7), some (jI x6), some (jI x7)] := L
  exact t_X12_fast_b122 C  K38 h_x1 h_x2 h_x3 h_x6 h_x7 h_x6 S (L.sub (jsub_s (jsub_s (jsub_s (jsub_s (jsub_s (jsub_s (jsub_s (jsub_n jsub_0))))))))) hyp
set_option maxHeartbeats 4000000 in
set_option maxRecDepth 100000 in
theorem t_X12_fast_b38 {p : Program} {l : Launch} {e : Env} {s : State} {mi : MethodId} {args : Array Value} {below : List Frame} {meth : Method} {c : Code} {D : va_G} {cy : Nat → ClassId} {B sz : Nat} {sh : jm_S} {res : (Int × jm_M)} {N : Nat} {k38 : Nat → Int → Int → Int → Int → Int → Int → jm_M → Option (Int × jm_M)} (C : jCx p s mi args meth c cX12_fast 8 RX12 (some .int) D cy) (K38 : ∀ (a0 : Nat) (x1 : Int) (x2 : Int) (x3 : Int) (x4 : Int) (x5 : Int) (x6 : Int) , jIn x1 → jIn x2 → jIn x3 → jIn x4 → jIn x5 → jIn x6 → ∀ (m : jm_M) (H : Heap) (locs : List Loc) (ls : Array Slot), jHs D cy B sz sh (jA B sz) s.heap H locs m → jL ls [some (jR B a0), some (jI x1), some (jI x2), some (jI x3), some (jI x4), some (jI x5), some (jI x6), none] → k38 a0 x1 x2 x3 x4 x5 x6 m = some res → W p l e (jrm 7 0 0) s mi args below meth c H locs 0 0 (MQ below (jQc D cy B sz sh res.2 (some (jI res.1)) (jIn res.1)) args s 0 0 (jA B sz)) (F0 mi 38 ls [])) {a0 : Nat} {x1 : Int} (h_x1 : jIn x1) {x2 : Int} (h_x2 : jIn x2) {x3 : Int} (h_x3 : jIn x3) {x4 : Int} (h_x4 : jIn x4) {x5 : Int} (h_x5 : jIn x5) {x6 : Int} (h_x6 : jIn x6) {m : jm_M} {H : Heap} {locs : List Loc} {ls : Array Slot} (S : jHs D cy B sz sh (jA B sz) s.heap H locs m) (L : jL ls [some (jR B a0), some (jI x1), some (jI x2), some (jI x3), some (jI x4), some (jI x5), some (jI x6), none]) (hyp : f_X12_fast_b38 N sh k38 a0 x1 x2 x3 x4 x5 x6 m = some res) : W p l e (jrm 7 0 0) s mi args below meth c H locs 0 0 (MQ below (jQc D cy B sz sh res.2 (some (jI res.1)) (jIn res.1)) args s 0 0 (jA B sz)) (F0 mi 38 ls []) := by
  unfold f_X12_fast_b38 at hyp
  refine jr_iload (pc := 38) C L dX12_fast_38 rfl ?_
  refine jr_sipush (pc := 40) C dX12_fast_40 (by decide) ?_
  refine jr_icmp_ge (pc := 43) C h_x6 (show jIn 256 from ⟨by decide, by decide⟩) (tgt := 128) dX12_fast_43 (by decide) (fun c1 => ?_) (fun c1 => ?_)
  · have hyp := (if_pos c1).symm.trans hyp
    refine jr_aload_n (pc := 46) C L dX12_fast_46 rfl rfl ?_
    refine jr_aload_n (pc := 47) C L dX12_fast_47 rfl rfl ?_
    obtain ⟨v2, hv2, hyp⟩ := jbind hyp
    refine jr_getR (pc := 48) C S lf_X12_7 rfl hv2 dX12_fast_48 ?_
    refine jr_iconst (pc := 51) C dX12_fast_51 ?_
    obtain ⟨v3, hv3, hyp⟩ := jbind hyp
    have iv3 := jra_in S hv3
    refine jr_ial (pc := 52) C S (show jIn 0 from ⟨by decide, by decide⟩) hv3 dX12_fast_52 ?_
    refine jr_aload_n (pc := 53) C L dX12_fast_53 rfl rfl ?_
    obtain ⟨v4, hv4, hyp⟩ := jbind hyp
    refine jr_getR (pc := 54) C S lf_X12_7 rfl hv4 dX12_fast_54 ?_
    refine jr_iconst (pc := 57) C dX12_fast_57 ?_
    obtain ⟨v5, hv5, hyp⟩ := jbind hyp
    have iv5 := jra_in S hv5
    refine jr_ial (pc := 58) C S (show jIn 1 from ⟨by decide, by decide⟩) hv5 dX12_fast_58 ?_
    refine jr_iload (pc := 59) C L dX12_fast_59 rfl ?_
    obtain ⟨u6, hu6, hyp⟩ := jbind hyp
    obtain ⟨q7, hq7, hyp⟩ := jbind hyp
    refine jr_callV_I (pc := 61) C S L (As := [jI v3, jI v5, jI x6]) (rest := []) (c_X12_mayHold (m0 := m) iv3 iv5 h_x6 hq7) mv_X12_mayHold ml_X12_84 rfl (jck_spec hu6) (by decide) rfl rfl rfl (Nat.le_of_ble_eq_true rfl) ⟨Nat.le_refl 0, Nat.le_refl 0⟩ dX12_fast_61 (fun p8 H locs S => ?_)
    refine jr_if_eq (pc := 64) C p8 (tgt := 122) dX12_fast_64 (by decide) (fun c9 => ?_) (fun c9 => ?_)
    · have hyp := (if_pos c9).symm.trans hyp
      exact t_X12_fast_b122 C  K38 h_x1 h_x2 h_x3 h_x4 h_x5 h_x6 S (L.sub (jsub_s (jsub_s (jsub_s (jsub_s (jsub_s (jsub_s (jsub_s (jsub_n jsub_0))))))))) hyp
    · have hyp := (if_neg c9).symm.trans hyp
      refine jr_aload_n (pc := 67) C L dX12_fast_67 rfl rfl ?_
      obtain ⟨v10, hv10, hyp⟩ := jbind hyp
      refine jr_getR (pc := 68) C S lf_X12_7 rfl hv10 dX12_fast_68 ?_
      refine jr_iconst (pc := 71) C dX12_fast_71 ?_
      refine jr_iload (pc := 72) C L dX12_fast_72 rfl ?_
      obtain ⟨m11, hm11, hyp⟩ := jbind hyp
      refine jr_ias (pc := 74) C S (show jIn 3 from ⟨by decide, by decide⟩) h_x6 hm11 dX12_fast_74 (fun H locs S => ?_)
      refine jr_aload_n (pc := 75) C L dX12_fast_75 rfl rfl ?_
      refine jr_iload_n (pc := 76) C L dX12_fast_76 rfl rfl ?_
      obtain ⟨u12, hu12, hyp⟩ := jbind hyp
      obtain ⟨q13, hq13, hyp⟩ := jbind hyp
      refine jr_callV_I (pc := 77) C S L (As := [jI x1]) (rest := []) (c_X12_worstOf h_x1 hq13) mv_X12_worstOf ml_X12_222 rfl (jck_spec hu12) (by decide) rfl rfl rfl (Nat.le_of_ble_eq_true rfl) ⟨Nat.le_refl 0, Nat.le_refl 0⟩ dX12_fast_77 (fun p14 H locs S => ?_)
      refine jr_istore (pc := 80) C L dX12_fast_80 (Nat.le_of_ble_eq_true rfl) (fun ls L => ?_)
      have L : jL ls [some (jR B a0), some (jI x1), some (jI x2), some (jI x3), some (jI x4), some (jI x5), some (jI x6), some (jI q13.1)] := L
      refine jr_iload (pc := 82) C L dX12_fast_82 rfl ?_
      refine jr_if_lt (pc := 84) C h_x4 (tgt := 114) dX12_fast_84 (by decide) (fun c15 => ?_) (fun c15 => ?_)
      · have hyp := (if_pos c15).symm.trans hyp
        exact t_X12_fast_b114 C  K38 h_x1 h_x2 h_x3 h_x6 p14 S (L.sub (jsub_s (jsub_s (jsub_s (jsub_s (jsub_n (jsub_n (jsub_s (jsub_s jsub_0))))))))) hyp
      · have hyp := (if_neg c15).symm.trans hyp
        refine jr_iload (pc := 87) C L dX12_fast_87 rfl ?_
        refine jr_iload (pc := 89) C L dX12_fast_89 rfl ?_
        refine jr_icmp_lt (pc := 91) C p14 h_x5 (tgt := 114) dX12_fast_91 (by decide) (fun c16 => ?_) (fun c16 => ?_)
        · have hyp := (if_pos c16).symm.trans hyp
          exact t_X12_fast_b114 C  K38 h_x1 h_x2 h_x3 h_x6 p14 S (L.sub (jsub_s (jsub_s (jsub_s (jsub_s (jsub_n (jsub_n (jsub_s (jsub_s jsub_0))))))))) hyp
        · have hyp := (if_neg c16).symm.trans hyp
          refine jr_iload (pc := 94) C L dX12_fast_94 rfl ?_
          refine jr_iload (pc := 96) C L dX12_fast_96 rfl ?_
          refine jr_icmp_ne (pc := 98) C p14 h_x5 (tgt := 122) dX12_fast_98 (by decide) (fun c17 => ?_) (fun c17 => ?_)
          · have hyp := (if_pos c17).symm.trans hyp
            refine jr_iload (pc := 101) C L dX12_fast_101 rfl ?_
            obtain ⟨q18, hq18, hyp⟩ := jbind hyp
            refine jr_callS_I (pc := 103) C S L (As := [jI x6]) (rest := []) (c_X12_bits (m0 := q13.2) h_x6 hq18) ms_X12_bits ml_X12_249 (by decide) rfl rfl rfl (Nat.le_of_ble_eq_true rfl) ⟨Nat.le_refl 0, Nat.le_refl 0⟩ dX12_fast_103 (fun p19 H locs S => ?_)
            refine jr_iload (pc := 106) C L dX12_fast_106 rfl ?_
            obtain ⟨q20, hq20, hyp⟩ := jbind hyp
            refine jr_callS_I (pc := 108) C S L (As := [jI x4]) (rest := [jI q18]) (c_X12_bits (m0 := q13.2) h_x4 hq20) ms_X12_bits ml_X12_249 (by decide) rfl rfl rfl (Nat.le_of_ble_eq_true rfl) ⟨Nat.le_refl 0, Nat.le_refl 0⟩ dX12_fast_108 (fun p21 H locs S => ?_)
            refine jr_icmp_ge (pc := 111) C p19 p21 (tgt := 122) dX12_fast_111 (by decide) (fun c22 => ?_) (fun c22 => ?_)
            · have hyp := (if_pos c22).symm.trans hyp
              exact t_X12_fast_b114 C  K38 h_x1 h_x2 h_x3 h_x6 p14 S (L.sub (jsub_s (jsub_s (jsub_s (jsub_s (jsub_n (jsub_n (jsub_s (jsub_s jsub_0))))))))) hyp
            · have hyp := (if_neg c22).symm.trans hyp
              exact t_X12_fast_b122 C  K38 h_x1 h_x2 h_x3 h_x4 h_x5 h_x6 S (L.sub (jsub_s (jsub_s (jsub_s (jsub_s (jsub_s (jsub_s (jsub_s (jsub_n jsub_0))))))))) hyp
          · have hyp := (if_neg c17).symm.trans hyp
            exact t_X12_fast_b122 C  K38 h_x1 h_x2 h_x3 h_x4 h_x5 h_x6 S (L.sub (jsub_s (jsub_s (jsub_s (jsub_s (jsub_s (jsub_s (jsub_s (jsub_n jsub_0))))))))) hyp
  · have hyp := (if_neg c1).symm.trans hyp
    refine jr_aload_n (pc := 128) C L dX12_fast_128 rfl rfl ?_
    obtain ⟨v23, hv23, hyp⟩ := jbind hyp
    refine jr_getR (pc := 129) C S lf_X12_7 rfl hv23 dX12_fast_129 ?_
    refine jr_iconst (pc := 132) C dX12_fast_132 ?_
    refine jr_iload_n (pc := 133) C L dX12_fast_133 rfl rfl ?_
    obtain ⟨m24, hm24, hyp⟩ := jbind hyp
    refine jr_ias (pc := 134) C S (show jIn 3 from ⟨by decide, by decide⟩) h_x3 hm24 dX12_fast_134 (fun H locs S => ?_)
    refine jr_iload_n (pc := 135) C L dX12_fast_135 rfl rfl ?_
    refine jr_if_ne (pc := 136) C h_x2 (tgt := 144) dX12_fast_136 (by decide) (fun c25 => ?_) (fun c25 => ?_)
    · have hyp := (if_pos c25).symm.trans hyp
      refine jr_iload (pc := 139) C L dX12_fast_139 rfl ?_
      refine jr_goto (pc := 141) C (tgt := 146) dX12_fast_141 (by decide) ?_
      cases hyp
      exact jr_iret C S h_x4 dX12_fast_146
    · have hyp := (if_neg c25).symm.trans hyp
      refine jr_iload (pc := 144) C L dX12_fast_144 rfl ?_
      cases hyp
      exact jr_iret C S h_x5 dX12_fast_146
theorem t_X12_fast_l38 {p : Program} {l : Launch} {e : Env} {s : State} {mi : MethodId} {args : Array Value} {below : List Frame} {meth : Method} {c : Code} {D : va_G} {cy : Nat → ClassId} {B sz : Nat} {sh : jm_S} {res : (Int × jm_M)} {N : Nat} (C : jCx p s mi args meth c cX12_fast 8 RX12 (some .int) D cy) : ∀ (n : Nat) (a0 : Nat) (x1 : Int) (x2 : Int) (x3 : Int) (x4 : Int) (x5 : Int) (x6 : Int), jIn x1 → jIn x2 → jIn x3 → jIn x4 → jIn x5 → jIn x6 → ∀ (m : jm_M) (H : Heap) (locs : List Loc) (ls : Array Slot), jHs D cy B sz sh (jA B sz) s.heap H locs m → jL ls [some (jR B a0), some (jI x1), some (jI x2), some (jI x3), some (jI x4), some (jI x5), some (jI x6), none] → f_X12_fast_l38 N sh n a0 x1 x2 x3 x4 x5 x6 m = some res → W p l e (jrm 7 0 0) s mi args below meth c H locs 0 0 (MQ below (jQc D cy B sz sh res.2 (some (jI res.1)) (jIn res.1)) args s 0 0 (jA B sz)) (F0 mi 38 ls []) := by
  intro n
  induction n with
  | zero => intro a0 x1 x2 x3 x4 x5 x6 h_x1 h_x2 h_x3 h_x4 h_x5 h_x6 m H locs ls S L hyp; cases hyp
  | succ n ih => intro a0 x1 x2 x3 x4 x5 x6 h_x1 h_x2 h_x3 h_x4 h_x5 h_x6 m H locs ls S L hyp; exact t_X12_fast_b38 (N := N) C  ih h_x1 h_x2 h_x3 h_x4 h_x5 h_x6 S L hyp
set_option maxHeartbeats 4000000 in
set_option maxRecDepth 100000 in
theorem t_X12_fast_e {p : Program} {l : Launch} {e : Env} {s : State} {mi : MethodId} {args : Array Value} {below : List Frame} {meth : Method} {c : Code} {D : va_G} {cy : Nat → ClassId} {B sz : Nat} {sh : jm_S} {res : (Int × jm_M)} {N : Nat} (C : jCx p s mi args meth c cX12_fast 8 RX12 (some .int) D cy) {a0 : Nat} {x1 : Int} (h_x1 : jIn x1) {x2 : Int} (h_x2 : jIn x2) {m : jm_M} {H : Heap} {locs : List Loc} {ls : Array Slot} (S : jHs D cy B sz sh (jA B sz) s.heap H locs m) (L : jL ls [some (jR B a0), some (jI x1), some (jI x2), none, none, none, none, none]) (hyp : f_X12_fast N sh a0 x1 x2 m = some res) : W p l e (jrm 7 0 0) s mi args below meth c H locs 0 0 (MQ below (jQc D cy B sz sh res.2 (some (jI res.1)) (jIn res.1)) args s 0 0 (jA B sz)) (F0 mi 0 ls []) := by
  unfold f_X12_fast at hyp
  refine jr_iload_n (pc := 0) C L dX12_fast_0 rfl rfl ?_
  obtain ⟨q26, hq26, hyp⟩ := jbind hyp
  refine jr_callS_I (pc := 1) C S L (As := [jI x1]) (rest := []) (c_X12_isProgram (m0 := m) h_x1 hq26) ms_X12_isProgram ml_X12_103 (by decide) rfl rfl rfl (Nat.le_of_ble_eq_true rfl) ⟨Nat.le_refl 0, Nat.le_refl 0⟩ dX12_fast_1 (fun p27 H locs S => ?_)
  refine jr_if_ne (pc := 4) C p27 (tgt := 9) dX12_fast_4 (by decide) (fun c28 => ?_) (fun c28 => ?_)
  · have hyp := (if_pos c28).symm.trans hyp
    refine jr_iconst (pc := 7) C dX12_fast_7 ?_
    cases hyp
    exact jr_iret C S (show jIn (-1) from ⟨by decide, by decide⟩) dX12_fast_8
  · have hyp := (if_neg c28).symm.trans hyp
    refine jr_iload_n (pc := 9) C L dX12_fast_9 rfl rfl ?_
    refine jr_iconst (pc := 10) C dX12_fast_10 ?_
    refine jr_iconst (pc := 11) C dX12_fast_11 ?_
    obtain ⟨q29, hq29, hyp⟩ := jbind hyp
    refine jr_callS_I (pc := 12) C S L (As := [jI x2, jI 0, jI 1]) (rest := []) (c_X12_in (m0 := m) h_x2 (show jIn 0 from ⟨by decide, by decide⟩) (show jIn 1 from ⟨by decide, by decide⟩) hq29) ms_X12_in ml_X12_80 (by decide) rfl rfl rfl (Nat.le_of_ble_eq_true rfl) ⟨Nat.le_refl 0, Nat.le_refl 0⟩ dX12_fast_12 (fun p30 H locs S => ?_)
    refine jr_if_ne (pc := 15) C p30 (tgt := 21) dX12_fast_15 (by decide) (fun c31 => ?_) (fun c31 => ?_)
    · have hyp := (if_pos c31).symm.trans hyp
      refine jr_bipush (pc := 18) C dX12_fast_18 (by decide) ?_
      cases hyp
      exact jr_iret C S (show jIn (-2) from ⟨by decide, by decide⟩) dX12_fast_20
    · have hyp := (if_neg c31).symm.trans hyp
      refine jr_aload_n (pc := 21) C L dX12_fast_21 rfl rfl ?_
      obtain ⟨v32, hv32, hyp⟩ := jbind hyp
      refine jr_getR (pc := 22) C S lf_X12_7 rfl hv32 dX12_fast_22 ?_
      refine jr_iconst (pc := 25) C dX12_fast_25 ?_
      obtain ⟨v33, hv33, hyp⟩ := jbind hyp
      have iv33 := jra_in S hv33
      refine jr_ial (pc := 26) C S (show jIn 3 from ⟨by decide, by decide⟩) hv33 dX12_fast_26 ?_
      refine jr_istore_n (pc := 27) C L dX12_fast_27 rfl (Nat.le_of_ble_eq_true rfl) (fun ls L => ?_)
      have L : jL ls [some (jR B a0), some (jI x1), some (jI x2), some (jI v33), none, none, none, none] := L
      refine jr_bipush (pc := 28) C dX12_fast_28 (by decide) ?_
      refine jr_istore (pc := 30) C L dX12_fast_30 (Nat.le_of_ble_eq_true rfl) (fun ls L => ?_)
      have L : jL ls [some (jR B a0), some (jI x1), some (jI x2), some (jI v33), some (jI (-6)), none, none, none] := L
      refine jr_iconst (pc := 32) C dX12_fast_32 ?_
      refine jr_istore (pc := 33) C L dX12_fast_33 (Nat.le_of_ble_eq_true rfl) (fun ls L => ?_)
      have L : jL ls [some (jR B a0), some (jI x1), some (jI x2), some (jI v33), some (jI (-6)), some (jI 0), none, none] := L
      refine jr_iconst (pc := 35) C dX12_fast_35 ?_
      refine jr_istore (pc := 36) C L dX12_fast_36 (Nat.le_of_ble_eq_true rfl) (fun ls L => ?_)
      have L : jL ls [some (jR B a0), some (jI x1), some (jI x2), some (jI v33), some (jI (-6)), some (jI 0), some (jI 0), none] := L
      exact t_X12_fast_l38 C   N a0 x1 x2 v33 (-6) 0 0 h_x1 h_x2 iv33 (show jIn (-6) from ⟨by decide, by decide⟩) (show jIn 0 from ⟨by decide, by decide⟩) (show jIn 0 from ⟨by decide, by decide⟩) m _ _ _ S (L.sub (jsub_s (jsub_s (jsub_s (jsub_s (jsub_s (jsub_s (jsub_s (jsub_n jsub_0))))))))) hyp
theorem c_X12_fast {l : Launch} {D : va_G} {cy : Nat → ClassId} {B sz : Nat} {sh : jm_S} {res : (Int × jm_M)} {N : Nat} {m : jm_M} {a0 : Nat} {x1 : Int} (h_x1 : jIn x1) {x2 : Int} (h_x2 : jIn x2) (hyp : f_X12_fast N sh a0 x1 x2 m = some res) : jCt l D cy B sz sh 7 yX12_fast cX12_fast 8 (some .int) [jR B a0, jI x1, jI x2] m (some (jI res.1)) res.2 (jIn res.1) :=
  jc_of (by decide) (fun v h => by simp only [List.mem_cons, List.not_mem_nil, or_false] at h; rcases h with rfl | rfl | rfl <;> first | rfl | exact jR_cat _ _) (Nat.le_of_ble_eq_true rfl) (fun C S L => t_X12_fast_e C  h_x1 h_x2 S L hyp)
set_option maxHeartbeats 4000000 in
set_option maxRecDepth 100000 in
theorem t_X12_crowd0_b50 {p : Program} {l : Launch} {e : Env} {s : State} {mi : MethodId} {args : Array Value} {below : List Frame} {meth : Method} {c : Code} {D : va_G} {cy : Nat → ClassId} {B sz : Nat} {sh : jm_S} {res : Int} {N : Nat} {m0 : jm_M} {k4 : Nat → Int → Int → Int → Option Int} (C : jCx p s mi args meth c cX12_crowd0 5 RX12 (some .int) D cy) (K4 : ∀ (a0 : Nat) (x1 : Int) (x2 : Int) (x3 : Int) , jIn x1 → jIn x2 → jIn x3 → ∀ (H : Heap) (locs : List Loc) (ls : Array Slot), jHs D cy B sz sh (jA B sz) s.heap H locs m0 → jL ls [some (jR B a0), some (jI x1), some (jI x2), some (jI x3), none] → k4 a0 x1 x2 x3 = some res → W p l e (jrm 1 0 0) s mi args below meth c H locs 0 0 (MQ below (jQc D cy B sz sh m0 (some (jI res)) (jIn res)) args s 0 0 (jA B sz)) (F0 mi 4 ls [])) {a0 : Nat} {x1 : Int} (h_x1 : jIn x1) {x3 : Int} (h_x3 : jIn x3) {s0 : Int} (h_s0 : jIn s0) {s1 : Int} (h_s1 : jIn s1) {H : Heap} {locs : List Loc} {ls : Array Slot} (S : jHs D cy B sz sh (jA B sz) s.heap H locs m0) (L : jL ls [some (jR B a0), some (jI x1), none, some (jI x3), none]) (hyp : f_X12_crowd0_b50 N sh k4 a0 x1 x3 s0 s1 m0 = some res) : W p l e (jrm 1 0 0) s mi args below meth c H locs 0 0 (MQ below (jQc D cy B sz sh m0 (some (jI res)) (jIn res)) args s 0 0 (jA B sz)) (F0 mi 50 ls [jI s1, jI s0]) := by
  unfold f_X12_crowd0_b50 at hyp
  refine jr_ior (pc := 50) C dX12_crowd0_50 ?_
  refine jr_istore_n (pc := 51) C L dX12_crowd0_51 rfl (Nat.le_of_ble_eq_true rfl) (fun ls L => ?_)
  have L : jL ls [some (jR B a0), some (jI x1), some (jI (jor s0 s1)), some (jI x3), none] := L
  refine jr_iinc (pc := 52) C L dX12_crowd0_52 rfl (Nat.le_of_ble_eq_true rfl) (fun ls L => ?_)
  have L : jL ls [some (jR B a0), some (jI x1), some (jI (jor s0 s1)), some (jI (jw (x3 + 1))), none] := L
  refine jr_goto (pc := 55) C (tgt := 4) dX12_crowd0_55 (by decide) ?_
  exact K4 a0 x1 (jor s0 s1) (jw (x3 + 1)) h_x1 (jIn_or _ _) (jIn_w _)  _ _ _ S (L.sub (jsub_s (jsub_s (jsub_s (jsub_s (jsub_n jsub_0)))))) hyp
set_option maxHeartbeats 4000000 in
set_option maxRecDepth 100000 in
theorem t_X12_crowd0_b4 {p : Program} {l : Launch} {e : Env} {s : State} {mi : MethodId} {args : Array Value} {below : List Frame} {meth : Method} {c : Code} {D : va_G} {cy : Nat → ClassId} {B sz : Nat} {sh : jm_S} {res : Int} {N : Nat} {m0 : jm_M} {k4 : Nat → Int → Int → Int → Option Int} (C : jCx p s mi args meth c cX12_crowd0 5 RX12 (some .int) D cy) (K4 : ∀ (a0 : Nat) (x1 : Int) (x2 : Int) (x3 : Int) , jIn x1 → jIn x2 → jIn x3 → ∀ (H : Heap) (locs : List Loc) (ls : Array Slot), jHs D cy B sz sh (jA B sz) s.heap H locs m0 → jL ls [some (jR B a0), some (jI x1), some (jI x2), some (jI x3), none] → k4 a0 x1 x2 x3 = some res → W p l e (jrm 1 0 0) s mi args below meth c H locs 0 0 (MQ below (jQc D cy B sz sh m0 (some (jI res)) (jIn res)) args s 0 0 (jA B sz)) (F0 mi 4 ls [])) {a0 : Nat} {x1 : Int} (h_x1 : jIn x1) {x2 : Int} (h_x2 : jIn x2) {x3 : Int} (h_x3 : jIn x3) {H : Heap} {locs : List Loc} {ls : Array Slot} (S : jHs D cy B sz sh (jA B sz) s.heap H locs m0) (L : jL ls [some (jR B a0), some (jI x1), some (jI x2), some (jI x3), none]) (hyp : f_X12_crowd0_b4 N sh k4 a0 x1 x2 x3 m0 = some res) : W p l e (jrm 1 0 0) s mi args below meth c H locs 0 0 (MQ below (jQc D cy B sz sh m0 (some (jI res)) (jIn res)) args s 0 0 (jA B sz)) (F0 mi 4 ls []) := by
  unfold f_X12_crowd0_b4 at hyp
  refine jr_iload_n (pc := 4) C L dX12_crowd0_4 rfl rfl ?_
  refine jr_aload_n (pc := 5) C L dX12_crowd0_5 rfl rfl ?_
  obtain ⟨v1, hv1, hyp⟩ := jbind hyp
  refine jr_getR (pc := 6) C S lf_X12_16 rfl hv1 dX12_crowd0_6 ?_
  refine jr_iload_n (pc := 9) C L dX12_crowd0_9 rfl rfl ?_
  obtain ⟨v2, hv2, hyp⟩ := jbind hyp
  have iv2 := jra_in S hv2
  refine jr_ial (pc := 10) C S h_x1 hv2 dX12_crowd0_10 ?_
  refine jr_icmp_ge (pc := 11) C h_x3 iv2 (tgt := 58) dX12_crowd0_11 (by decide) (fun c3 => ?_) (fun c3 => ?_)
  · have hyp := (if_pos c3).symm.trans hyp
    refine jr_aload_n (pc := 14) C L dX12_crowd0_14 rfl rfl ?_
    obtain ⟨v4, hv4, hyp⟩ := jbind hyp
    refine jr_getR (pc := 15) C S lf_X12_19 rfl hv4 dX12_crowd0_15 ?_
    refine jr_bipush (pc := 18) C dX12_crowd0_18 (by decide) ?_
    refine jr_iload_n (pc := 20) C L dX12_crowd0_20 rfl rfl ?_
    refine jr_imul (pc := 21) C dX12_crowd0_21 ?_
    refine jr_iload_n (pc := 22) C L dX12_crowd0_22 rfl rfl ?_
    refine jr_iadd (pc := 23) C dX12_crowd0_23 ?_
    obtain ⟨v5, hv5, hyp⟩ := jbind hyp
    have iv5 := jra_in S hv5
    refine jr_ial (pc := 24) C S (jIn_w _) hv5 dX12_crowd0_24 ?_
    refine jr_bipush (pc := 25) C dX12_crowd0_25 (by decide) ?_
    refine jr_isub (pc := 27) C dX12_crowd0_27 ?_
    refine jr_istore (pc := 28) C L dX12_crowd0_28 (Nat.le_of_ble_eq_true rfl) (fun ls L => ?_)
    have L : jL ls [some (jR B a0), some (jI x1), some (jI x2), some (jI x3), some (jI (jw (v5 - 48)))] := L
    refine jr_iload_n (pc := 30) C L dX12_crowd0_30 rfl rfl ?_
    refine jr_iload (pc := 31) C L dX12_crowd0_31 rfl ?_
    refine jr_iconst (pc := 33) C dX12_crowd0_33 ?_
    refine jr_bipush (pc := 34) C dX12_crowd0_34 (by decide) ?_
    obtain ⟨q6, hq6, hyp⟩ := jbind hyp
    refine jr_callS_I (pc := 36) C S L (As := [jI (jw (v5 - 48)), jI 0, jI 7]) (rest := [jI x2]) (c_X12_in (m0 := m0) (jIn_w _) (show jIn 0 from ⟨by decide, by decide⟩) (show jIn 7 from ⟨by decide, by decide⟩) hq6) ms_X12_in ml_X12_80 (by decide) rfl rfl rfl (Nat.le_of_ble_eq_true rfl) ⟨Nat.le_refl 0, Nat.le_refl 0⟩ dX12_crowd0_36 (fun p7 H locs S => ?_)
    refine jr_if_eq (pc := 39) C p7 (tgt := 49) dX12_crowd0_39 (by decide) (fun c8 => ?_) (fun c8 => ?_)
    · have hyp := (if_pos c8).symm.trans hyp
      refine jr_iconst (pc := 49) C dX12_crowd0_49 ?_
      exact t_X12_crowd0_b50 C  K4 h_x1 h_x3 h_x2 (show jIn 0 from ⟨by decide, by decide⟩) S (L.sub (jsub_s (jsub_s (jsub_n (jsub_s (jsub_n jsub_0)))))) hyp
    · have hyp := (if_neg c8).symm.trans hyp
      refine jr_iconst (pc := 42) C dX12_crowd0_42 ?_
      refine jr_iload (pc := 43) C L dX12_crowd0_43 rfl ?_
      refine jr_ishl (pc := 45) C dX12_crowd0_45 ?_
      refine jr_goto (pc := 46) C (tgt := 50) dX12_crowd0_46 (by decide) ?_
      exact t_X12_crowd0_b50 C  K4 h_x1 h_x3 h_x2 (jIn_shl _ _) S (L.sub (jsub_s (jsub_s (jsub_n (jsub_s (jsub_n jsub_0)))))) hyp
  · have hyp := (if_neg c3).symm.trans hyp
    refine jr_iload_n (pc := 58) C L dX12_crowd0_58 rfl rfl ?_
    cases hyp
    exact jr_iret C S h_x2 dX12_crowd0_59
theorem t_X12_crowd0_l4 {p : Program} {l : Launch} {e : Env} {s : State} {mi : MethodId} {args : Array Value} {below : List Frame} {meth : Method} {c : Code} {D : va_G} {cy : Nat → ClassId} {B sz : Nat} {sh : jm_S} {res : Int} {N : Nat} {m0 : jm_M} (C : jCx p s mi args meth c cX12_crowd0 5 RX12 (some .int) D cy) : ∀ (n : Nat) (a0 : Nat) (x1 : Int) (x2 : Int) (x3 : Int), jIn x1 → jIn x2 → jIn x3 → ∀ (H : Heap) (locs : List Loc) (ls : Array Slot), jHs D cy B sz sh (jA B sz) s.heap H locs m0 → jL ls [some (jR B a0), some (jI x1), some (jI x2), some (jI x3), none] → f_X12_crowd0_l4 N sh n a0 x1 x2 x3 m0 = some res → W p l e (jrm 1 0 0) s mi args below meth c H locs 0 0 (MQ below (jQc D cy B sz sh m0 (some (jI res)) (jIn res)) args s 0 0 (jA B sz)) (F0 mi 4 ls []) := by
  intro n
  induction n with
  | zero => intro a0 x1 x2 x3 h_x1 h_x2 h_x3 H locs ls S L hyp; cases hyp
  | succ n ih => intro a0 x1 x2 x3 h_x1 h_x2 h_x3 H locs ls S L hyp; exact t_X12_crowd0_b4 (N := N) C  ih h_x1 h_x2 h_x3 S L hyp
set_option maxHeartbeats 4000000 in
set_option maxRecDepth 100000 in
theorem t_X12_crowd0_e {p : Program} {l : Launch} {e : Env} {s : State} {mi : MethodId} {args : Array Value} {below : List Frame} {meth : Method} {c : Code} {D : va_G} {cy : Nat → ClassId} {B sz : Nat} {sh : jm_S} {res : Int} {N : Nat} {m0 : jm_M} (C : jCx p s mi args meth c cX12_crowd0 5 RX12 (some .int) D cy) {a0 : Nat} {x1 : Int} (h_x1 : jIn x1) {H : Heap} {locs : List Loc} {ls : Array Slot} (S : jHs D cy B sz sh (jA B sz) s.heap H locs m0) (L : jL ls [some (jR B a0), some (jI x1), none, none, none]) (hyp : f_X12_crowd0 N sh a0 x1 m0 = some res) : W p l e (jrm 1 0 0) s mi args below meth c H locs 0 0 (MQ below (jQc D cy B sz sh m0 (some (jI res)) (jIn res)) args s 0 0 (jA B sz)) (F0 mi 0 ls []) := by
  unfold f_X12_crowd0 at hyp
  refine jr_iconst (pc := 0) C dX12_crowd0_0 ?_
  refine jr_istore_n (pc := 1) C L dX12_crowd0_1 rfl (Nat.le_of_ble_eq_true rfl) (fun ls L => ?_)
  have L : jL ls [some (jR B a0), some (jI x1), some (jI 0), none, none] := L
  refine jr_iconst (pc := 2) C dX12_crowd0_2 ?_
  refine jr_istore_n (pc := 3) C L dX12_crowd0_3 rfl (Nat.le_of_ble_eq_true rfl) (fun ls L => ?_)
  have L : jL ls [some (jR B a0), some (jI x1), some (jI 0), some (jI 0), none] := L
  exact t_X12_crowd0_l4 C   N a0 x1 0 0 h_x1 (show jIn 0 from ⟨by decide, by decide⟩) (show jIn 0 from ⟨by decide, by decide⟩)  _ _ _ S (L.sub (jsub_s (jsub_s (jsub_s (jsub_s (jsub_n jsub_0)))))) hyp
theorem c_X12_crowd0 {l : Launch} {D : va_G} {cy : Nat → ClassId} {B sz : Nat} {sh : jm_S} {res : Int} {N : Nat} {m0 : jm_M} {a0 : Nat} {x1 : Int} (h_x1 : jIn x1) (hyp : f_X12_crowd0 N sh a0 x1 m0 = some res) : jCt l D cy B sz sh 1 yX12_crowd0 cX12_crowd0 5 (some .int) [jR B a0, jI x1] m0 (some (jI res)) m0 (jIn res) :=
  jc_of (by decide) (fun v h => by simp only [List.mem_cons, List.not_mem_nil, or_false] at h; rcases h with rfl | rfl <;> first | rfl | exact jR_cat _ _) (Nat.le_of_ble_eq_true rfl) (fun C S L => t_X12_crowd0_e C  h_x1 S L hyp)
set_option maxHeartbeats 4000000 in
set_option maxRecDepth 100000 in
theorem t_X12_crowd_e {p : Program} {l : Launch} {e : Env} {s : State} {mi : MethodId} {args : Array Value} {below : List Frame} {meth : Method} {c : Code} {D : va_G} {cy : Nat → ClassId} {B sz : Nat} {sh : jm_S} {res : Int} {N : Nat} {m0 : jm_M} (C : jCx p s mi args meth c cX12_crowd 2 RX12 (some .int) D cy) {a0 : Nat} {x1 : Int} (h_x1 : jIn x1) {H : Heap} {locs : List Loc} {ls : Array Slot} (S : jHs D cy B sz sh (jA B sz) s.heap H locs m0) (L : jL ls [some (jR B a0), some (jI x1)]) (hyp : f_X12_crowd N sh a0 x1 m0 = some res) : W p l e (jrm 2 0 0) s mi args below meth c H locs 0 0 (MQ below (jQc D cy B sz sh m0 (some (jI res)) (jIn res)) args s 0 0 (jA B sz)) (F0 mi 0 ls []) := by
  unfold f_X12_crowd at hyp
  refine jr_iload_n (pc := 0) C L dX12_crowd_0 rfl rfl ?_
  obtain ⟨q1, hq1, hyp⟩ := jbind hyp
  refine jr_callS_I (pc := 1) C S L (As := [jI x1]) (rest := []) (c_X12_isProgram (m0 := m0) h_x1 hq1) ms_X12_isProgram ml_X12_103 (by decide) rfl rfl rfl (Nat.le_of_ble_eq_true rfl) ⟨Nat.le_refl 0, Nat.le_refl 0⟩ dX12_crowd_1 (fun p2 H locs S => ?_)
  refine jr_if_eq (pc := 4) C p2 (tgt := 15) dX12_crowd_4 (by decide) (fun c3 => ?_) (fun c3 => ?_)
  · have hyp := (if_pos c3).symm.trans hyp
    refine jr_iconst (pc := 15) C dX12_crowd_15 ?_
    cases hyp
    exact jr_iret C S (show jIn (-1) from ⟨by decide, by decide⟩) dX12_crowd_16
  · have hyp := (if_neg c3).symm.trans hyp
    refine jr_aload_n (pc := 7) C L dX12_crowd_7 rfl rfl ?_
    refine jr_iload_n (pc := 8) C L dX12_crowd_8 rfl rfl ?_
    obtain ⟨u4, hu4, hyp⟩ := jbind hyp
    obtain ⟨q5, hq5, hyp⟩ := jbind hyp
    refine jr_callV_I (pc := 9) C S L (As := [jI x1]) (rest := []) (c_X12_crowd0 (m0 := m0) h_x1 hq5) mv_X12_crowd0 ml_X12_264 rfl (jck_spec hu4) (by decide) rfl rfl rfl (Nat.le_of_ble_eq_true rfl) ⟨Nat.le_refl 0, Nat.le_refl 0⟩ dX12_crowd_9 (fun p6 H locs S => ?_)
    refine jr_goto (pc := 12) C (tgt := 16) dX12_crowd_12 (by decide) ?_
    cases hyp
    exact jr_iret C S p6 dX12_crowd_16
theorem c_X12_crowd {l : Launch} {D : va_G} {cy : Nat → ClassId} {B sz : Nat} {sh : jm_S} {res : Int} {N : Nat} {m0 : jm_M} {a0 : Nat} {x1 : Int} (h_x1 : jIn x1) (hyp : f_X12_crowd N sh a0 x1 m0 = some res) : jCt l D cy B sz sh 2 yX12_crowd cX12_crowd 2 (some .int) [jR B a0, jI x1] m0 (some (jI res)) m0 (jIn res) :=
  jc_of (by decide) (fun v h => by simp only [List.mem_cons, List.not_mem_nil, or_false] at h; rcases h with rfl | rfl <;> first | rfl | exact jR_cat _ _) (Nat.le_of_ble_eq_true rfl) (fun C S L => t_X12_crowd_e C  h_x1 S L hyp)
set_option maxHeartbeats 4000000 in
set_option maxRecDepth 100000 in
theorem t_X12_period_e {p : Program} {l : Launch} {e : Env} {s : State} {mi : MethodId} {args : Array Value} {below : List Frame} {meth : Method} {c : Code} {D : va_G} {cy : Nat → ClassId} {B sz : Nat} {sh : jm_S} {res : (Int × jm_M)} (C : jCx p s mi args meth c cX12_period 4 RX12 (some .int) D cy) {a0 : Nat} {x1 : Int} (h_x1 : jIn x1) {x2 : Int} (h_x2 : jIn x2) {m : jm_M} {H : Heap} {locs : List Loc} {ls : Array Slot} (S : jHs D cy B sz sh (jA B sz) s.heap H locs m) (L : jL ls [some (jR B a0), some (jI x1), some (jI x2), none]) (hyp : f_X12_period sh a0 x1 x2 m = some res) : W p l e (jrm 2 0 0) s mi args below meth c H locs 0 0 (MQ below (jQc D cy B sz sh res.2 (some (jI res.1)) (jIn res.1)) args s 0 0 (jA B sz)) (F0 mi 0 ls []) := by
  unfold f_X12_period at hyp
  refine jr_iload_n (pc := 0) C L dX12_period_0 rfl rfl ?_
  obtain ⟨q1, hq1, hyp⟩ := jbind hyp
  refine jr_callS_I (pc := 1) C S L (As := [jI x1]) (rest := []) (c_X12_isProgram (m0 := m) h_x1 hq1) ms_X12_isProgram ml_X12_103 (by decide) rfl rfl rfl (Nat.le_of_ble_eq_true rfl) ⟨Nat.le_refl 0, Nat.le_refl 0⟩ dX12_period_1 (fun p2 H locs S => ?_)
  refine jr_if_ne (pc := 4) C p2 (tgt := 9) dX12_period_4 (by decide) (fun c3 => ?_) (fun c3 => ?_)
  · have hyp := (if_pos c3).symm.trans hyp
    refine jr_iconst (pc := 7) C dX12_period_7 ?_
    cases hyp
    exact jr_iret C S (show jIn (-1) from ⟨by decide, by decide⟩) dX12_period_8
  · have hyp := (if_neg c3).symm.trans hyp
    refine jr_iload_n (pc := 9) C L dX12_period_9 rfl rfl ?_
    refine jr_iconst (pc := 10) C dX12_period_10 ?_
    refine jr_sipush (pc := 11) C dX12_period_11 (by decide) ?_
    obtain ⟨q4, hq4, hyp⟩ := jbind hyp
    refine jr_callS_I (pc := 14) C S L (As := [jI x2, jI 0, jI 9999]) (rest := []) (c_X12_in (m0 := m) h_x2 (show jIn 0 from ⟨by decide, by decide⟩) (show jIn 9999 from ⟨by decide, by decide⟩) hq4) ms_X12_in ml_X12_80 (by decide) rfl rfl rfl (Nat.le_of_ble_eq_true rfl) ⟨Nat.le_refl 0, Nat.le_refl 0⟩ dX12_period_14 (fun p5 H locs S => ?_)
    refine jr_if_ne (pc := 17) C p5 (tgt := 23) dX12_period_17 (by decide) (fun c6 => ?_) (fun c6 => ?_)
    · have hyp := (if_pos c6).symm.trans hyp
      refine jr_bipush (pc := 20) C dX12_period_20 (by decide) ?_
      cases hyp
      exact jr_iret C S (show jIn (-2) from ⟨by decide, by decide⟩) dX12_period_22
    · have hyp := (if_neg c6).symm.trans hyp
      refine jr_aload_n (pc := 23) C L dX12_period_23 rfl rfl ?_
      obtain ⟨v7, hv7, hyp⟩ := jbind hyp
      refine jr_getR (pc := 24) C S lf_X12_25 rfl hv7 dX12_period_24 ?_
      refine jr_iload_n (pc := 27) C L dX12_period_27 rfl rfl ?_
      obtain ⟨v8, hv8, hyp⟩ := jbind hyp
      have iv8 := jra_in S hv8
      refine jr_ial (pc := 28) C S h_x1 hv8 dX12_period_28 ?_
      refine jr_istore_n (pc := 29) C L dX12_period_29 rfl (Nat.le_of_ble_eq_true rfl) (fun ls L => ?_)
      have L : jL ls [some (jR B a0), some (jI x1), some (jI x2), some (jI v8)] := L
      refine jr_aload_n (pc := 30) C L dX12_period_30 rfl rfl ?_
      obtain ⟨v9, hv9, hyp⟩ := jbind hyp
      refine jr_getR (pc := 31) C S lf_X12_25 rfl hv9 dX12_period_31 ?_
      refine jr_iload_n (pc := 34) C L dX12_period_34 rfl rfl ?_
      refine jr_iload_n (pc := 35) C L dX12_period_35 rfl rfl ?_
      obtain ⟨m10, hm10, hyp⟩ := jbind hyp
      refine jr_ias (pc := 36) C S h_x1 h_x2 hm10 dX12_period_36 (fun H locs S => ?_)
      refine jr_iload_n (pc := 37) C L dX12_period_37 rfl rfl ?_
      cases hyp
      exact jr_iret C S iv8 dX12_period_38
theorem c_X12_period {l : Launch} {D : va_G} {cy : Nat → ClassId} {B sz : Nat} {sh : jm_S} {res : (Int × jm_M)} {m : jm_M} {a0 : Nat} {x1 : Int} (h_x1 : jIn x1) {x2 : Int} (h_x2 : jIn x2) (hyp : f_X12_period sh a0 x1 x2 m = some res) : jCt l D cy B sz sh 2 yX12_period cX12_period 4 (some .int) [jR B a0, jI x1, jI x2] m (some (jI res.1)) res.2 (jIn res.1) :=
  jc_of (by decide) (fun v h => by simp only [List.mem_cons, List.not_mem_nil, or_false] at h; rcases h with rfl | rfl | rfl <;> first | rfl | exact jR_cat _ _) (Nat.le_of_ble_eq_true rfl) (fun C S L => t_X12_period_e C  h_x1 h_x2 S L hyp)
