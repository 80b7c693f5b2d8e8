set_option maxHeartbeats 4000000 in
set_option maxRecDepth 100000 in
theorem t_X9_weigh_b57 {p : Program} {l : Launch} {e : Env} {s : State} {mi : MethodId} {args : Array Value} {below : List Frame} {meth : Method} {c : Code} {D : va_G} {cy : Nat → ClassId} {B sz : Nat} {sh : jm_S} {res : jm_M} {N : Nat} {k7 : Nat → Int → Int → jm_M → Option jm_M} (C : jCx p s mi args meth c cX9_weigh 3 RX9 none D cy) (K7 : ∀ (a0 : Nat) (x1 : Int) (x2 : Int) , jIn x1 → jIn x2 → ∀ (m : jm_M) (H : Heap) (locs : List Loc) (ls : Array Slot), jHs D cy B sz sh (jA B sz) s.heap H locs m → jL ls [some (jR B a0), some (jI x1), some (jI x2)] → k7 a0 x1 x2 m = some res → W p l e (jrm 29 0 0) s mi args below meth c H locs 0 0 (MQ below (jQc D cy B sz sh res none True) args s 0 0 (jA B sz)) (F0 mi 7 ls [])) {a0 : Nat} {x1 : Int} (h_x1 : jIn x1) {x2 : Int} (h_x2 : jIn x2) {r0 : Nat} {s1 : Int} (h_s1 : jIn s1) {s2 : Int} (h_s2 : jIn s2) {m : jm_M} {H : Heap} {locs : List Loc} {ls : Array Slot} (S : jHs D cy B sz sh (jA B sz) s.heap H locs m) (L : jL ls [some (jR B a0), some (jI x1), some (jI x2)]) (hyp : f_X9_weigh_b57 N sh k7 a0 x1 x2 r0 s1 s2 m = some res) : W p l e (jrm 29 0 0) s mi args below meth c H locs 0 0 (MQ below (jQc D cy B sz sh res none True) args s 0 0 (jA B sz)) (F0 mi 57 ls [jI s2, jI s1, jR B r0]) := by
  unfold f_X9_weigh_b57 at hyp
  obtain ⟨m1, hm1, hyp⟩ := jbind hyp
  refine jr_ias (pc := 57) C S h_s1 h_s2 hm1 dX9_weigh_57 (fun H locs S => ?_)
  refine jr_iinc (pc := 58) C L dX9_weigh_58 rfl (Nat.le_of_ble_eq_true rfl) (fun ls L => ?_)
  have L : jL ls [some (jR B a0), some (jI x1), some (jI (jw (x2 + 1)))] := L
  refine jr_goto (pc := 61) C (tgt := 7) dX9_weigh_61 (by decide) ?_
  exact K7 a0 x1 (jw (x2 + 1)) h_x1 (jIn_w _) m1 _ _ _ S (L.sub (jsub_s (jsub_s (jsub_s jsub_0)))) hyp
set_option maxHeartbeats 4000000 in
set_option maxRecDepth 100000 in
theorem t_X9_weigh_b7 {p : Program} {l : Launch} {e : Env} {s : State} {mi : MethodId} {args : Array Value} {below : List Frame} {meth : Method} {c : Code} {D : va_G} {cy : Nat → ClassId} {B sz : Nat} {sh : jm_S} {res : jm_M} {N : Nat} {k7 : Nat → Int → Int → jm_M → Option jm_M} (C : jCx p s mi args meth c cX9_weigh 3 RX9 none D cy) (K7 : ∀ (a0 : Nat) (x1 : Int) (x2 : Int) , jIn x1 → jIn x2 → ∀ (m : jm_M) (H : Heap) (locs : List Loc) (ls : Array Slot), jHs D cy B sz sh (jA B sz) s.heap H locs m → jL ls [some (jR B a0), some (jI x1), some (jI x2)] → k7 a0 x1 x2 m = some res → W p l e (jrm 29 0 0) s mi args below meth c H locs 0 0 (MQ below (jQc D cy B sz sh res none True) args s 0 0 (jA B sz)) (F0 mi 7 ls [])) {a0 : Nat} {x1 : Int} (h_x1 : jIn x1) {x2 : Int} (h_x2 : jIn x2) {m : jm_M} {H : Heap} {locs : List Loc} {ls : Array Slot} (S : jHs D cy B sz sh (jA B sz) s.heap H locs m) (L : jL ls [some (jR B a0), some (jI x1), some (jI x2)]) (hyp : f_X9_weigh_b7 N sh k7 a0 x1 x2 m = some res) : W p l e (jrm 29 0 0) s mi args below meth c H locs 0 0 (MQ below (jQc D cy B sz sh res none True) args s 0 0 (jA B sz)) (F0 mi 7 ls []) := by
  unfold f_X9_weigh_b7 at hyp
  refine jr_iload_n (pc := 7) C L dX9_weigh_7 rfl rfl ?_
  refine jr_iconst (pc := 8) C dX9_weigh_8 ?_
  refine jr_icmp_ge (pc := 9) C h_x2 (show jIn 4 from ⟨by decide, by decide⟩) (tgt := 64) dX9_weigh_9 (by decide) (fun c2 => ?_) (fun c2 => ?_)
  · have hyp := (if_pos c2).symm.trans hyp
    refine jr_aload_n (pc := 12) C L dX9_weigh_12 rfl rfl ?_
    obtain ⟨v3, hv3, hyp⟩ := jbind hyp
    refine jr_getR (pc := 13) C S lf_X9_9 rfl hv3 dX9_weigh_13 ?_
    refine jr_iload_n (pc := 16) C L dX9_weigh_16 rfl rfl ?_
    refine jr_aload_n (pc := 17) C L dX9_weigh_17 rfl rfl ?_
    obtain ⟨v4, hv4, hyp⟩ := jbind hyp
    refine jr_getR (pc := 18) C S lf_X9_15 rfl hv4 dX9_weigh_18 ?_
    refine jr_iload_n (pc := 21) C L dX9_weigh_21 rfl rfl ?_
    obtain ⟨u5, hu5, hyp⟩ := jbind hyp
    obtain ⟨q6, hq6, hyp⟩ := jbind hyp
    refine jr_callV_I (pc := 22) C S L (As := [jI x2]) (rest := [jI x2, jR B v3.toNat]) (c_X1_isTask (m0 := m) h_x2 hq6) mv_X1_isTask ml_X9_52 rfl (jck_spec hu5) (by decide) rfl rfl rfl (by simp [jR_cat, jI_cat]) ⟨Nat.le_refl 0, Nat.le_refl 0⟩ dX9_weigh_22 (fun p7 H locs S => ?_)
    refine jr_if_eq (pc := 25) C p7 (tgt := 56) dX9_weigh_25 (by decide) (fun c8 => ?_) (fun c8 => ?_)
    · have hyp := (if_pos c8).symm.trans hyp
      refine jr_iconst (pc := 56) C dX9_weigh_56 ?_
      exact t_X9_weigh_b57 C  K7 h_x1 h_x2 h_x2 (show jIn 0 from ⟨by decide, by decide⟩) S (L.sub (jsub_s (jsub_s (jsub_s jsub_0)))) hyp
    · have hyp := (if_neg c8).symm.trans hyp
      refine jr_aload_n (pc := 28) C L dX9_weigh_28 rfl rfl ?_
      obtain ⟨v9, hv9, hyp⟩ := jbind hyp
      refine jr_getR (pc := 29) C S lf_X9_19 rfl hv9 dX9_weigh_29 ?_
      refine jr_aload_n (pc := 32) C L dX9_weigh_32 rfl rfl ?_
      obtain ⟨v10, hv10, hyp⟩ := jbind hyp
      refine jr_getR (pc := 33) C S lf_X9_15 rfl hv10 dX9_weigh_33 ?_
      refine jr_iload_n (pc := 36) C L dX9_weigh_36 rfl rfl ?_
      obtain ⟨u11, hu11, hyp⟩ := jbind hyp
      obtain ⟨q12, hq12, hyp⟩ := jbind hyp
      refine jr_callV_R (pc := 37) C S L (As := [jI x2]) (rest := [jR B v9.toNat, jI x2, jR B v3.toNat]) (c_X1_textOf (m0 := m) h_x2 hq12) mv_X1_textOf ml_X9_29 rfl (jck_spec hu11) (by decide) rfl rfl rfl (by simp [jR_cat, jI_cat]) ⟨Nat.le_refl 0, Nat.le_refl 0⟩ dX9_weigh_37 (fun p13 H locs S => ?_)
      refine jr_iload_n (pc := 40) C L dX9_weigh_40 rfl rfl ?_
      refine jr_aload_n (pc := 41) C L dX9_weigh_41 rfl rfl ?_
      obtain ⟨v14, hv14, hyp⟩ := jbind hyp
      refine jr_getR (pc := 42) C S lf_X9_15 rfl hv14 dX9_weigh_42 ?_
      refine jr_iconst (pc := 45) C dX9_weigh_45 ?_
      obtain ⟨u15, hu15, hyp⟩ := jbind hyp
      obtain ⟨q16, hq16, hyp⟩ := jbind hyp
      refine jr_callV_I (pc := 46) C S L (As := [jI 3]) (rest := [jI x1, jR B q12, jR B v9.toNat, jI x2, jR B v3.toNat]) (c_X1_setting (m0 := m) (show jIn 3 from ⟨by decide, by decide⟩) hq16) mv_X1_setting ml_X9_23 rfl (jck_spec hu15) (by decide) rfl rfl rfl (by simp [jR_cat, jI_cat]) ⟨Nat.le_refl 0, Nat.le_refl 0⟩ dX9_weigh_46 (fun p17 H locs S => ?_)
      refine jr_iconst (pc := 49) C dX9_weigh_49 ?_
      obtain ⟨u18, hu18, hyp⟩ := jbind hyp
      obtain ⟨q19, hq19, hyp⟩ := jbind hyp
      refine jr_callV_I (pc := 50) C S L (As := [jR B q12, jI x1, jI q16, jI 1]) (rest := [jI x2, jR B v3.toNat]) (c_X8_costOf h_x1 p17 (show jIn 1 from ⟨by decide, by decide⟩) hq19) mv_X8_costOf ml_X9_56 rfl (jck_spec hu18) (by decide) rfl rfl rfl (by simp [jR_cat, jI_cat]) ⟨Nat.le_refl 0, Nat.le_refl 0⟩ dX9_weigh_50 (fun p20 H locs S => ?_)
      refine jr_goto (pc := 53) C (tgt := 57) dX9_weigh_53 (by decide) ?_
      exact t_X9_weigh_b57 C  K7 h_x1 h_x2 h_x2 p20 S (L.sub (jsub_s (jsub_s (jsub_s jsub_0)))) hyp
  · have hyp := (if_neg c2).symm.trans hyp
    cases hyp
    exact jr_vret C S trivial dX9_weigh_64
theorem t_X9_weigh_l7 {p : Program} {l : Launch} {e : Env} {s : State} {mi : MethodId} {args : Array Value} {below : List Frame} {meth : Method} {c : Code} {D : va_G} {cy : Nat → ClassId} {B sz : Nat} {sh : jm_S} {res : jm_M} {N : Nat} (C : jCx p s mi args meth c cX9_weigh 3 RX9 none D cy) : ∀ (n : Nat) (a0 : Nat) (x1 : Int) (x2 : Int), jIn x1 → jIn x2 → ∀ (m : jm_M) (H : Heap) (locs : List Loc) (ls : Array Slot), jHs D cy B sz sh (jA B sz) s.heap H locs m → jL ls [some (jR B a0), some (jI x1), some (jI x2)] → f_X9_weigh_l7 N sh n a0 x1 x2 m = some res → W p l e (jrm 29 0 0) s mi args below meth c H locs 0 0 (MQ below (jQc D cy B sz sh res none True) args s 0 0 (jA B sz)) (F0 mi 7 ls []) := by
  intro n
  induction n with
  | zero => intro a0 x1 x2 h_x1 h_x2 m H locs ls S L hyp; cases hyp
  | succ n ih => intro a0 x1 x2 h_x1 h_x2 m H locs ls S L hyp; exact t_X9_weigh_b7 (N := N) C  ih h_x1 h_x2 S L hyp
set_option maxHeartbeats 4000000 in
set_option maxRecDepth 100000 in
theorem t_X9_weigh_e {p : Program} {l : Launch} {e : Env} {s : State} {mi : MethodId} {args : Array Value} {below : List Frame} {meth : Method} {c : Code} {D : va_G} {cy : Nat → ClassId} {B sz : Nat} {sh : jm_S} {res : jm_M} {N : Nat} (C : jCx p s mi args meth c cX9_weigh 3 RX9 none D cy) {a0 : Nat} {x1 : Int} (h_x1 : jIn x1) {m : jm_M} {H : Heap} {locs : List Loc} {ls : Array Slot} (S : jHs D cy B sz sh (jA B sz) s.heap H locs m) (L : jL ls [some (jR B a0), some (jI x1), none]) (hyp : f_X9_weigh N sh a0 x1 m = some res) : W p l e (jrm 29 0 0) s mi args below meth c H locs 0 0 (MQ below (jQc D cy B sz sh res none True) args s 0 0 (jA B sz)) (F0 mi 0 ls []) := by
  unfold f_X9_weigh at hyp
  refine jr_aload_n (pc := 0) C L dX9_weigh_0 rfl rfl ?_
  refine jr_iload_n (pc := 1) C L dX9_weigh_1 rfl rfl ?_
  obtain ⟨m21, hm21, hyp⟩ := jbind hyp
  refine jr_putI (pc := 2) C S lf_X9_48 fp_X9_0 rfl h_x1 hm21 dX9_weigh_2 (fun H locs S => ?_)
  refine jr_iconst (pc := 5) C dX9_weigh_5 ?_
  refine jr_istore_n (pc := 6) C L dX9_weigh_6 rfl (Nat.le_of_ble_eq_true rfl) (fun ls L => ?_)
  have L : jL ls [some (jR B a0), some (jI x1), some (jI 0)] := L
  exact t_X9_weigh_l7 C   N a0 x1 0 h_x1 (show jIn 0 from ⟨by decide, by decide⟩) m21 _ _ _ S (L.sub (jsub_s (jsub_s (jsub_s jsub_0)))) hyp
theorem c_X9_weigh {l : Launch} {D : va_G} {cy : Nat → ClassId} {B sz : Nat} {sh : jm_S} {res : jm_M} {N : Nat} {m : jm_M} {a0 : Nat} {x1 : Int} (h_x1 : jIn x1) (hyp : f_X9_weigh N sh a0 x1 m = some res) : jCt l D cy B sz sh 29 yX9_weigh cX9_weigh 3 none [jR B a0, jI x1] m none res True :=
  jc_of (by decide) (fun v h => by simp only [List.mem_cons, List.not_mem_nil, or_false] at h; rcases h with rfl | rfl <;> first | rfl | exact jR_cat _ _) (Nat.le_of_ble_eq_true rfl) (fun C S L => t_X9_weigh_e C  h_x1 S L hyp)
set_option maxHeartbeats 4000000 in
set_option maxRecDepth 100000 in
theorem t_X9_worstOf_e {p : Program} {l : Launch} {e : Env} {s : State} {mi : MethodId} {args : Array Value} {below : List Frame} {meth : Method} {c : Code} {D : va_G} {cy : Nat → ClassId} {B sz : Nat} {sh : jm_S} {res : Int} {m0 : jm_M} (C : jCx p s mi args meth c cX9_worstOf 2 RX9 (some .int) D cy) {a0 : Nat} {x1 : Int} (h_x1 : jIn x1) {H : Heap} {locs : List Loc} {ls : Array Slot} (S : jHs D cy B sz sh (jA B sz) s.heap H locs m0) (L : jL ls [some (jR B a0), some (jI x1)]) (hyp : f_X9_worstOf sh a0 x1 m0 = some res) : W p l e (jrm 0 0 0) s mi args below meth c H locs 0 0 (MQ below (jQc D cy B sz sh m0 (some (jI res)) (jIn res)) args s 0 0 (jA B sz)) (F0 mi 0 ls []) := by
  unfold f_X9_worstOf at hyp
  refine jr_iload_n (pc := 0) C L dX9_worstOf_0 rfl rfl ?_
  refine jr_if_lt (pc := 1) C h_x1 (tgt := 22) dX9_worstOf_1 (by decide) (fun c1 => ?_) (fun c1 => ?_)
  · have hyp := (if_pos c1).symm.trans hyp
    refine jr_iconst (pc := 22) C dX9_worstOf_22 ?_
    cases hyp
    exact jr_iret C S (show jIn 0 from ⟨by decide, by decide⟩) dX9_worstOf_23
  · have hyp := (if_neg c1).symm.trans hyp
    refine jr_iload_n (pc := 4) C L dX9_worstOf_4 rfl rfl ?_
    refine jr_aload_n (pc := 5) C L dX9_worstOf_5 rfl rfl ?_
    obtain ⟨v2, hv2, hyp⟩ := jbind hyp
    refine jr_getR (pc := 6) C S lf_X9_9 rfl hv2 dX9_worstOf_6 ?_
    obtain ⟨v3, hv3, hyp⟩ := jbind hyp
    refine jr_alen (pc := 9) C S hv3 dX9_worstOf_9 ?_
    refine jr_icmp_ge (pc := 10) C h_x1 (jlen_in hv3) (tgt := 22) dX9_worstOf_10 (by decide) (fun c4 => ?_) (fun c4 => ?_)
    · have hyp := (if_pos c4).symm.trans hyp
      refine jr_aload_n (pc := 13) C L dX9_worstOf_13 rfl rfl ?_
      obtain ⟨v5, hv5, hyp⟩ := jbind hyp
      refine jr_getR (pc := 14) C S lf_X9_9 rfl hv5 dX9_worstOf_14 ?_
      refine jr_iload_n (pc := 17) C L dX9_worstOf_17 rfl rfl ?_
      obtain ⟨v6, hv6, hyp⟩ := jbind hyp
      have iv6 := jra_in S hv6
      refine jr_ial (pc := 18) C S h_x1 hv6 dX9_worstOf_18 ?_
      refine jr_goto (pc := 19) C (tgt := 23) dX9_worstOf_19 (by decide) ?_
      cases hyp
      exact jr_iret C S iv6 dX9_worstOf_23
    · have hyp := (if_neg c4).symm.trans hyp
      refine jr_iconst (pc := 22) C dX9_worstOf_22 ?_
      cases hyp
      exact jr_iret C S (show jIn 0 from ⟨by decide, by decide⟩) dX9_worstOf_23
theorem c_X9_worstOf {l : Launch} {D : va_G} {cy : Nat → ClassId} {B sz : Nat} {sh : jm_S} {res : Int} {m0 : jm_M} {a0 : Nat} {x1 : Int} (h_x1 : jIn x1) (hyp : f_X9_worstOf sh a0 x1 m0 = some res) : jCt l D cy B sz sh 0 yX9_worstOf cX9_worstOf 2 (some .int) [jR B a0, jI x1] m0 (some (jI res)) m0 (jIn res) :=
  jc_of (by decide) (fun v h => by simp only [List.mem_cons, List.not_mem_nil, or_false] at h; rcases h with rfl | rfl <;> first | rfl | exact jR_cat _ _) (Nat.le_of_ble_eq_true rfl) (fun C S L => t_X9_worstOf_e C  h_x1 S L hyp)
set_option maxHeartbeats 4000000 in
set_option maxRecDepth 100000 in
theorem t_X9_timeWithBreaks_b66 {p : Program} {l : Launch} {e : Env} {s : State} {mi : MethodId} {args : Array Value} {below : List Frame} {meth : Method} {c : Code} {D : va_G} {cy : Nat → ClassId} {B sz : Nat} {sh : jm_S} {res : Int} {N : Nat} {m0 : jm_M} {k9 : Nat → Int → Int → Int → Int → Option Int} (C : jCx p s mi args meth c cX9_timeWithBreaks 7 RX9 (some .int) D cy) (K9 : ∀ (a0 : Nat) (x1 : Int) (x2 : Int) (x3 : Int) (x4 : Int) , jIn x1 → jIn x2 → jIn x3 → jIn x4 → ∀ (H : Heap) (locs : List Loc) (ls : Array Slot), jHs D cy B sz sh (jA B sz) s.heap H locs m0 → jL ls [some (jR B a0), some (jI x1), some (jI x2), some (jI x3), some (jI x4), none, none] → k9 a0 x1 x2 x3 x4 = some res → W p l e (jrm 2 0 0) s mi args below meth c H locs 0 0 (MQ below (jQc D cy B sz sh m0 (some (jI res)) (jIn res)) args s 0 0 (jA B sz)) (F0 mi 9 ls [])) {a0 : Nat} {x1 : Int} (h_x1 : jIn x1) {x2 : Int} (h_x2 : jIn x2) {x3 : Int} (h_x3 : jIn x3) {x4 : Int} (h_x4 : jIn x4) {H : Heap} {locs : List Loc} {ls : Array Slot} (S : jHs D cy B sz sh (jA B sz) s.heap H locs m0) (L : jL ls [some (jR B a0), some (jI x1), some (jI x2), some (jI x3), some (jI x4), none, none]) (hyp : f_X9_timeWithBreaks_b66 N sh k9 a0 x1 x2 x3 x4 m0 = some res) : W p l e (jrm 2 0 0) s mi args below meth c H locs 0 0 (MQ below (jQc D cy B sz sh m0 (some (jI res)) (jIn res)) args s 0 0 (jA B sz)) (F0 mi 66 ls []) := by
  unfold f_X9_timeWithBreaks_b66 at hyp
  refine jr_iinc (pc := 66) C L dX9_timeWithBreaks_66 rfl (Nat.le_of_ble_eq_true rfl) (fun ls L => ?_)
  have L : jL ls [some (jR B a0), some (jI x1), some (jI x2), some (jI x3), some (jI (jw (x4 + 1))), none, none] := L
  refine jr_goto (pc := 69) C (tgt := 9) dX9_timeWithBreaks_69 (by decide) ?_
  exact K9 a0 x1 x2 x3 (jw (x4 + 1)) h_x1 h_x2 h_x3 (jIn_w _)  _ _ _ S (L.sub (jsub_s (jsub_s (jsub_s (jsub_s (jsub_s (jsub_n (jsub_n jsub_0)))))))) hyp
set_option maxHeartbeats 4000000 in
set_option maxRecDepth 100000 in
theorem t_X9_timeWithBreaks_b9 {p : Program} {l : Launch} {e : Env} {s : State} {mi : MethodId} {args : Array Value} {below : List Frame} {meth : Method} {c : Code} {D : va_G} {cy : Nat → ClassId} {B sz : Nat} {sh : jm_S} {res : Int} {N : Nat} {m0 : jm_M} {k9 : Nat → Int → Int → Int → Int → Option Int} (C : jCx p s mi args meth c cX9_timeWithBreaks 7 RX9 (some .int) D cy) (K9 : ∀ (a0 : Nat) (x1 : Int) (x2 : Int) (x3 : Int) (x4 : Int) , jIn x1 → jIn x2 → jIn x3 → jIn x4 → ∀ (H : Heap) (locs : List Loc) (ls : Array Slot), jHs D cy B sz sh (jA B sz) s.heap H locs m0 → jL ls [some (jR B a0), some (jI x1), some (jI x2), some (jI x3), some (jI x4), none, none] → k9 a0 x1 x2 x3 x4 = some res → W p l e (jrm 2 0 0) s mi args below meth c H locs 0 0 (MQ below (jQc D cy B sz sh m0 (some (jI res)) (jIn res)) args s 0 0 (jA B sz)) (F0 mi 9 ls [])) {a0 : Nat} {x1 : Int} (h_x1 : jIn x1) {x2 : Int} (h_x2 : jIn x2) {x3 : Int} (h_x3 : jIn x3) {x4 : Int} (h_x4 : jIn x4) {H : Heap} {locs : List Loc} {ls : Array Slot} (S : jHs D cy B sz sh (jA B sz) s.heap H locs m0) (L : jL ls [some (jR B a0), some (jI x1), some (jI x2), some (jI x3), some (jI x4), none, none]) (hyp : f_X9_timeWithBreaks_b9 N sh k9 a0 x1 x2 x3 x4 m0 = some res) : W p l e (jrm 2 0 0) s mi args below meth c H locs 0 0 (MQ below (jQc D cy B sz sh m0 (some (jI res)) (jIn res)) args s 0 0 (jA B sz)) (F0 mi 9 ls []) := by
  unfold f_X9_timeWithBreaks_b9 at hyp
  refine jr_iload (pc := 9) C L dX9_timeWithBreaks_9 rfl ?_
  refine jr_iload_n (pc := 11) C L dX9_timeWithBreaks_11 rfl rfl ?_
  refine jr_icmp_ge (pc := 12) C h_x4 h_x1 (tgt := 72) dX9_timeWithBreaks_12 (by decide) (fun c1 => ?_) (fun c1 => ?_)
  · have hyp := (if_pos c1).symm.trans hyp
    refine jr_aload_n (pc := 15) C L dX9_timeWithBreaks_15 rfl rfl ?_
    obtain ⟨v2, hv2, hyp⟩ := jbind hyp
    refine jr_getR (pc := 16) C S lf_X9_15 rfl hv2 dX9_timeWithBreaks_16 ?_
    refine jr_iload (pc := 19) C L dX9_timeWithBreaks_19 rfl ?_
    obtain ⟨u3, hu3, hyp⟩ := jbind hyp
    obtain ⟨q4, hq4, hyp⟩ := jbind hyp
    refine jr_callV_I (pc := 21) C S L (As := [jI x4]) (rest := []) (c_X1_periodOf (m0 := m0) h_x4 hq4) mv_X1_periodOf ml_X9_62 rfl (jck_spec hu3) (by decide) rfl rfl rfl (Nat.le_of_ble_eq_true rfl) ⟨Nat.le_refl 0, Nat.le_refl 0⟩ dX9_timeWithBreaks_21 (fun p5 H locs S => ?_)
    refine jr_istore (pc := 24) C L dX9_timeWithBreaks_24 (Nat.le_of_ble_eq_true rfl) (fun ls L => ?_)
    have L : jL ls [some (jR B a0), some (jI x1), some (jI x2), some (jI x3), some (jI x4), some (jI q4), none] := L
    refine jr_iload (pc := 26) C L dX9_timeWithBreaks_26 rfl ?_
    refine jr_if_le (pc := 28) C p5 (tgt := 66) dX9_timeWithBreaks_28 (by decide) (fun c6 => ?_) (fun c6 => ?_)
    · have hyp := (if_pos c6).symm.trans hyp
      refine jr_iload_n (pc := 31) C L dX9_timeWithBreaks_31 rfl rfl ?_
      refine jr_iload (pc := 32) C L dX9_timeWithBreaks_32 rfl ?_
      refine jr_iadd (pc := 34) C dX9_timeWithBreaks_34 ?_
      refine jr_iconst (pc := 35) C dX9_timeWithBreaks_35 ?_
      refine jr_isub (pc := 36) C dX9_timeWithBreaks_36 ?_
      refine jr_iload (pc := 37) C L dX9_timeWithBreaks_37 rfl ?_
      by_cases c7 : q4 = 0
      · exact absurd ((if_pos c7).symm.trans hyp) (by intro h; cases h)
      have hyp := (if_neg c7).symm.trans hyp
      refine jr_idiv (pc := 39) C (jIn_w _) p5 c7 dX9_timeWithBreaks_39 ?_
      refine jr_istore (pc := 40) C L dX9_timeWithBreaks_40 (Nat.le_of_ble_eq_true rfl) (fun ls L => ?_)
      have L : jL ls [some (jR B a0), some (jI x1), some (jI x2), some (jI x3), some (jI x4), some (jI q4), some (jI (jdiv (jw ((jw (x2 + q4)) - 1)) q4))] := L
      refine jr_iload_n (pc := 42) C L dX9_timeWithBreaks_42 rfl rfl ?_
      refine jr_iload (pc := 43) C L dX9_timeWithBreaks_43 rfl ?_
      refine jr_aload_n (pc := 45) C L dX9_timeWithBreaks_45 rfl rfl ?_
      refine jr_iload (pc := 46) C L dX9_timeWithBreaks_46 rfl ?_
      obtain ⟨u8, hu8, hyp⟩ := jbind hyp
      obtain ⟨q9, hq9, hyp⟩ := jbind hyp
      refine jr_callV_I (pc := 48) C S L (As := [jI x4]) (rest := [jI (jdiv (jw ((jw (x2 + q4)) - 1)) q4), jI x3]) (c_X9_worstOf (m0 := m0) h_x4 hq9) mv_X9_worstOf ml_X9_65 rfl (jck_spec hu8) (by decide) rfl rfl rfl (Nat.le_of_ble_eq_true rfl) ⟨Nat.le_refl 0, Nat.le_refl 0⟩ dX9_timeWithBreaks_48 (fun p10 H locs S => ?_)
      refine jr_aload_n (pc := 51) C L dX9_timeWithBreaks_51 rfl rfl ?_
      refine jr_iload (pc := 52) C L dX9_timeWithBreaks_52 rfl ?_
      refine jr_iload_n (pc := 54) C L dX9_timeWithBreaks_54 rfl rfl ?_
      refine jr_aload_n (pc := 55) C L dX9_timeWithBreaks_55 rfl rfl ?_
      obtain ⟨v11, hv11, hyp⟩ := jbind hyp
      have iv11 := jrf_in S hv11
      refine jr_getI (pc := 56) C S lf_X9_48 rfl hv11 dX9_timeWithBreaks_56 ?_
      obtain ⟨u12, hu12, hyp⟩ := jbind hyp
      obtain ⟨q13, hq13, hyp⟩ := jbind hyp
      refine jr_callV_I (pc := 59) C S L (As := [jI x4, jI x1, jI v11]) (rest := [jI q9, jI (jdiv (jw ((jw (x2 + q4)) - 1)) q4), jI x3]) (c_X9_breakCost (m0 := m0) h_x4 h_x1 iv11 hq13) mv_X9_breakCost ml_X9_71 rfl (jck_spec hu12) (by decide) rfl rfl rfl (Nat.le_of_ble_eq_true rfl) ⟨Nat.le_refl 0, Nat.le_refl 0⟩ dX9_timeWithBreaks_59 (fun p14 H locs S => ?_)
      refine jr_iadd (pc := 62) C dX9_timeWithBreaks_62 ?_
      refine jr_imul (pc := 63) C dX9_timeWithBreaks_63 ?_
      refine jr_iadd (pc := 64) C dX9_timeWithBreaks_64 ?_
      refine jr_istore_n (pc := 65) C L dX9_timeWithBreaks_65 rfl (Nat.le_of_ble_eq_true rfl) (fun ls L => ?_)
      have L : jL ls [some (jR B a0), some (jI x1), some (jI x2), some (jI (jw (x3 + (jw ((jdiv (jw ((jw (x2 + q4)) - 1)) q4) * (jw (q9 + q13))))))), some (jI x4), some (jI q4), some (jI (jdiv (jw ((jw (x2 + q4)) - 1)) q4))] := L
      exact t_X9_timeWithBreaks_b66 C  K9 h_x1 h_x2 (jIn_w _) h_x4 S (L.sub (jsub_s (jsub_s (jsub_s (jsub_s (jsub_s (jsub_n (jsub_n jsub_0)))))))) hyp
    · have hyp := (if_neg c6).symm.trans hyp
      exact t_X9_timeWithBreaks_b66 C  K9 h_x1 h_x2 h_x3 h_x4 S (L.sub (jsub_s (jsub_s (jsub_s (jsub_s (jsub_s (jsub_n (jsub_n jsub_0)))))))) hyp
  · have hyp := (if_neg c1).symm.trans hyp
    refine jr_iload_n (pc := 72) C L dX9_timeWithBreaks_72 rfl rfl ?_
    cases hyp
    exact jr_iret C S h_x3 dX9_timeWithBreaks_73
theorem t_X9_timeWithBreaks_l9 {p : Program} {l : Launch} {e : Env} {s : State} {mi : MethodId} {args : Array Value} {below : List Frame} {meth : Method} {c : Code} {D : va_G} {cy : Nat → ClassId} {B sz : Nat} {sh : jm_S} {res : Int} {N : Nat} {m0 : jm_M} (C : jCx p s mi args meth c cX9_timeWithBreaks 7 RX9 (some .int) D cy) : ∀ (n : Nat) (a0 : Nat) (x1 : Int) (x2 : Int) (x3 : Int) (x4 : Int), jIn x1 → jIn x2 → jIn x3 → jIn x4 → ∀ (H : Heap) (locs : List Loc) (ls : Array Slot), jHs D cy B sz sh (jA B sz) s.heap H locs m0 → jL ls [some (jR B a0), some (jI x1), some (jI x2), some (jI x3), some (jI x4), none, none] → f_X9_timeWithBreaks_l9 N sh n a0 x1 x2 x3 x4 m0 = some res → W p l e (jrm 2 0 0) s mi args below meth c H locs 0 0 (MQ below (jQc D cy B sz sh m0 (some (jI res)) (jIn res)) args s 0 0 (jA B sz)) (F0 mi 9 ls []) := by
  intro n
  induction n with
  | zero => intro a0 x1 x2 x3 x4 h_x1 h_x2 h_x3 h_x4 H locs ls S L hyp; cases hyp
  | succ n ih => intro a0 x1 x2 x3 x4 h_x1 h_x2 h_x3 h_x4 H locs ls S L hyp; exact t_X9_timeWithBreaks_b9 (N := N) C  ih h_x1 h_x2 h_x3 h_x4 S L hyp
set_option maxHeartbeats 4000000 in
set_option maxRecDepth 100000 in
theorem t_X9_timeWithBreaks_e {p : Program} {l : Launch} {e : Env} {s : State} {mi : MethodId} {args : Array Value} {below : List Frame} {meth : Method} {c : Code} {D : va_G} {cy : Nat → ClassId} {B sz : Nat} {sh : jm_S} {res : Int} {N : Nat} {m0 : jm_M} (C : jCx p s mi args meth c cX9_timeWithBreaks 7 RX9 (some .int) D cy) {a0 : Nat} {x1 : Int} (h_x1 : jIn x1) {x2 : Int} (h_x2 : jIn x2) {H : Heap} {locs : List Loc} {ls : Array Slot} (S : jHs D cy B sz sh (jA B sz) s.heap H locs m0) (L : jL ls [some (jR B a0), some (jI x1), some (jI x2), none, none, none, none]) (hyp : f_X9_timeWithBreaks N sh a0 x1 x2 m0 = some res) : W p l e (jrm 2 0 0) s mi args below meth c H locs 0 0 (MQ below (jQc D cy B sz sh m0 (some (jI res)) (jIn res)) args s 0 0 (jA B sz)) (F0 mi 0 ls []) := by
  unfold f_X9_timeWithBreaks at hyp
  refine jr_aload_n (pc := 0) C L dX9_timeWithBreaks_0 rfl rfl ?_
  refine jr_iload_n (pc := 1) C L dX9_timeWithBreaks_1 rfl rfl ?_
  obtain ⟨u15, hu15, hyp⟩ := jbind hyp
  obtain ⟨q16, hq16, hyp⟩ := jbind hyp
  refine jr_callV_I (pc := 2) C S L (As := [jI x1]) (rest := []) (c_X9_worstOf (m0 := m0) h_x1 hq16) mv_X9_worstOf ml_X9_65 rfl (jck_spec hu15) (by decide) rfl rfl rfl (Nat.le_of_ble_eq_true rfl) ⟨Nat.le_refl 0, Nat.le_refl 0⟩ dX9_timeWithBreaks_2 (fun p17 H locs S => ?_)
  refine jr_istore_n (pc := 5) C L dX9_timeWithBreaks_5 rfl (Nat.le_of_ble_eq_true rfl) (fun ls L => ?_)
  have L : jL ls [some (jR B a0), some (jI x1), some (jI x2), some (jI q16), none, none, none] := L
  refine jr_iconst (pc := 6) C dX9_timeWithBreaks_6 ?_
  refine jr_istore (pc := 7) C L dX9_timeWithBreaks_7 (Nat.le_of_ble_eq_true rfl) (fun ls L => ?_)
  have L : jL ls [some (jR B a0), some (jI x1), some (jI x2), some (jI q16), some (jI 0), none, none] := L
  exact t_X9_timeWithBreaks_l9 C   N a0 x1 x2 q16 0 h_x1 h_x2 p17 (show jIn 0 from ⟨by decide, by decide⟩)  _ _ _ S (L.sub (jsub_s (jsub_s (jsub_s (jsub_s (jsub_s (jsub_n (jsub_n jsub_0)))))))) hyp
theorem c_X9_timeWithBreaks {l : Launch} {D : va_G} {cy : Nat → ClassId} {B sz : Nat} {sh : jm_S} {res : Int} {N : Nat} {m0 : jm_M} {a0 : Nat} {x1 : Int} (h_x1 : jIn x1) {x2 : Int} (h_x2 : jIn x2) (hyp : f_X9_timeWithBreaks N sh a0 x1 x2 m0 = some res) : jCt l D cy B sz sh 2 yX9_timeWithBreaks cX9_timeWithBreaks 7 (some .int) [jR B a0, jI x1, jI x2] m0 (some (jI res)) m0 (jIn res) :=
  jc_of (by decide) (fun v h => by simp only [List.mem_cons, List.not_mem_nil, or_false] at h; rcases h with rfl | rfl | rfl <;> first | rfl | exact jR_cat _ _) (Nat.le_of_ble_eq_true rfl) (fun C S L => t_X9_timeWithBreaks_e C  h_x1 h_x2 S L hyp)
set_option maxHeartbeats 4000000 in
set_option maxRecDepth 100000 in
theorem t_X9_timeOf_b18 {p : Program} {l : Launch} {e : Env} {s : State} {mi : MethodId} {args : Array Value} {below : List Frame} {meth : Method} {c : Code} {D : va_G} {cy : Nat → ClassId} {B sz : Nat} {sh : jm_S} {res : Int} {N : Nat} {m0 : jm_M} {k18 : Nat → Int → Int → Int → Int → Option Int} (C : jCx p s mi args meth c cX9_timeOf 6 RX9 (some .int) D cy) (K18 : ∀ (a0 : Nat) (x1 : Int) (x2 : Int) (x3 : Int) (x4 : Int) , jIn x1 → jIn x2 → jIn x3 → jIn x4 → ∀ (H : Heap) (locs : List Loc) (ls : Array Slot), jHs D cy B sz sh (jA B sz) s.heap H locs m0 → jL ls [some (jR B a0), some (jI x1), some (jI x2), some (jI x3), some (jI x4), none] → k18 a0 x1 x2 x3 x4 = some res → W p l e (jrm 3 0 0) s mi args below meth c H locs 0 0 (MQ below (jQc D cy B sz sh m0 (some (jI res)) (jIn res)) args s 0 0 (jA B sz)) (F0 mi 18 ls [])) {a0 : Nat} {x1 : Int} (h_x1 : jIn x1) {x2 : Int} (h_x2 : jIn x2) {x3 : Int} (h_x3 : jIn x3) {x4 : Int} (h_x4 : jIn x4) {H : Heap} {locs : List Loc} {ls : Array Slot} (S : jHs D cy B sz sh (jA B sz) s.heap H locs m0) (L : jL ls [some (jR B a0), some (jI x1), some (jI x2), some (jI x3), some (jI x4), none]) (hyp : f_X9_timeOf_b18 N sh k18 a0 x1 x2 x3 x4 m0 = some res) : W p l e (jrm 3 0 0) s mi args below meth c H locs 0 0 (MQ below (jQc D cy B sz sh m0 (some (jI res)) (jIn res)) args s 0 0 (jA B sz)) (F0 mi 18 ls []) := by
  unfold f_X9_timeOf_b18 at hyp
  refine jr_iload (pc := 18) C L dX9_timeOf_18 rfl ?_
  refine jr_sipush (pc := 20) C dX9_timeOf_20 (by decide) ?_
  refine jr_icmp_gt (pc := 23) C h_x4 (show jIn 9999 from ⟨by decide, by decide⟩) (tgt := 56) dX9_timeOf_23 (by decide) (fun c1 => ?_) (fun c1 => ?_)
  · have hyp := (if_pos c1).symm.trans hyp
    refine jr_bipush (pc := 56) C dX9_timeOf_56 (by decide) ?_
    cases hyp
    exact jr_iret C S (show jIn (-5) from ⟨by decide, by decide⟩) dX9_timeOf_58
  · have hyp := (if_neg c1).symm.trans hyp
    refine jr_iload_n (pc := 26) C L dX9_timeOf_26 rfl rfl ?_
    refine jr_iload_n (pc := 27) C L dX9_timeOf_27 rfl rfl ?_
    refine jr_icmp_gt (pc := 28) C h_x3 h_x2 (tgt := 56) dX9_timeOf_28 (by decide) (fun c2 => ?_) (fun c2 => ?_)
    · have hyp := (if_pos c2).symm.trans hyp
      refine jr_bipush (pc := 56) C dX9_timeOf_56 (by decide) ?_
      cases hyp
      exact jr_iret C S (show jIn (-5) from ⟨by decide, by decide⟩) dX9_timeOf_58
    · have hyp := (if_neg c2).symm.trans hyp
      refine jr_aload_n (pc := 31) C L dX9_timeOf_31 rfl rfl ?_
      refine jr_iload_n (pc := 32) C L dX9_timeOf_32 rfl rfl ?_
      refine jr_iload_n (pc := 33) C L dX9_timeOf_33 rfl rfl ?_
      obtain ⟨u3, hu3, hyp⟩ := jbind hyp
      obtain ⟨q4, hq4, hyp⟩ := jbind hyp
      refine jr_callV_I (pc := 34) C S L (As := [jI x1, jI x3]) (rest := []) (c_X9_timeWithBreaks (m0 := m0) h_x1 h_x3 hq4) mv_X9_timeWithBreaks ml_X9_68 rfl (jck_spec hu3) (by decide) rfl rfl rfl (Nat.le_of_ble_eq_true rfl) ⟨Nat.le_refl 0, Nat.le_refl 0⟩ dX9_timeOf_34 (fun p5 H locs S => ?_)
      refine jr_istore (pc := 37) C L dX9_timeOf_37 (Nat.le_of_ble_eq_true rfl) (fun ls L => ?_)
      have L : jL ls [some (jR B a0), some (jI x1), some (jI x2), some (jI x3), some (jI x4), some (jI q4)] := L
      refine jr_iload (pc := 39) C L dX9_timeOf_39 rfl ?_
      refine jr_iload_n (pc := 41) C L dX9_timeOf_41 rfl rfl ?_
      refine jr_icmp_ne (pc := 42) C p5 h_x3 (tgt := 47) dX9_timeOf_42 (by decide) (fun c6 => ?_) (fun c6 => ?_)
      · have hyp := (if_pos c6).symm.trans hyp
        refine jr_iload_n (pc := 45) C L dX9_timeOf_45 rfl rfl ?_
        cases hyp
        exact jr_iret C S h_x3 dX9_timeOf_46
      · have hyp := (if_neg c6).symm.trans hyp
        refine jr_iload (pc := 47) C L dX9_timeOf_47 rfl ?_
        refine jr_istore_n (pc := 49) C L dX9_timeOf_49 rfl (Nat.le_of_ble_eq_true rfl) (fun ls L => ?_)
        have L : jL ls [some (jR B a0), some (jI x1), some (jI x2), some (jI q4), some (jI x4), some (jI q4)] := L
        refine jr_iinc (pc := 50) C L dX9_timeOf_50 rfl (Nat.le_of_ble_eq_true rfl) (fun ls L => ?_)
        have L : jL ls [some (jR B a0), some (jI x1), some (jI x2), some (jI q4), some (jI (jw (x4 + 1))), some (jI q4)] := L
        refine jr_goto (pc := 53) C (tgt := 18) dX9_timeOf_53 (by decide) ?_
        exact K18 a0 x1 x2 q4 (jw (x4 + 1)) h_x1 h_x2 p5 (jIn_w _)  _ _ _ S (L.sub (jsub_s (jsub_s (jsub_s (jsub_s (jsub_s (jsub_n jsub_0))))))) hyp
theorem t_X9_timeOf_l18 {p : Program} {l : Launch} {e : Env} {s : State} {mi : MethodId} {args : Array Value} {below : List Frame} {meth : Method} {c : Code} {D : va_G} {cy : Nat → ClassId} {B sz : Nat} {sh : jm_S} {res : Int} {N : Nat} {m0 : jm_M} (C : jCx p s mi args meth c cX9_timeOf 6 RX9 (some .int) D cy) : ∀ (n : Nat) (a0 : Nat) (x1 : Int) (x2 : Int) (x3 : Int) (x4 : Int), jIn x1 → jIn x2 → jIn x3 → jIn x4 → ∀ (H : Heap) (locs : List Loc) (ls : Array Slot), jHs D cy B sz sh (jA B sz) s.heap H locs m0 → jL ls [some (jR B a0), some (jI x1), some (jI x2), some (jI x3), some (jI x4), none] → f_X9_timeOf_l18 N sh n a0 x1 x2 x3 x4 m0 = some res → W p l e (jrm 3 0 0) s mi args below meth c H locs 0 0 (MQ below (jQc D cy B sz sh m0 (some (jI res)) (jIn res)) args s 0 0 (jA B sz)) (F0 mi 18 ls []) := by
  intro n
  induction n with
  | zero => intro a0 x1 x2 x3 x4 h_x1 h_x2 h_x3 h_x4 H locs ls S L hyp; cases hyp
  | succ n ih => intro a0 x1 x2 x3 x4 h_x1 h_x2 h_x3 h_x4 H locs ls S L hyp; exact t_X9_timeOf_b18 (N := N) C  ih h_x1 h_x2 h_x3 h_x4 S L hyp
set_option maxHeartbeats 4000000 in
set_option maxRecDepth 100000 in
theorem t_X9_timeOf_e {p : Program} {l : Launch} {e : Env} {s : State} {mi : MethodId} {args : Array Value} {below : List Frame} {meth : Method} {c : Code} {D : va_G} {cy : Nat → ClassId} {B sz : Nat} {sh : jm_S} {res : Int} {N : Nat} {m0 : jm_M} (C : jCx p s mi args meth c cX9_timeOf 6 RX9 (some .int) D cy) {a0 : Nat} {x1 : Int} (h_x1 : jIn x1) {H : Heap} {locs : List Loc} {ls : Array Slot} (S : jHs D cy B sz sh (jA B sz) s.heap H locs m0) (L : jL ls [some (jR B a0), some (jI x1), none, none, none, none]) (hyp : f_X9_timeOf N sh a0 x1 m0 = some res) : W p l e (jrm 3 0 0) s mi args below meth c H locs 0 0 (MQ below (jQc D cy B sz sh m0 (some (jI res)) (jIn res)) args s 0 0 (jA B sz)) (F0 mi 0 ls []) := by
  unfold f_X9_timeOf at hyp
  refine jr_aload_n (pc := 0) C L dX9_timeOf_0 rfl rfl ?_
  obtain ⟨v7, hv7, hyp⟩ := jbind hyp
  refine jr_getR (pc := 1) C S lf_X9_15 rfl hv7 dX9_timeOf_1 ?_
  refine jr_iload_n (pc := 4) C L dX9_timeOf_4 rfl rfl ?_
  obtain ⟨u8, hu8, hyp⟩ := jbind hyp
  obtain ⟨q9, hq9, hyp⟩ := jbind hyp
  refine jr_callV_I (pc := 5) C S L (As := [jI x1]) (rest := []) (c_X1_periodOf (m0 := m0) h_x1 hq9) mv_X1_periodOf ml_X9_62 rfl (jck_spec hu8) (by decide) rfl rfl rfl (Nat.le_of_ble_eq_true rfl) ⟨Nat.le_refl 0, Nat.le_refl 0⟩ dX9_timeOf_5 (fun p10 H locs S => ?_)
  refine jr_istore_n (pc := 8) C L dX9_timeOf_8 rfl (Nat.le_of_ble_eq_true rfl) (fun ls L => ?_)
  have L : jL ls [some (jR B a0), some (jI x1), some (jI q9), none, none, none] := L
  refine jr_aload_n (pc := 9) C L dX9_timeOf_9 rfl rfl ?_
  refine jr_iload_n (pc := 10) C L dX9_timeOf_10 rfl rfl ?_
  obtain ⟨u11, hu11, hyp⟩ := jbind hyp
  obtain ⟨q12, hq12, hyp⟩ := jbind hyp
  refine jr_callV_I (pc := 11) C S L (As := [jI x1]) (rest := []) (c_X9_worstOf (m0 := m0) h_x1 hq12) mv_X9_worstOf ml_X9_65 rfl (jck_spec hu11) (by decide) rfl rfl rfl (Nat.le_of_ble_eq_true rfl) ⟨Nat.le_refl 0, Nat.le_refl 0⟩ dX9_timeOf_11 (fun p13 H locs S => ?_)
  refine jr_istore_n (pc := 14) C L dX9_timeOf_14 rfl (Nat.le_of_ble_eq_true rfl) (fun ls L => ?_)
  have L : jL ls [some (jR B a0), some (jI x1), some (jI q9), some (jI q12), none, none] := L
  refine jr_iconst (pc := 15) C dX9_timeOf_15 ?_
  refine jr_istore (pc := 16) C L dX9_timeOf_16 (Nat.le_of_ble_eq_true rfl) (fun ls L => ?_)
  have L : jL ls [some (jR B a0), some (jI x1), some (jI q9), some (jI q12), some (jI 0), none] := L
  exact t_X9_timeOf_l18 C   N a0 x1 q9 q12 0 h_x1 p10 p13 (show jIn 0 from ⟨by decide, by decide⟩)  _ _ _ S (L.sub (jsub_s (jsub_s (jsub_s (jsub_s (jsub_s (jsub_n jsub_0))))))) hyp
theorem c_X9_timeOf {l : Launch} {D : va_G} {cy : Nat → ClassId} {B sz : Nat} {sh : jm_S} {res : Int} {N : Nat} {m0 : jm_M} {a0 : Nat} {x1 : Int} (h_x1 : jIn x1) (hyp : f_X9_timeOf N sh a0 x1 m0 = some res) : jCt l D cy B sz sh 3 yX9_timeOf cX9_timeOf 6 (some .int) [jR B a0, jI x1] m0 (some (jI res)) m0 (jIn res) :=
  jc_of (by decide) (fun v h => by simp only [List.mem_cons, List.not_mem_nil, or_false] at h; rcases h with rfl | rfl <;> first | rfl | exact jR_cat _ _) (Nat.le_of_ble_eq_true rfl) (fun C S L => t_X9_timeOf_e C  h_x1 S L hyp)
set_option maxHeartbeats 4000000 in
set_option maxRecDepth 100000 in
theorem t_X9_lateOnes_b36 {p : Program} {l : Launch} {e : Env} {s : State} {mi : MethodId} {args : Array Value} {below : List Frame} {meth : Method} {c : Code} {D : va_G} {cy : Nat → ClassId} {B sz : Nat} {sh : jm_S} {res : Int} {N : Nat} {m0 : jm_M} {k4 : Nat → Int → Int → Option Int} (C : jCx p s mi args meth c cX9_lateOnes 3 RX9 (some .int) D cy) (K4 : ∀ (a0 : Nat) (x1 : Int) (x2 : Int) , jIn x1 → jIn x2 → ∀ (H : Heap) (locs : List Loc) (ls : Array Slot), jHs D cy B sz sh (jA B sz) s.heap H locs m0 → jL ls [some (jR B a0), some (jI x1), some (jI x2)] → k4 a0 x1 x2 = some res → W p l e (jrm 4 0 0) s mi args below meth c H locs 0 0 (MQ below (jQc D cy B sz sh m0 (some (jI res)) (jIn res)) args s 0 0 (jA B sz)) (F0 mi 4 ls [])) {a0 : Nat} {x1 : Int} (h_x1 : jIn x1) {x2 : Int} (h_x2 : jIn x2) {H : Heap} {locs : List Loc} {ls : Array Slot} (S : jHs D cy B sz sh (jA B sz) s.heap H locs m0) (L : jL ls [some (jR B a0), some (jI x1), some (jI x2)]) (hyp : f_X9_lateOnes_b36 N sh k4 a0 x1 x2 m0 = some res) : W p l e (jrm 4 0 0) s mi args below meth c H locs 0 0 (MQ below (jQc D cy B sz sh m0 (some (jI res)) (jIn res)) args s 0 0 (jA B sz)) (F0 mi 36 ls []) := by
  unfold f_X9_lateOnes_b36 at hyp
  refine jr_iinc (pc := 36) C L dX9_lateOnes_36 rfl (Nat.le_of_ble_eq_true rfl) (fun ls L => ?_)
  have L : jL ls [some (jR B a0), some (jI x1), some (jI (jw (x2 + 1)))] := L
  refine jr_goto (pc := 39) C (tgt := 4) dX9_lateOnes_39 (by decide) ?_
  exact K4 a0 x1 (jw (x2 + 1)) h_x1 (jIn_w _)  _ _ _ S (L.sub (jsub_s (jsub_s (jsub_s jsub_0)))) hyp
set_option maxHeartbeats 4000000 in
set_option maxRecDepth 100000 in
theorem t_X9_lateOnes_b4 {p : Program} {l : Launch} {e : Env} {s : State} {mi : MethodId} {args : Array Value} {below : List Frame} {meth : Method} {c : Code} {D : va_G} {cy : Nat → ClassId} {B sz : Nat} {sh : jm_S} {res : Int} {N : Nat} {m0 : jm_M} {k4 : Nat → Int → Int → Option Int} (C : jCx p s mi args meth c cX9_lateOnes 3 RX9 (some .int) D cy) (K4 : ∀ (a0 : Nat) (x1 : Int) (x2 : Int) , jIn x1 → jIn x2 → ∀ (H : Heap) (locs : List Loc) (ls : Array Slot), jHs D cy B sz sh (jA B sz) s.heap H locs m0 → jL ls [some (jR B a0), some (jI x1), some (jI x2)] → k4 a0 x1 x2 = some res → W p l e (jrm 4 0 0) s mi args below meth c H locs 0 0 (MQ below (jQc D cy B sz sh m0 (some (jI res)) (jIn res)) args s 0 0 (jA B sz)) (F0 mi 4 ls [])) {a0 : Nat} {x1 : Int} (h_x1 : jIn x1) {x2 : Int} (h_x2 : jIn x2) {H : Heap} {locs : List Loc} {ls : Array Slot} (S : jHs D cy B sz sh (jA B sz) s.heap H locs m0) (L : jL ls [some (jR B a0), some (jI x1), some (jI x2)]) (hyp : f_X9_lateOnes_b4 N sh k4 a0 x1 x2 m0 = some res) : W p l e (jrm 4 0 0) s mi args below meth c H locs 0 0 (MQ below (jQc D cy B sz sh m0 (some (jI res)) (jIn res)) args s 0 0 (jA B sz)) (F0 mi 4 ls []) := by
  unfold f_X9_lateOnes_b4 at hyp
  refine jr_iload_n (pc := 4) C L dX9_lateOnes_4 rfl rfl ?_
  refine jr_iconst (pc := 5) C dX9_lateOnes_5 ?_
  refine jr_icmp_ge (pc := 6) C h_x2 (show jIn 4 from ⟨by decide, by decide⟩) (tgt := 42) dX9_lateOnes_6 (by decide) (fun c1 => ?_) (fun c1 => ?_)
  · have hyp := (if_pos c1).symm.trans hyp
    refine jr_aload_n (pc := 9) C L dX9_lateOnes_9 rfl rfl ?_
    obtain ⟨v2, hv2, hyp⟩ := jbind hyp
    refine jr_getR (pc := 10) C S lf_X9_15 rfl hv2 dX9_lateOnes_10 ?_
    refine jr_iload_n (pc := 13) C L dX9_lateOnes_13 rfl rfl ?_
    obtain ⟨u3, hu3, hyp⟩ := jbind hyp
    obtain ⟨q4, hq4, hyp⟩ := jbind hyp
    refine jr_callV_I (pc := 14) C S L (As := [jI x2]) (rest := []) (c_X1_isTask (m0 := m0) h_x2 hq4) mv_X1_isTask ml_X9_52 rfl (jck_spec hu3) (by decide) rfl rfl rfl (Nat.le_of_ble_eq_true rfl) ⟨Nat.le_refl 0, Nat.le_refl 0⟩ dX9_lateOnes_14 (fun p5 H locs S => ?_)
    refine jr_if_eq (pc := 17) C p5 (tgt := 36) dX9_lateOnes_17 (by decide) (fun c6 => ?_) (fun c6 => ?_)
    · have hyp := (if_pos c6).symm.trans hyp
      exact t_X9_lateOnes_b36 C  K4 h_x1 h_x2 S (L.sub (jsub_s (jsub_s (jsub_s jsub_0)))) hyp
    · have hyp := (if_neg c6).symm.trans hyp
      refine jr_aload_n (pc := 20) C L dX9_lateOnes_20 rfl rfl ?_
      refine jr_iload_n (pc := 21) C L dX9_lateOnes_21 rfl rfl ?_
      obtain ⟨u7, hu7, hyp⟩ := jbind hyp
      obtain ⟨q8, hq8, hyp⟩ := jbind hyp
      refine jr_callV_I (pc := 22) C S L (As := [jI x2]) (rest := []) (c_X9_timeOf (m0 := m0) h_x2 hq8) mv_X9_timeOf ml_X9_75 rfl (jck_spec hu7) (by decide) rfl rfl rfl (Nat.le_of_ble_eq_true rfl) ⟨Nat.le_refl 0, Nat.le_refl 0⟩ dX9_lateOnes_22 (fun p9 H locs S => ?_)
      refine jr_bipush (pc := 25) C dX9_lateOnes_25 (by decide) ?_
      refine jr_icmp_ne (pc := 27) C p9 (show jIn (-5) from ⟨by decide, by decide⟩) (tgt := 36) dX9_lateOnes_27 (by decide) (fun c10 => ?_) (fun c10 => ?_)
      · have hyp := (if_pos c10).symm.trans hyp
        refine jr_iload_n (pc := 30) C L dX9_lateOnes_30 rfl rfl ?_
        refine jr_iconst (pc := 31) C dX9_lateOnes_31 ?_
        refine jr_iload_n (pc := 32) C L dX9_lateOnes_32 rfl rfl ?_
        refine jr_ishl (pc := 33) C dX9_lateOnes_33 ?_
        refine jr_ior (pc := 34) C dX9_lateOnes_34 ?_
        refine jr_istore_n (pc := 35) C L dX9_lateOnes_35 rfl (Nat.le_of_ble_eq_true rfl) (fun ls L => ?_)
        have L : jL ls [some (jR B a0), some (jI (jor x1 (jshl 1 x2))), some (jI x2)] := L
        exact t_X9_lateOnes_b36 C  K4 (jIn_or _ _) h_x2 S (L.sub (jsub_s (jsub_s (jsub_s jsub_0)))) hyp
      · have hyp := (if_neg c10).symm.trans hyp
        exact t_X9_lateOnes_b36 C  K4 h_x1 h_x2 S (L.sub (jsub_s (jsub_s (jsub_s jsub_0)))) hyp
  · have hyp := (if_neg c1).symm.trans hyp
    refine jr_iload_n (pc := 42) C L dX9_lateOnes_42 rfl rfl ?_
    cases hyp
    exact jr_iret C S h_x1 dX9_lateOnes_43
theorem t_X9_lateOnes_l4 {p : Program} {l : Launch} {e : Env} {s : State} {mi : MethodId} {args : Array Value} {below : List Frame} {meth : Method} {c : Code} {D : va_G} {cy : Nat → ClassId} {B sz : Nat} {sh : jm_S} {res : Int} {N : Nat} {m0 : jm_M} (C : jCx p s mi args meth c cX9_lateOnes 3 RX9 (some .int) D cy) : ∀ (n : Nat) (a0 : Nat) (x1 : Int) (x2 : Int), jIn x1 → jIn x2 → ∀ (H : Heap) (locs : List Loc) (ls : Array Slot), jHs D cy B sz sh (jA B sz) s.heap H locs m0 → jL ls [some (jR B a0), some (jI x1), some (jI x2)] → f_X9_lateOnes_l4 N sh n a0 x1 x2 m0 = some res → W p l e (jrm 4 0 0) s mi args below meth c H locs 0 0 (MQ below (jQc D cy B sz sh m0 (some (jI res)) (jIn res)) args s 0 0 (jA B sz)) (F0 mi 4 ls []) := by
  intro n
  induction n with
  | zero => intro a0 x1 x2 h_x1 h_x2 H locs ls S L hyp; cases hyp
  | succ n ih => intro a0 x1 x2 h_x1 h_x2 H locs ls S L hyp; exact t_X9_lateOnes_b4 (N := N) C  ih h_x1 h_x2 S L hyp
set_option maxHeartbeats 4000000 in
set_option maxRecDepth 100000 in
theorem t_X9_lateOnes_e {p : Program} {l : Launch} {e : Env} {s : State} {mi : MethodId} {args : Array Value} {below : List Frame} {meth : Method} {c : Code} {D : va_G} {cy : Nat → ClassId} {B sz : Nat} {sh : jm_S} {res : Int} {N : Nat} {m0 : jm_M} (C : jCx p s mi args meth c cX9_lateOnes 3 RX9 (some .int) D cy) {a0 : Nat} {H : Heap} {locs : List Loc} {ls : Array Slot} (S : jHs D cy B sz sh (jA B sz) s.heap H locs m0) (L : jL ls [some (jR B a0), none, none]) (hyp : f_X9_lateOnes N sh a0 m0 = some res) : W p l e (jrm 4 0 0) s mi args below meth c H locs 0 0 (MQ below (jQc D cy B sz sh m0 (some (jI res)) (jIn res)) args s 0 0 (jA B sz)) (F0 mi 0 ls []) := by
  unfold f_X9_lateOnes at hyp
  refine jr_iconst (pc := 0) C dX9_lateOnes_0 ?_
  refine jr_istore_n (pc := 1) C L dX9_lateOnes_1 rfl (Nat.le_of_ble_eq_true rfl) (fun ls L => ?_)
  have L : jL ls [some (jR B a0), some (jI 0), none] := L
  refine jr_iconst (pc := 2) C dX9_lateOnes_2 ?_
  refine jr_istore_n (pc := 3) C L dX9_lateOnes_3 rfl (Nat.le_of_ble_eq_true rfl) (fun ls L => ?_)
  have L : jL ls [some (jR B a0), some (jI 0), some (jI 0)] := L
  exact t_X9_lateOnes_l4 C   N a0 0 0 (show jIn 0 from ⟨by decide, by decide⟩) (show jIn 0 from ⟨by decide, by decide⟩)  _ _ _ S (L.sub (jsub_s (jsub_s (jsub_s jsub_0)))) hyp
theorem c_X9_lateOnes {l : Launch} {D : va_G} {cy : Nat → ClassId} {B sz : Nat} {sh : jm_S} {res : Int} {N : Nat} {m0 : jm_M} {a0 : Nat} (hyp : f_X9_lateOnes N sh a0 m0 = some res) : jCt l D cy B sz sh 4 yX9_lateOnes cX9_lateOnes 3 (some .int) [jR B a0] m0 (some (jI res)) m0 (jIn res) :=
  jc_of (by decide) (fun v h => by rw [List.mem_singleton.mp h]; first | rfl | exact jR_cat _ _) (Nat.le_of_ble_eq_true rfl) (fun C S L => t_X9_lateOnes_e C   S L hyp)
set_option maxHeartbeats 4000000 in
set_option maxRecDepth 100000 in
theorem t_X9_greatestMiss_b55 {p : Program} {l : Launch} {e : Env} {s : State} {mi : MethodId} {args : Array Value} {below : List Frame} {meth : Method} {c : Code} {D : va_G} {cy : Nat → ClassId} {B sz : Nat} {sh : jm_S} {res : (Int × jm_M)} {N : Nat} (C : jCx p s mi args meth c cX9_greatestMiss 5 RX9 (some .int) D cy) {x1 : Int} (h_x1 : jIn x1) {m : jm_M} {H : Heap} {locs : List Loc} {ls : Array Slot} (S : jHs D cy B sz sh (jA B sz) s.heap H locs m) (L : jL ls [none, some (jI x1), none, none, none]) (hyp : f_X9_greatestMiss_b55 N sh x1 m = some res) : W p l e (jrm 30 0 0) s mi args below meth c H locs 0 0 (MQ below (jQc D cy B sz sh res.2 (some (jI res.1)) (jIn res.1)) args s 0 0 (jA B sz)) (F0 mi 55 ls []) := by
  unfold f_X9_greatestMiss_b55 at hyp
  refine jr_iload_n (pc := 55) C L dX9_greatestMiss_55 rfl rfl ?_
  refine jr_iconst (pc := 56) C dX9_greatestMiss_56 ?_
  refine jr_icmp_ge (pc := 57) C h_x1 (show jIn 2 from ⟨by decide, by decide⟩) (tgt := 65) dX9_greatestMiss_57 (by decide) (fun c1 => ?_) (fun c1 => ?_)
  · have hyp := (if_pos c1).symm.trans hyp
    refine jr_bipush (pc := 60) C dX9_greatestMiss_60 (by decide) ?_
    refine jr_goto (pc := 62) C (tgt := 66) dX9_greatestMiss_62 (by decide) ?_
    cases hyp
    exact jr_iret C S (show jIn (-6) from ⟨by decide, by decide⟩) dX9_greatestMiss_66
  · have hyp := (if_neg c1).symm.trans hyp
    refine jr_iload_n (pc := 65) C L dX9_greatestMiss_65 rfl rfl ?_
    cases hyp
    exact jr_iret C S h_x1 dX9_greatestMiss_66
set_option maxHeartbeats 4000000 in
set_option maxRecDepth 100000 in
theorem t_X9_greatestMiss_b49 {p : Program} {l : Launch} {e : Env} {s : State} {mi : MethodId} {args : Array Value} {below : List Frame} {meth : Method} {c : Code} {D : va_G} {cy : Nat → ClassId} {B sz : Nat} {sh : jm_S} {res : (Int × jm_M)} {N : Nat} {k7 : Nat → Int → Int → Int → jm_M → Option (Int × jm_M)} (C : jCx p s mi args meth c cX9_greatestMiss 5 RX9 (some .int) D cy) (K7 : ∀ (a0 : Nat) (x1 : Int) (x2 : Int) (x3 : Int) , jIn x1 → jIn x2 → jIn x3 → ∀ (m : jm_M) (H : Heap) (locs : List Loc) (ls : Array Slot), jHs D cy B sz sh (jA B sz) s.heap H locs m → jL ls [some (jR B a0), some (jI x1), some (jI x2), some (jI x3), none] → k7 a0 x1 x2 x3 m = some res → W p l e (jrm 30 0 0) s mi args below meth c H locs 0 0 (MQ below (jQc D cy B sz sh res.2 (some (jI res.1)) (jIn res.1)) args s 0 0 (jA B sz)) (F0 mi 7 ls [])) {a0 : Nat} {x1 : Int} (h_x1 : jIn x1) {x2 : Int} (h_x2 : jIn x2) {x3 : Int} (h_x3 : jIn x3) {m : jm_M} {H : Heap} {locs : List Loc} {ls : Array Slot} (S : jHs D cy B sz sh (jA B sz) s.heap H locs m) (L : jL ls [some (jR B a0), some (jI x1), some (jI x2), some (jI x3), none]) (hyp : f_X9_greatestMiss_b49 N sh k7 a0 x1 x2 x3 m = some res) : W p l e (jrm 30 0 0) s mi args below meth c H locs 0 0 (MQ below (jQc D cy B sz sh res.2 (some (jI res.1)) (jIn res.1)) args s 0 0 (jA B sz)) (F0 mi 49 ls []) := by
  unfold f_X9_greatestMiss_b49 at hyp
  refine jr_iinc (pc := 49) C L dX9_greatestMiss_49 rfl (Nat.le_of_ble_eq_true rfl) (fun ls L => ?_)
  have L : jL ls [some (jR B a0), some (jI x1), some (jI x2), some (jI (jw (x3 + 1))), none] := L
  refine jr_goto (pc := 52) C (tgt := 7) dX9_greatestMiss_52 (by decide) ?_
  exact K7 a0 x1 x2 (jw (x3 + 1)) h_x1 h_x2 (jIn_w _) m _ _ _ S (L.sub (jsub_s (jsub_s (jsub_s (jsub_s (jsub_n jsub_0)))))) hyp
set_option maxHeartbeats 4000000 in
set_option maxRecDepth 100000 in
theorem t_X9_greatestMiss_b7 {p : Program} {l : Launch} {e : Env} {s : State} {mi : MethodId} {args : Array Value} {below : List Frame} {meth : Method} {c : Code} {D : va_G} {cy : Nat → ClassId} {B sz : Nat} {sh : jm_S} {res : (Int × jm_M)} {N : Nat} {k7 : Nat → Int → Int → Int → jm_M → Option (Int × jm_M)} (C : jCx p s mi args meth c cX9_greatestMiss 5 RX9 (some .int) D cy) (K7 : ∀ (a0 : Nat) (x1 : Int) (x2 : Int) (x3 : Int) , jIn x1 → jIn x2 → jIn x3 → ∀ (m : jm_M) (H : Heap) (locs : List Loc) (ls : Array Slot), jHs D cy B sz sh (jA B sz) s.heap H locs m → jL ls [some (jR B a0), some (jI x1), some (jI x2), some (jI x3), none] → k7 a0 x1 x2 x3 m = some res → W p l e (jrm 30 0 0) s mi args below meth c H locs 0 0 (MQ below (jQc D cy B sz sh res.2 (some (jI res.1)) (jIn res.1)) args s 0 0 (jA B sz)) (F0 mi 7 ls [])) {a0 : Nat} {x1 : Int} (h_x1 : jIn x1) {x2 : Int} (h_x2 : jIn x2) {x3 : Int} (h_x3 : jIn x3) {m : jm_M} {H : Heap} {locs : List Loc} {ls : Array Slot} (S : jHs D cy B sz sh (jA B sz) s.heap H locs m) (L : jL ls [some (jR B a0), some (jI x1), some (jI x2), some (jI x3), none]) (hyp : f_X9_greatestMiss_b7 N sh k7 a0 x1 x2 x3 m = some res) : W p l e (jrm 30 0 0) s mi args below meth c H locs 0 0 (MQ below (jQc D cy B sz sh res.2 (some (jI res.1)) (jIn res.1)) args s 0 0 (jA B sz)) (F0 mi 7 ls []) := by
  unfold f_X9_greatestMiss_b7 at hyp
  refine jr_iload_n (pc := 7) C L dX9_greatestMiss_7 rfl rfl ?_
  refine jr_bipush (pc := 8) C dX9_greatestMiss_8 (by decide) ?_
  refine jr_icmp_ge (pc := 10) C h_x3 (show jIn 20 from ⟨by decide, by decide⟩) (tgt := 55) dX9_greatestMiss_10 (by decide) (fun c2 => ?_) (fun c2 => ?_)
  · have hyp := (if_pos c2).symm.trans hyp
    refine jr_iload_n (pc := 13) C L dX9_greatestMiss_13 rfl rfl ?_
    refine jr_iload_n (pc := 14) C L dX9_greatestMiss_14 rfl rfl ?_
    refine jr_isub (pc := 15) C dX9_greatestMiss_15 ?_
    refine jr_iconst (pc := 16) C dX9_greatestMiss_16 ?_
    refine jr_icmp_le (pc := 17) C (jIn_w _) (show jIn 1 from ⟨by decide, by decide⟩) (tgt := 55) dX9_greatestMiss_17 (by decide) (fun c3 => ?_) (fun c3 => ?_)
    · have hyp := (if_pos c3).symm.trans hyp
      refine jr_iload_n (pc := 20) C L dX9_greatestMiss_20 rfl rfl ?_
      refine jr_iload_n (pc := 21) C L dX9_greatestMiss_21 rfl rfl ?_
      refine jr_iadd (pc := 22) C dX9_greatestMiss_22 ?_
      refine jr_iconst (pc := 23) C dX9_greatestMiss_23 ?_
      refine jr_idiv (pc := 24) C (jIn_w _) (show jIn 2 from ⟨by decide, by decide⟩) (by decide) dX9_greatestMiss_24 ?_
      refine jr_istore (pc := 25) C L dX9_greatestMiss_25 (Nat.le_of_ble_eq_true rfl) (fun ls L => ?_)
      have L : jL ls [some (jR B a0), some (jI x1), some (jI x2), some (jI x3), some (jI (jdiv (jw (x1 + x2)) 2))] := L
      refine jr_aload_n (pc := 27) C L dX9_greatestMiss_27 rfl rfl ?_
      refine jr_iload (pc := 28) C L dX9_greatestMiss_28 rfl ?_
      obtain ⟨u4, hu4, hyp⟩ := jbind hyp
      obtain ⟨q5, hq5, hyp⟩ := jbind hyp
      refine jr_callV_N (pc := 30) C S L (As := [jI (jdiv (jw (x1 + x2)) 2)]) (rest := []) (c_X9_weigh (jIn_div _ _) hq5) mv_X9_weigh ml_X9_78 rfl (jck_spec hu4) (by decide) rfl rfl rfl (Nat.le_of_ble_eq_true rfl) ⟨Nat.le_refl 0, Nat.le_refl 0⟩ dX9_greatestMiss_30 (fun p6 H locs S => ?_)
      refine jr_aload_n (pc := 33) C L dX9_greatestMiss_33 rfl rfl ?_
      obtain ⟨u7, hu7, hyp⟩ := jbind hyp
      obtain ⟨q8, hq8, hyp⟩ := jbind hyp
      refine jr_callV_I (pc := 34) C S L (As := []) (rest := []) (c_X9_lateOnes (m0 := q5)  hq8) mv_X9_lateOnes ml_X9_82 rfl (jck_spec hu7) (by decide) rfl rfl rfl (Nat.le_of_ble_eq_true rfl) ⟨Nat.le_refl 0, Nat.le_refl 0⟩ dX9_greatestMiss_34 (fun p9 H locs S => ?_)
      refine jr_if_ne (pc := 37) C p9 (tgt := 46) dX9_greatestMiss_37 (by decide) (fun c10 => ?_) (fun c10 => ?_)
      · have hyp := (if_pos c10).symm.trans hyp
        refine jr_iload (pc := 40) C L dX9_greatestMiss_40 rfl ?_
        refine jr_istore_n (pc := 42) C L dX9_greatestMiss_42 rfl (Nat.le_of_ble_eq_true rfl) (fun ls L => ?_)
        have L : jL ls [some (jR B a0), some (jI (jdiv (jw (x1 + x2)) 2)), some (jI x2), some (jI x3), some (jI (jdiv (jw (x1 + x2)) 2))] := L
        refine jr_goto (pc := 43) C (tgt := 49) dX9_greatestMiss_43 (by decide) ?_
        exact t_X9_greatestMiss_b49 C  K7 (jIn_div _ _) h_x2 h_x3 S (L.sub (jsub_s (jsub_s (jsub_s (jsub_s (jsub_n jsub_0)))))) hyp
      · have hyp := (if_neg c10).symm.trans hyp
        refine jr_iload (pc := 46) C L dX9_greatestMiss_46 rfl ?_
        refine jr_istore_n (pc := 48) C L dX9_greatestMiss_48 rfl (Nat.le_of_ble_eq_true rfl) (fun ls L => ?_)
        have L : jL ls [some (jR B a0), some (jI x1), some (jI (jdiv (jw (x1 + x2)) 2)), some (jI x3), some (jI (jdiv (jw (x1 + x2)) 2))] := L
        exact t_X9_greatestMiss_b49 C  K7 h_x1 (jIn_div _ _) h_x3 S (L.sub (jsub_s (jsub_s (jsub_s (jsub_s (jsub_n jsub_0)))))) hyp
    · have hyp := (if_neg c3).symm.trans hyp
      exact t_X9_greatestMiss_b55 C   h_x1 S (L.sub (jsub_n (jsub_s (jsub_n (jsub_n (jsub_n jsub_0)))))) hyp
  · have hyp := (if_neg c2).symm.trans hyp
    exact t_X9_greatestMiss_b55 C   h_x1 S (L.sub (jsub_n (jsub_s (jsub_n (jsub_n (jsub_n jsub_0)))))) hyp
theorem t_X9_greatestMiss_l7 {p : Program} {l : Launch} {e : Env} {s : State} {mi : MethodId} {args : Array Value} {below : List Frame} {meth : Method} {c : Code} {D : va_G} {cy : Nat → ClassId} {B sz : Nat} {sh : jm_S} {res : (Int × jm_M)} {N : Nat} (C : jCx p s mi args meth c cX9_greatestMiss 5 RX9 (some .int) D cy) : ∀ (n : Nat) (a0 : Nat) (x1 : Int) (x2 : Int) (x3 : Int), jIn x1 → jIn x2 → jIn x3 → ∀ (m : jm_M) (H : Heap) (locs : List Loc) (ls : Array Slot), jHs D cy B sz sh (jA B sz) s.heap H locs m → jL ls [some (jR B a0), some (jI x1), some (jI x2), some (jI x3), none] → f_X9_greatestMiss_l7 N sh n a0 x1 x2 x3 m = some res → W p l e (jrm 30 0 0) s mi args below meth c H locs 0 0 (MQ below (jQc D cy B sz sh res.2 (some (jI res.1)) (jIn res.1)) args s 0 0 (jA B sz)) (F0 mi 7 ls []) := by
  intro n
  induction n with
  | zero => intro a0 x1 x2 x3 h_x1 h_x2 h_x3 m H locs ls S L hyp; cases hyp
  | succ n ih => intro a0 x1 x2 x3 h_x1 h_x2 h_x3 m H locs ls S L hyp; exact t_X9_greatestMiss_b7 (N := N) C  ih h_x1 h_x2 h_x3 S L hyp
set_option maxHeartbeats 4000000 in
set_option maxRecDepth 100000 in
theorem t_X9_greatestMiss_e {p : Program} {l : Launch} {e : Env} {s : State} {mi : MethodId} {args : Array Value} {below : List Frame} {meth : Method} {c : Code} {D : va_G} {cy : Nat → ClassId} {B sz : Nat} {sh : jm_S} {res : (Int × jm_M)} {N : Nat} (C : jCx p s mi args meth c cX9_greatestMiss 5 RX9 (some .int) D cy) {a0 : Nat} {m : jm_M} {H : Heap} {locs : List Loc} {ls : Array Slot} (S : jHs D cy B sz sh (jA B sz) s.heap H locs m) (L : jL ls [some (jR B a0), none, none, none, none]) (hyp : f_X9_greatestMiss N sh a0 m = some res) : W p l e (jrm 30 0 0) s mi args below meth c H locs 0 0 (MQ below (jQc D cy B sz sh res.2 (some (jI res.1)) (jIn res.1)) args s 0 0 (jA B sz)) (F0 mi 0 ls []) := by
  unfold f_X9_greatestMiss at hyp
  refine jr_iconst (pc := 0) C dX9_greatestMiss_0 ?_
  refine jr_istore_n (pc := 1) C L dX9_greatestMiss_1 rfl (Nat.le_of_ble_eq_true rfl) (fun ls L => ?_)
  have L : jL ls [some (jR B a0), some (jI 1), none, none, none] := L
  refine jr_bipush (pc := 2) C dX9_greatestMiss_2 (by decide) ?_
  refine jr_istore_n (pc := 4) C L dX9_greatestMiss_4 rfl (Nat.le_of_ble_eq_true rfl) (fun ls L => ?_)
  have L : jL ls [some (jR B a0), some (jI 1), some (jI 21), none, none] := L
  refine jr_iconst (pc := 5) C dX9_greatestMiss_5 ?_
  refine jr_istore_n (pc := 6) C L dX9_greatestMiss_6 rfl (Nat.le_of_ble_eq_true rfl) (fun ls L => ?_)
  have L : jL ls [some (jR B a0), some (jI 1), some (jI 21), some (jI 0), none] := L
  exact t_X9_greatestMiss_l7 C   N a0 1 21 0 (show jIn 1 from ⟨by decide, by decide⟩) (show jIn 21 from ⟨by decide, by decide⟩) (show jIn 0 from ⟨by decide, by decide⟩) m _ _ _ S (L.sub (jsub_s (jsub_s (jsub_s (jsub_s (jsub_n jsub_0)))))) hyp
theorem c_X9_greatestMiss {l : Launch} {D : va_G} {cy : Nat → ClassId} {B sz : Nat} {sh : jm_S} {res : (Int × jm_M)} {N : Nat} {m : jm_M} {a0 : Nat} (hyp : f_X9_greatestMiss N sh a0 m = some res) : jCt l D cy B sz sh 30 yX9_greatestMiss cX9_greatestMiss 5 (some .int) [jR B a0] m (some (jI res.1)) res.2 (jIn res.1) :=
  jc_of (by decide) (fun v h => by rw [List.mem_singleton.mp h]; first | rfl | exact jR_cat _ _) (Nat.le_of_ble_eq_true rfl) (fun C S L => t_X9_greatestMiss_e C   S L hyp)
set_option maxHeartbeats 4000000 in
set_option maxRecDepth 100000 in
theorem t_X11_shelf_b64 {p : Program} {l : Launch} {e : Env} {s : State} {mi : MethodId} {args : Array Value} {below : List Frame} {meth : Method} {c : Code} {D : va_G} {cy : Nat → ClassId} {B sz : Nat} {sh : jm_S} {res : (Int × jm_M)} {N : Nat} (C : jCx p s mi args meth c cX11_shelf 7 RX11 (some .int) D cy) {a0 : Nat} {x1 : Int} (h_x1 : jIn x1) {x2 : Int} (h_x2 : jIn x2) {x3 : Int} (h_x3 : jIn x3) {x4 : Int} (h_x4 : jIn x4) {s0 : Int} (h_s0 : jIn s0) {m : jm_M} {H : Heap} {locs : List Loc} {ls : Array Slot} (S : jHs D cy B sz sh (jA B sz) s.heap H locs m) (L : jL ls [some (jR B a0), some (jI x1), some (jI x2), some (jI x3), some (jI x4), none, none]) (hyp : f_X11_shelf_b64 N sh a0 x1 x2 x3 x4 s0 m = some res) : W p l e (jrm 2 0 0) s mi args below meth c H locs 0 0 (MQ below (jQc D cy B sz sh res.2 (some (jI res.1)) (jIn res.1)) args s 0 0 (jA B sz)) (F0 mi 64 ls [jI s0]) := by
  unfold f_X11_shelf_b64 at hyp
  refine jr_istore (pc := 64) C L dX11_shelf_64 (Nat.le_of_ble_eq_true rfl) (fun ls L => ?_)
  have L : jL ls [some (jR B a0), some (jI x1), some (jI x2), some (jI x3), some (jI x4), some (jI s0), none] := L
  refine jr_iload_n (pc := 66) C L dX11_shelf_66 rfl rfl ?_
  refine jr_iload (pc := 67) C L dX11_shelf_67 rfl ?_
  refine jr_iload (pc := 69) C L dX11_shelf_69 rfl ?_
  obtain ⟨q1, hq1, hyp⟩ := jbind hyp
  refine jr_callS_I (pc := 71) C S L (As := [jI x3, jI x4, jI s0]) (rest := []) (c_X11_mayBeHeld (m0 := m) h_x3 h_x4 h_s0 hq1) ms_X11_mayBeHeld ml_X11_90 (by decide) rfl rfl rfl (Nat.le_of_ble_eq_true rfl) ⟨Nat.le_refl 0, Nat.le_refl 0⟩ dX11_shelf_71 (fun p2 H locs S => ?_)
  refine jr_if_ne (pc := 74) C p2 (tgt := 80) dX11_shelf_74 (by decide) (fun c3 => ?_) (fun c3 => ?_)
  · have hyp := (if_pos c3).symm.trans hyp
    refine jr_bipush (pc := 77) C dX11_shelf_77 (by decide) ?_
    cases hyp
    exact jr_iret C S (show jIn (-5) from ⟨by decide, by decide⟩) dX11_shelf_79
  · have hyp := (if_neg c3).symm.trans hyp
    refine jr_aload_n (pc := 80) C L dX11_shelf_80 rfl rfl ?_
    obtain ⟨v4, hv4, hyp⟩ := jbind hyp
    refine jr_getR (pc := 81) C S lf_X11_10 rfl hv4 dX11_shelf_81 ?_
    refine jr_iload_n (pc := 84) C L dX11_shelf_84 rfl rfl ?_
    obtain ⟨u5, hu5, hyp⟩ := jbind hyp
    obtain ⟨q6, hq6, hyp⟩ := jbind hyp
    refine jr_callV_I (pc := 85) C S L (As := [jI x1]) (rest := []) (c_X1_setting (m0 := m) h_x1 hq6) mv_X1_setting ml_X11_86 rfl (jck_spec hu5) (by decide) rfl rfl rfl (Nat.le_of_ble_eq_true rfl) ⟨Nat.le_refl 0, Nat.le_refl 0⟩ dX11_shelf_85 (fun p7 H locs S => ?_)
    refine jr_istore (pc := 88) C L dX11_shelf_88 (Nat.le_of_ble_eq_true rfl) (fun ls L => ?_)
    have L : jL ls [some (jR B a0), some (jI x1), some (jI x2), some (jI x3), some (jI x4), some (jI s0), some (jI q6)] := L
    refine jr_aload_n (pc := 90) C L dX11_shelf_90 rfl rfl ?_
    obtain ⟨v8, hv8, hyp⟩ := jbind hyp
    refine jr_getR (pc := 91) C S lf_X11_10 rfl hv8 dX11_shelf_91 ?_
    refine jr_iload_n (pc := 94) C L dX11_shelf_94 rfl rfl ?_
    refine jr_iload_n (pc := 95) C L dX11_shelf_95 rfl rfl ?_
    obtain ⟨u9, hu9, hyp⟩ := jbind hyp
    obtain ⟨q10, hq10, hyp⟩ := jbind hyp
    refine jr_callV_N (pc := 96) C S L (As := [jI x1, jI x2]) (rest := []) (c_X1_set h_x1 h_x2 hq10) mv_X1_set ml_X11_94 rfl (jck_spec hu9) (by decide) rfl rfl rfl (Nat.le_of_ble_eq_true rfl) ⟨Nat.le_refl 0, Nat.le_refl 0⟩ dX11_shelf_96 (fun p11 H locs S => ?_)
    refine jr_iload (pc := 99) C L dX11_shelf_99 rfl ?_
    cases hyp
    exact jr_iret C S p7 dX11_shelf_101
set_option maxHeartbeats 4000000 in
set_option maxRecDepth 100000 in
theorem t_X11_shelf_b45 {p : Program} {l : Launch} {e : Env} {s : State} {mi : MethodId} {args : Array Value} {below : List Frame} {meth : Method} {c : Code} {D : va_G} {cy : Nat → ClassId} {B sz : Nat} {sh : jm_S} {res : (Int × jm_M)} {N : Nat} (C : jCx p s mi args meth c cX11_shelf 7 RX11 (some .int) D cy) {a0 : Nat} {x1 : Int} (h_x1 : jIn x1) {x2 : Int} (h_x2 : jIn x2) {x3 : Int} (h_x3 : jIn x3) {s0 : Int} (h_s0 : jIn s0) {m : jm_M} {H : Heap} {locs : List Loc} {ls : Array Slot} (S : jHs D cy B sz sh (jA B sz) s.heap H locs m) (L : jL ls [some (jR B a0), some (jI x1), some (jI x2), some (jI x3), none, none, none]) (hyp : f_X11_shelf_b45 N sh a0 x1 x2 x3 s0 m = some res) : W p l e (jrm 2 0 0) s mi args below meth c H locs 0 0 (MQ below (jQc D cy B sz sh res.2 (some (jI res.1)) (jIn res.1)) args s 0 0 (jA B sz)) (F0 mi 45 ls [jI s0]) := by
  unfold f_X11_shelf_b45 at hyp
  refine jr_istore (pc := 45) C L dX11_shelf_45 (Nat.le_of_ble_eq_true rfl) (fun ls L => ?_)
  have L : jL ls [some (jR B a0), some (jI x1), some (jI x2), some (jI x3), some (jI s0), none, none] := L
  refine jr_iload_n (pc := 47) C L dX11_shelf_47 rfl rfl ?_
  refine jr_iconst (pc := 48) C dX11_shelf_48 ?_
  refine jr_icmp_ne (pc := 49) C h_x1 (show jIn 3 from ⟨by decide, by decide⟩) (tgt := 56) dX11_shelf_49 (by decide) (fun c12 => ?_) (fun c12 => ?_)
  · have hyp := (if_pos c12).symm.trans hyp
    refine jr_iload_n (pc := 52) C L dX11_shelf_52 rfl rfl ?_
    refine jr_goto (pc := 53) C (tgt := 64) dX11_shelf_53 (by decide) ?_
    exact t_X11_shelf_b64 C   h_x1 h_x2 h_x3 h_s0 h_x2 S (L.sub (jsub_s (jsub_s (jsub_s (jsub_s (jsub_s (jsub_n (jsub_n jsub_0)))))))) hyp
  · have hyp := (if_neg c12).symm.trans hyp
    refine jr_aload_n (pc := 56) C L dX11_shelf_56 rfl rfl ?_
    obtain ⟨v13, hv13, hyp⟩ := jbind hyp
    refine jr_getR (pc := 57) C S lf_X11_10 rfl hv13 dX11_shelf_57 ?_
    refine jr_iconst (pc := 60) C dX11_shelf_60 ?_
    obtain ⟨u14, hu14, hyp⟩ := jbind hyp
    obtain ⟨q15, hq15, hyp⟩ := jbind hyp
    refine jr_callV_I (pc := 61) C S L (As := [jI 3]) (rest := []) (c_X1_setting (m0 := m) (show jIn 3 from ⟨by decide, by decide⟩) hq15) mv_X1_setting ml_X11_86 rfl (jck_spec hu14) (by decide) rfl rfl rfl (Nat.le_of_ble_eq_true rfl) ⟨Nat.le_refl 0, Nat.le_refl 0⟩ dX11_shelf_61 (fun p16 H locs S => ?_)
    exact t_X11_shelf_b64 C   h_x1 h_x2 h_x3 h_s0 p16 S (L.sub (jsub_s (jsub_s (jsub_s (jsub_s (jsub_s (jsub_n (jsub_n jsub_0)))))))) hyp
set_option maxHeartbeats 4000000 in
set_option maxRecDepth 100000 in
theorem t_X11_shelf_b27 {p : Program} {l : Launch} {e : Env} {s : State} {mi : MethodId} {args : Array Value} {below : List Frame} {meth : Method} {c : Code} {D : va_G} {cy : Nat → ClassId} {B sz : Nat} {sh : jm_S} {res : (Int × jm_M)} {N : Nat} (C : jCx p s mi args meth c cX11_shelf 7 RX11 (some .int) D cy) {a0 : Nat} {x1 : Int} (h_x1 : jIn x1) {x2 : Int} (h_x2 : jIn x2) {s0 : Int} (h_s0 : jIn s0) {m : jm_M} {H : Heap} {locs : List Loc} {ls : Array Slot} (S : jHs D cy B sz sh (jA B sz) s.heap H locs m) (L : jL ls [some (jR B a0), some (jI x1), some (jI x2), none, none, none, none]) (hyp : f_X11_shelf_b27 N sh a0 x1 x2 s0 m = some res) : W p l e (jrm 2 0 0) s mi args below meth c H locs 0 0 (MQ below (jQc D cy B sz sh res.2 (some (jI res.1)) (jIn res.1)) args s 0 0 (jA B sz)) (F0 mi 27 ls [jI s0]) := by
  unfold f_X11_shelf_b27 at hyp
  refine jr_istore_n (pc := 27) C L dX11_shelf_27 rfl (Nat.le_of_ble_eq_true rfl) (fun ls L => ?_)
  have L : jL ls [some (jR B a0), some (jI x1), some (jI x2), some (jI s0), none, none, none] := L
  refine jr_iload_n (pc := 28) C L dX11_shelf_28 rfl rfl ?_
  refine jr_iconst (pc := 29) C dX11_shelf_29 ?_
  refine jr_icmp_ne (pc := 30) C h_x1 (show jIn 1 from ⟨by decide, by decide⟩) (tgt := 37) dX11_shelf_30 (by decide) (fun c17 => ?_) (fun c17 => ?_)
  · have hyp := (if_pos c17).symm.trans hyp
    refine jr_iload_n (pc := 33) C L dX11_shelf_33 rfl rfl ?_
    refine jr_goto (pc := 34) C (tgt := 45) dX11_shelf_34 (by decide) ?_
    exact t_X11_shelf_b45 C   h_x1 h_x2 h_s0 h_x2 S (L.sub (jsub_s (jsub_s (jsub_s (jsub_s (jsub_n (jsub_n (jsub_n jsub_0)))))))) hyp
  · have hyp := (if_neg c17).symm.trans hyp
    refine jr_aload_n (pc := 37) C L dX11_shelf_37 rfl rfl ?_
    obtain ⟨v18, hv18, hyp⟩ := jbind hyp
    refine jr_getR (pc := 38) C S lf_X11_10 rfl hv18 dX11_shelf_38 ?_
    refine jr_iconst (pc := 41) C dX11_shelf_41 ?_
    obtain ⟨u19, hu19, hyp⟩ := jbind hyp
    obtain ⟨q20, hq20, hyp⟩ := jbind hyp
    refine jr_callV_I (pc := 42) C S L (As := [jI 1]) (rest := []) (c_X1_setting (m0 := m) (show jIn 1 from ⟨by decide, by decide⟩) hq20) mv_X1_setting ml_X11_86 rfl (jck_spec hu19) (by decide) rfl rfl rfl (Nat.le_of_ble_eq_true rfl) ⟨Nat.le_refl 0, Nat.le_refl 0⟩ dX11_shelf_42 (fun p21 H locs S => ?_)
    exact t_X11_shelf_b45 C   h_x1 h_x2 h_s0 p21 S (L.sub (jsub_s (jsub_s (jsub_s (jsub_s (jsub_n (jsub_n (jsub_n jsub_0)))))))) hyp
set_option maxHeartbeats 4000000 in
set_option maxRecDepth 100000 in
theorem t_X11_shelf_e {p : Program} {l : Launch} {e : Env} {s : State} {mi : MethodId} {args : Array Value} {below : List Frame} {meth : Method} {c : Code} {D : va_G} {cy : Nat → ClassId} {B sz : Nat} {sh : jm_S} {res : (Int × jm_M)} {N : Nat} (C : jCx p s mi args meth c cX11_shelf 7 RX11 (some .int) D cy) {a0 : Nat} {x1 : Int} (h_x1 : jIn x1) {x2 : Int} (h_x2 : jIn x2) {m : jm_M} {H : Heap} {locs : List Loc} {ls : Array Slot} (S : jHs D cy B sz sh (jA B sz) s.heap H locs m) (L : jL ls [some (jR B a0), some (jI x1), some (jI x2), none, none, none, none]) (hyp : f_X11_shelf N sh a0 x1 x2 m = some res) : W p l e (jrm 2 0 0) s mi args below meth c H locs 0 0 (MQ below (jQc D cy B sz sh res.2 (some (jI res.1)) (jIn res.1)) args s 0 0 (jA B sz)) (F0 mi 0 ls []) := by
  unfold f_X11_shelf at hyp
  refine jr_iload_n (pc := 0) C L dX11_shelf_0 rfl rfl ?_
  refine jr_iload_n (pc := 1) C L dX11_shelf_1 rfl rfl ?_
  obtain ⟨q22, hq22, hyp⟩ := jbind hyp
  refine jr_callS_I (pc := 2) C S L (As := [jI x1, jI x2]) (rest := []) (c_X1_maySet (m0 := m) h_x1 h_x2 hq22) ms_X1_maySet ml_X11_82 (by decide) rfl rfl rfl (Nat.le_of_ble_eq_true rfl) ⟨Nat.le_refl 0, Nat.le_refl 0⟩ dX11_shelf_2 (fun p23 H locs S => ?_)
  refine jr_if_ne (pc := 5) C p23 (tgt := 11) dX11_shelf_5 (by decide) (fun c24 => ?_) (fun c24 => ?_)
  · have hyp := (if_pos c24).symm.trans hyp
    refine jr_bipush (pc := 8) C dX11_shelf_8 (by decide) ?_
    cases hyp
    exact jr_iret C S (show jIn (-2) from ⟨by decide, by decide⟩) dX11_shelf_10
  · have hyp := (if_neg c24).symm.trans hyp
    refine jr_iload_n (pc := 11) C L dX11_shelf_11 rfl rfl ?_
    refine jr_if_ne (pc := 12) C h_x1 (tgt := 19) dX11_shelf_12 (by decide) (fun c25 => ?_) (fun c25 => ?_)
    · have hyp := (if_pos c25).symm.trans hyp
      refine jr_iload_n (pc := 15) C L dX11_shelf_15 rfl rfl ?_
      refine jr_goto (pc := 16) C (tgt := 27) dX11_shelf_16 (by decide) ?_
      exact t_X11_shelf_b27 C   h_x1 h_x2 h_x2 S (L.sub (jsub_s (jsub_s (jsub_s (jsub_n (jsub_n (jsub_n (jsub_n jsub_0)))))))) hyp
    · have hyp := (if_neg c25).symm.trans hyp
      refine jr_aload_n (pc := 19) C L dX11_shelf_19 rfl rfl ?_
      obtain ⟨v26, hv26, hyp⟩ := jbind hyp
      refine jr_getR (pc := 20) C S lf_X11_10 rfl hv26 dX11_shelf_20 ?_
      refine jr_iconst (pc := 23) C dX11_shelf_23 ?_
      obtain ⟨u27, hu27, hyp⟩ := jbind hyp
      obtain ⟨q28, hq28, hyp⟩ := jbind hyp
      refine jr_callV_I (pc := 24) C S L (As := [jI 0]) (rest := []) (c_X1_setting (m0 := m) (show jIn 0 from ⟨by decide, by decide⟩) hq28) mv_X1_setting ml_X11_86 rfl (jck_spec hu27) (by decide) rfl rfl rfl (Nat.le_of_ble_eq_true rfl) ⟨Nat.le_refl 0, Nat.le_refl 0⟩ dX11_shelf_24 (fun p29 H locs S => ?_)
      exact t_X11_shelf_b27 C   h_x1 h_x2 p29 S (L.sub (jsub_s (jsub_s (jsub_s (jsub_n (jsub_n (jsub_n (jsub_n jsub_0)))))))) hyp
theorem c_X11_shelf {l : Launch} {D : va_G} {cy : Nat → ClassId} {B sz : Nat} {sh : jm_S} {res : (Int × jm_M)} {N : Nat} {m : jm_M} {a0 : Nat} {x1 : Int} (h_x1 : jIn x1) {x2 : Int} (h_x2 : jIn x2) (hyp : f_X11_shelf N sh a0 x1 x2 m = some res) : jCt l D cy B sz sh 2 yX11_shelf cX11_shelf 7 (some .int) [jR B a0, jI x1, jI x2] m (some (jI res.1)) res.2 (jIn res.1) :=
  jc_of (by decide) (fun v h => by simp only [List.mem_cons, List.not_mem_nil, or_false] at h; rcases h with rfl | rfl | rfl <;> first | rfl | exact jR_cat _ _) (Nat.le_of_ble_eq_true rfl) (fun C S L => t_X11_shelf_e C  h_x1 h_x2 S L hyp)
set_option maxHeartbeats 4000000 in
set_option maxRecDepth 100000 in
theorem t_X11_say_e {p : Program} {l : Launch} {e : Env} {s : State} {mi : MethodId} {args : Array Value} {below : List Frame} {meth : Method} {c : Code} {D : va_G} {cy : Nat → ClassId} {B sz : Nat} {sh : jm_S} {res : (Int × jm_M)} (C : jCx p s mi args meth c cX11_say 2 RX11 (some .int) D cy) {a0 : Nat} {x1 : Int} (h_x1 : jIn x1) {m : jm_M} {H : Heap} {locs : List Loc} {ls : Array Slot} (S : jHs D cy B sz sh (jA B sz) s.heap H locs m) (L : jL ls [some (jR B a0), some (jI x1)]) (hyp : f_X11_say sh a0 x1 m = some res) : W p l e (jrm 1 0 0) s mi args below meth c H locs 0 0 (MQ below (jQc D cy B sz sh res.2 (some (jI res.1)) (jIn res.1)) args s 0 0 (jA B sz)) (F0 mi 0 ls []) := by
  unfold f_X11_say at hyp
  refine jr_iload_n (pc := 0) C L dX11_say_0 rfl rfl ?_
  refine jr_bipush (pc := 1) C dX11_say_1 (by decide) ?_
  refine jr_icmp_lt (pc := 3) C h_x1 (show jIn 33 from ⟨by decide, by decide⟩) (tgt := 12) dX11_say_3 (by decide) (fun c1 => ?_) (fun c1 => ?_)
  · have hyp := (if_pos c1).symm.trans hyp
    refine jr_bipush (pc := 12) C dX11_say_12 (by decide) ?_
    cases hyp
    exact jr_iret C S (show jIn (-2) from ⟨by decide, by decide⟩) dX11_say_14
  · have hyp := (if_neg c1).symm.trans hyp
    refine jr_iload_n (pc := 6) C L dX11_say_6 rfl rfl ?_
    refine jr_bipush (pc := 7) C dX11_say_7 (by decide) ?_
    refine jr_icmp_le (pc := 9) C h_x1 (show jIn 126 from ⟨by decide, by decide⟩) (tgt := 15) dX11_say_9 (by decide) (fun c2 => ?_) (fun c2 => ?_)
    · have hyp := (if_pos c2).symm.trans hyp
      refine jr_bipush (pc := 12) C dX11_say_12 (by decide) ?_
      cases hyp
      exact jr_iret C S (show jIn (-2) from ⟨by decide, by decide⟩) dX11_say_14
    · have hyp := (if_neg c2).symm.trans hyp
      refine jr_aload_n (pc := 15) C L dX11_say_15 rfl rfl ?_
      obtain ⟨v3, hv3, hyp⟩ := jbind hyp
      refine jr_getR (pc := 16) C S lf_X11_25 rfl hv3 dX11_say_16 ?_
      refine jr_iload_n (pc := 19) C L dX11_say_19 rfl rfl ?_
      obtain ⟨u4, hu4, hyp⟩ := jbind hyp
      obtain ⟨q5, hq5, hyp⟩ := jbind hyp
      refine jr_callV_I (pc := 20) C S L (As := [jI x1]) (rest := []) (c_X3_add h_x1 hq5) mv_X3_add ml_X11_98 rfl (jck_spec hu4) (by decide) rfl rfl rfl (Nat.le_of_ble_eq_true rfl) ⟨Nat.le_refl 0, Nat.le_refl 0⟩ dX11_say_20 (fun p6 H locs S => ?_)
      refine jr_if_eq (pc := 23) C p6 (tgt := 36) dX11_say_23 (by decide) (fun c7 => ?_) (fun c7 => ?_)
      · have hyp := (if_pos c7).symm.trans hyp
        refine jr_bipush (pc := 36) C dX11_say_36 (by decide) ?_
        cases hyp
        exact jr_iret C S (show jIn (-4) from ⟨by decide, by decide⟩) dX11_say_38
      · have hyp := (if_neg c7).symm.trans hyp
        refine jr_aload_n (pc := 26) C L dX11_say_26 rfl rfl ?_
        obtain ⟨v8, hv8, hyp⟩ := jbind hyp
        refine jr_getR (pc := 27) C S lf_X11_25 rfl hv8 dX11_say_27 ?_
        obtain ⟨v9, hv9, hyp⟩ := jbind hyp
        have iv9 := jrf_in S hv9
        refine jr_getI (pc := 30) C S lf_X11_102 rfl hv9 dX11_say_30 ?_
        refine jr_goto (pc := 33) C (tgt := 38) dX11_say_33 (by decide) ?_
        cases hyp
        exact jr_iret C S iv9 dX11_say_38
theorem c_X11_say {l : Launch} {D : va_G} {cy : Nat → ClassId} {B sz : Nat} {sh : jm_S} {res : (Int × jm_M)} {m : jm_M} {a0 : Nat} {x1 : Int} (h_x1 : jIn x1) (hyp : f_X11_say sh a0 x1 m = some res) : jCt l D cy B sz sh 1 yX11_say cX11_say 2 (some .int) [jR B a0, jI x1] m (some (jI res.1)) res.2 (jIn res.1) :=
  jc_of (by decide) (fun v h => by simp only [List.mem_cons, List.not_mem_nil, or_false] at h; rcases h with rfl | rfl <;> first | rfl | exact jR_cat _ _) (Nat.le_of_ble_eq_true rfl) (fun C S L => t_X11_say_e C  h_x1 S L hyp)
set_option maxHeartbeats 4000000 in
set_option maxRecDepth 100000 in
theorem t_X11_wipe_e {p : Program} {l : Launch} {e : Env} {s : State} {mi : MethodId} {args : Array Value} {below : List Frame} {meth : Method} {c : Code} {D : va_G} {cy : Nat → ClassId} {B sz : Nat} {sh : jm_S} {res : (Int × jm_M)} (C : jCx p s mi args meth c cX11_wipe 2 RX11 (some .int) D cy) {a0 : Nat} {m : jm_M} {H : Heap} {locs : List Loc} {ls : Array Slot} (S : jHs D cy B sz sh (jA B sz) s.heap H locs m) (L : jL ls [some (jR B a0), none]) (hyp : f_X11_wipe sh a0 m = some res) : W p l e (jrm 0 0 0) s mi args below meth c H locs 0 0 (MQ below (jQc D cy B sz sh res.2 (some (jI res.1)) (jIn res.1)) args s 0 0 (jA B sz)) (F0 mi 0 ls []) := by
  unfold f_X11_wipe at hyp
  refine jr_aload_n (pc := 0) C L dX11_wipe_0 rfl rfl ?_
  obtain ⟨v1, hv1, hyp⟩ := jbind hyp
  refine jr_getR (pc := 1) C S lf_X11_25 rfl hv1 dX11_wipe_1 ?_
  obtain ⟨v2, hv2, hyp⟩ := jbind hyp
  have iv2 := jrf_in S hv2
  refine jr_getI (pc := 4) C S lf_X11_102 rfl hv2 dX11_wipe_4 ?_
  refine jr_istore_n (pc := 7) C L dX11_wipe_7 rfl (Nat.le_of_ble_eq_true rfl) (fun ls L => ?_)
  have L : jL ls [some (jR B a0), some (jI v2)] := L
  refine jr_aload_n (pc := 8) C L dX11_wipe_8 rfl rfl ?_
  obtain ⟨v3, hv3, hyp⟩ := jbind hyp
  refine jr_getR (pc := 9) C S lf_X11_25 rfl hv3 dX11_wipe_9 ?_
  refine jr_iconst (pc := 12) C dX11_wipe_12 ?_
  obtain ⟨m4, hm4, hyp⟩ := jbind hyp
  refine jr_putI (pc := 13) C S lf_X11_102 fp_X3_1 rfl (show jIn 0 from ⟨by decide, by decide⟩) hm4 dX11_wipe_13 (fun H locs S => ?_)
  refine jr_iload_n (pc := 16) C L dX11_wipe_16 rfl rfl ?_
  cases hyp
  exact jr_iret C S iv2 dX11_wipe_17
theorem c_X11_wipe {l : Launch} {D : va_G} {cy : Nat → ClassId} {B sz : Nat} {sh : jm_S} {res : (Int × jm_M)} {m : jm_M} {a0 : Nat} (hyp : f_X11_wipe sh a0 m = some res) : jCt l D cy B sz sh 0 yX11_wipe cX11_wipe 2 (some .int) [jR B a0] m (some (jI res.1)) res.2 (jIn res.1) :=
  jc_of (by decide) (fun v h => by rw [List.mem_singleton.mp h]; first | rfl | exact jR_cat _ _) (Nat.le_of_ble_eq_true rfl) (fun C S L => t_X11_wipe_e C   S L hyp)
set_option maxHeartbeats 4000000 in
set_option maxRecDepth 100000 in
theorem t_X11_fault_e {p : Program} {l : Launch} {e : Env} {s : State} {mi : MethodId} {args : Array Value} {below : List Frame} {meth : Method} {c : Code} {D : va_G} {cy : Nat → ClassId} {B sz : Nat} {sh : jm_S} {res : (Int × jm_M)} {N : Nat} (C : jCx p s mi args meth c cX11_fault 1 RX11 (some .int) D cy) {a0 : Nat} {m : jm_M} {H : Heap} {locs : List Loc} {ls : Array Slot} (S : jHs D cy B sz sh (jA B sz) s.heap H locs m) (L : jL ls [some (jR B a0)]) (hyp : f_X11_fault N sh a0 m = some res) : W p l e (jrm 3 0 0) s mi args below meth c H locs 0 0 (MQ below (jQc D cy B sz sh res.2 (some (jI res.1)) (jIn res.1)) args s 0 0 (jA B sz)) (F0 mi 0 ls []) := by
  unfold f_X11_fault at hyp
  refine jr_aload_n (pc := 0) C L dX11_fault_0 rfl rfl ?_
  obtain ⟨v1, hv1, hyp⟩ := jbind hyp
  refine jr_getR (pc := 1) C S lf_X11_25 rfl hv1 dX11_fault_1 ?_
  obtain ⟨u2, hu2, hyp⟩ := jbind hyp
  obtain ⟨q3, hq3, hyp⟩ := jbind hyp
  refine jr_callV_I (pc := 4) C S L (As := []) (rest := []) (c_X3_firstFault  hq3) mv_X3_firstFault ml_X11_106 rfl (jck_spec hu2) (by decide) rfl rfl rfl (Nat.le_of_ble_eq_true rfl) ⟨Nat.le_refl 0, Nat.le_refl 0⟩ dX11_fault_4 (fun p4 H locs S => ?_)
  cases hyp
  exact jr_iret C S p4 dX11_fault_7
theorem c_X11_fault {l : Launch} {D : va_G} {cy : Nat → ClassId} {B sz : Nat} {sh : jm_S} {res : (Int × jm_M)} {N : Nat} {m : jm_M} {a0 : Nat} (hyp : f_X11_fault N sh a0 m = some res) : jCt l D cy B sz sh 3 yX11_fault cX11_fault 1 (some .int) [jR B a0] m (some (jI res.1)) res.2 (jIn res.1) :=
  jc_of (by decide) (fun v h => by rw [List.mem_singleton.mp h]; first | rfl | exact jR_cat _ _) (Nat.le_of_ble_eq_true rfl) (fun C S L => t_X11_fault_e C   S L hyp)
set_option maxHeartbeats 4000000 in
set_option maxRecDepth 100000 in
theorem t_X11_isProgram_e {p : Program} {l : Launch} {e : Env} {s : State} {mi : MethodId} {args : Array Value} {below : List Frame} {meth : Method} {c : Code} {D : va_G} {cy : Nat → ClassId} {B sz : Nat} {sh : jm_S} {res : Int} {m0 : jm_M} (C : jCx p s mi args meth c cX11_isProgram 1 RX11 (some .boolean) D cy) {x0 : Int} (h_x0 : jIn x0) {H : Heap} {locs : List Loc} {ls : Array Slot} (S : jHs D cy B sz sh (jA B sz) s.heap H locs m0) (L : jL ls [some (jI x0)]) (hyp : f_X11_isProgram x0 = some res) : W p l e (jrm 0 0 0) s mi args below meth c H locs 0 0 (MQ below (jQc D cy B sz sh m0 (some (jI res)) (jIn res)) args s 0 0 (jA B sz)) (F0 mi 0 ls []) := by
  unfold f_X11_isProgram at hyp
  refine jr_iload_n (pc := 0) C L dX11_isProgram_0 rfl rfl ?_
  refine jr_if_lt (pc := 1) C h_x0 (tgt := 13) dX11_isProgram_1 (by decide) (fun c1 => ?_) (fun c1 => ?_)
  · have hyp := (if_pos c1).symm.trans hyp
    refine jr_iconst (pc := 13) C dX11_isProgram_13 ?_
    cases hyp
    exact jr_zret C S (show jIn 0 from ⟨by decide, by decide⟩) rfl dX11_isProgram_14
  · have hyp := (if_neg c1).symm.trans hyp
    refine jr_iload_n (pc := 4) C L dX11_isProgram_4 rfl rfl ?_
    refine jr_iconst (pc := 5) C dX11_isProgram_5 ?_
    refine jr_icmp_ge (pc := 6) C h_x0 (show jIn 4 from ⟨by decide, by decide⟩) (tgt := 13) dX11_isProgram_6 (by decide) (fun c2 => ?_) (fun c2 => ?_)
    · have hyp := (if_pos c2).symm.trans hyp
      refine jr_iconst (pc := 9) C dX11_isProgram_9 ?_
      refine jr_goto (pc := 10) C (tgt := 14) dX11_isProgram_10 (by decide) ?_
      cases hyp
      exact jr_zret C S (show jIn 1 from ⟨by decide, by decide⟩) rfl dX11_isProgram_14
    · have hyp := (if_neg c2).symm.trans hyp
      refine jr_iconst (pc := 13) C dX11_isProgram_13 ?_
      cases hyp
      exact jr_zret C S (show jIn 0 from ⟨by decide, by decide⟩) rfl dX11_isProgram_14
theorem c_X11_isProgram {l : Launch} {D : va_G} {cy : Nat → ClassId} {B sz : Nat} {sh : jm_S} {res : Int} {m0 : jm_M} {x0 : Int} (h_x0 : jIn x0) (hyp : f_X11_isProgram x0 = some res) : jCt l D cy B sz sh 0 yX11_isProgram cX11_isProgram 1 (some .boolean) [jI x0] m0 (some (jI res)) m0 (jIn res) :=
  jc_of (by decide) (fun v h => by rw [List.mem_singleton.mp h]; first | rfl | exact jR_cat _ _) (Nat.le_of_ble_eq_true rfl) (fun C S L => t_X11_isProgram_e C  h_x0 S L hyp)
set_option maxHeartbeats 4000000 in
set_option maxRecDepth 100000 in
theorem t_X11_program_e {p : Program} {l : Launch} {e : Env} {s : State} {mi : MethodId} {args : Array Value} {below : List Frame} {meth : Method} {c : Code} {D : va_G} {cy : Nat → ClassId} {B sz : Nat} {sh : jm_S} {res : (Int × jm_M)} {N : Nat} (C : jCx p s mi args meth c cX11_program 3 RX11 (some .int) D cy) {a0 : Nat} {x1 : Int} (h_x1 : jIn x1) {m : jm_M} {H : Heap} {locs : List Loc} {ls : Array Slot} (S : jHs D cy B sz sh (jA B sz) s.heap H locs m) (L : jL ls [some (jR B a0), some (jI x1), none]) (hyp : f_X11_program N sh a0 x1 m = some res) : W p l e (jrm 3 0 0) s mi args below meth c H locs 0 0 (MQ below (jQc D cy B sz sh res.2 (some (jI res.1)) (jIn res.1)) args s 0 0 (jA B sz)) (F0 mi 0 ls []) := by
  unfold f_X11_program at hyp
  refine jr_iload_n (pc := 0) C L dX11_program_0 rfl rfl ?_
  obtain ⟨q1, hq1, hyp⟩ := jbind hyp
  refine jr_callS_I (pc := 1) C S L (As := [jI x1]) (rest := []) (c_X11_isProgram (m0 := m) h_x1 hq1) ms_X11_isProgram ml_X11_110 (by decide) rfl rfl rfl (Nat.le_of_ble_eq_true rfl) ⟨Nat.le_refl 0, Nat.le_refl 0⟩ dX11_program_1 (fun p2 H locs S => ?_)
  refine jr_if_ne (pc := 4) C p2 (tgt := 9) dX11_program_4 (by decide) (fun c3 => ?_) (fun c3 => ?_)
  · have hyp := (if_pos c3).symm.trans hyp
    refine jr_iconst (pc := 7) C dX11_program_7 ?_
    cases hyp
    exact jr_iret C S (show jIn (-1) from ⟨by decide, by decide⟩) dX11_program_8
  · have hyp := (if_neg c3).symm.trans hyp
    refine jr_aload_n (pc := 9) C L dX11_program_9 rfl rfl ?_
    obtain ⟨v4, hv4, hyp⟩ := jbind hyp
    refine jr_getR (pc := 10) C S lf_X11_25 rfl hv4 dX11_program_10 ?_
    obtain ⟨u5, hu5, hyp⟩ := jbind hyp
    obtain ⟨q6, hq6, hyp⟩ := jbind hyp
    refine jr_callV_I (pc := 13) C S L (As := []) (rest := []) (c_X3_firstFault  hq6) mv_X3_firstFault ml_X11_106 rfl (jck_spec hu5) (by decide) rfl rfl rfl (Nat.le_of_ble_eq_true rfl) ⟨Nat.le_refl 0, Nat.le_refl 0⟩ dX11_program_13 (fun p7 H locs S => ?_)
    refine jr_bipush (pc := 16) C dX11_program_16 (by decide) ?_
    refine jr_icmp_eq (pc := 18) C p7 (show jIn (-6) from ⟨by decide, by decide⟩) (tgt := 24) dX11_program_18 (by decide) (fun c8 => ?_) (fun c8 => ?_)
    · have hyp := (if_pos c8).symm.trans hyp
      refine jr_aload_n (pc := 24) C L dX11_program_24 rfl rfl ?_
      obtain ⟨v9, hv9, hyp⟩ := jbind hyp
      refine jr_getR (pc := 25) C S lf_X11_10 rfl hv9 dX11_program_25 ?_
      refine jr_iload_n (pc := 28) C L dX11_program_28 rfl rfl ?_
      obtain ⟨u10, hu10, hyp⟩ := jbind hyp
      obtain ⟨q11, hq11, hyp⟩ := jbind hyp
      refine jr_callV_R (pc := 29) C S L (As := [jI x1]) (rest := []) (c_X1_textOf (m0 := q6.2) h_x1 hq11) mv_X1_textOf ml_X11_113 rfl (jck_spec hu10) (by decide) rfl rfl rfl (Nat.le_of_ble_eq_true rfl) ⟨Nat.le_refl 0, Nat.le_refl 0⟩ dX11_program_29 (fun p12 H locs S => ?_)
      refine jr_astore_n (pc := 32) C L dX11_program_32 rfl (Nat.le_of_ble_eq_true rfl) (fun ls L => ?_)
      have L : jL ls [some (jR B a0), some (jI x1), some (jR B q11)] := L
      refine jr_aload_n (pc := 33) C L dX11_program_33 rfl rfl ?_
      refine jr_aload_n (pc := 34) C L dX11_program_34 rfl rfl ?_
      obtain ⟨v13, hv13, hyp⟩ := jbind hyp
      refine jr_getR (pc := 35) C S lf_X11_25 rfl hv13 dX11_program_35 ?_
      obtain ⟨v14, hv14, hyp⟩ := jbind hyp
      refine jr_getR (pc := 38) C S lf_X11_117 rfl hv14 dX11_program_38 ?_
      refine jr_aload_n (pc := 41) C L dX11_program_41 rfl rfl ?_
      obtain ⟨v15, hv15, hyp⟩ := jbind hyp
      refine jr_getR (pc := 42) C S lf_X11_25 rfl hv15 dX11_program_42 ?_
      obtain ⟨v16, hv16, hyp⟩ := jbind hyp
      have iv16 := jrf_in S hv16
      refine jr_getI (pc := 45) C S lf_X11_102 rfl hv16 dX11_program_45 ?_
      obtain ⟨u17, hu17, hyp⟩ := jbind hyp
      obtain ⟨q18, hq18, hyp⟩ := jbind hyp
      refine jr_callV_N (pc := 48) C S L (As := [jR B v14.toNat, jI v16]) (rest := []) (c_X10_take iv16 hq18) mv_X10_take ml_X11_121 rfl (jck_spec hu17) (by decide) rfl rfl rfl (Nat.le_of_ble_eq_true rfl) ⟨Nat.le_refl 0, Nat.le_refl 0⟩ dX11_program_48 (fun p19 H locs S => ?_)
      refine jr_aload_n (pc := 51) C L dX11_program_51 rfl rfl ?_
      obtain ⟨v20, hv20, hyp⟩ := jbind hyp
      refine jr_getR (pc := 52) C S lf_X11_25 rfl hv20 dX11_program_52 ?_
      refine jr_iconst (pc := 55) C dX11_program_55 ?_
      obtain ⟨m21, hm21, hyp⟩ := jbind hyp
      refine jr_putI (pc := 56) C S lf_X11_102 fp_X3_1 rfl (show jIn 0 from ⟨by decide, by decide⟩) hm21 dX11_program_56 (fun H locs S => ?_)
      refine jr_aload_n (pc := 59) C L dX11_program_59 rfl rfl ?_
      obtain ⟨v22, hv22, hyp⟩ := jbind hyp
      have iv22 := jrf_in S hv22
      refine jr_getI (pc := 60) C S lf_X11_127 rfl hv22 dX11_program_60 ?_
      cases hyp
      exact jr_iret C S iv22 dX11_program_63
    · have hyp := (if_neg c8).symm.trans hyp
      refine jr_bipush (pc := 21) C dX11_program_21 (by decide) ?_
      cases hyp
      exact jr_iret C S (show jIn (-5) from ⟨by decide, by decide⟩) dX11_program_23
theorem c_X11_program {l : Launch} {D : va_G} {cy : Nat → ClassId} {B sz : Nat} {sh : jm_S} {res : (Int × jm_M)} {N : Nat} {m : jm_M} {a0 : Nat} {x1 : Int} (h_x1 : jIn x1) (hyp : f_X11_program N sh a0 x1 m = some res) : jCt l D cy B sz sh 3 yX11_program cX11_program 3 (some .int) [jR B a0, jI x1] m (some (jI res.1)) res.2 (jIn res.1) :=
  jc_of (by decide) (fun v h => by simp only [List.mem_cons, List.not_mem_nil, or_false] at h; rcases h with rfl | rfl <;> first | rfl | exact jR_cat _ _) (Nat.le_of_ble_eq_true rfl) (fun C S L => t_X11_program_e C  h_x1 S L hyp)
set_option maxHeartbeats 4000000 in
set_option maxRecDepth 100000 in
theorem t_X11_node_e {p : Program} {l : Launch} {e : Env} {s : State} {mi : MethodId} {args : Array Value} {below : List Frame} {meth : Method} {c : Code} {D : va_G} {cy : Nat → ClassId} {B sz : Nat} {sh : jm_S} {res : Int} {m0 : jm_M} (C : jCx p s mi args meth c cX11_node 4 RX11 (some .int) D cy) {a0 : Nat} {x1 : Int} (h_x1 : jIn x1) {x2 : Int} (h_x2 : jIn x2) {x3 : Int} (h_x3 : jIn x3) {H : Heap} {locs : List Loc} {ls : Array Slot} (S : jHs D cy B sz sh (jA B sz) s.heap H locs m0) (L : jL ls [some (jR B a0), some (jI x1), some (jI x2), some (jI x3)]) (hyp : f_X11_node sh a0 x1 x2 x3 m0 = some res) : W p l e (jrm 1 0 0) s mi args below meth c H locs 0 0 (MQ below (jQc D cy B sz sh m0 (some (jI res)) (jIn res)) args s 0 0 (jA B sz)) (F0 mi 0 ls []) := by
  unfold f_X11_node at hyp
  refine jr_iload_n (pc := 0) C L dX11_node_0 rfl rfl ?_
  obtain ⟨q1, hq1, hyp⟩ := jbind hyp
  refine jr_callS_I (pc := 1) C S L (As := [jI x1]) (rest := []) (c_X11_isProgram (m0 := m0) h_x1 hq1) ms_X11_isProgram ml_X11_110 (by decide) rfl rfl rfl (Nat.le_of_ble_eq_true rfl) ⟨Nat.le_refl 0, Nat.le_refl 0⟩ dX11_node_1 (fun p2 H locs S => ?_)
  refine jr_if_eq (pc := 4) C p2 (tgt := 22) dX11_node_4 (by decide) (fun c3 => ?_) (fun c3 => ?_)
  · have hyp := (if_pos c3).symm.trans hyp
    refine jr_iconst (pc := 22) C dX11_node_22 ?_
    cases hyp
    exact jr_iret C S (show jIn (-1) from ⟨by decide, by decide⟩) dX11_node_23
  · have hyp := (if_neg c3).symm.trans hyp
    refine jr_aload_n (pc := 7) C L dX11_node_7 rfl rfl ?_
    obtain ⟨v4, hv4, hyp⟩ := jbind hyp
    refine jr_getR (pc := 8) C S lf_X11_10 rfl hv4 dX11_node_8 ?_
    refine jr_iload_n (pc := 11) C L dX11_node_11 rfl rfl ?_
    obtain ⟨u5, hu5, hyp⟩ := jbind hyp
    obtain ⟨q6, hq6, hyp⟩ := jbind hyp
    refine jr_callV_R (pc := 12) C S L (As := [jI x1]) (rest := []) (c_X1_textOf (m0 := m0) h_x1 hq6) mv_X1_textOf ml_X11_113 rfl (jck_spec hu5) (by decide) rfl rfl rfl (Nat.le_of_ble_eq_true rfl) ⟨Nat.le_refl 0, Nat.le_refl 0⟩ dX11_node_12 (fun p7 H locs S => ?_)
    refine jr_iload_n (pc := 15) C L dX11_node_15 rfl rfl ?_
    obtain ⟨u8, hu8, hyp⟩ := jbind hyp
    obtain ⟨q9, hq9, hyp⟩ := jbind hyp
    refine jr_callV_I (pc := 16) C S L (As := [jI x2]) (rest := []) (c_X10_has (m0 := m0) h_x2 hq9) mv_X10_has ml_X11_128 rfl (jck_spec hu8) (by decide) rfl rfl rfl (Nat.le_of_ble_eq_true rfl) ⟨Nat.le_refl 0, Nat.le_refl 0⟩ dX11_node_16 (fun p10 H locs S => ?_)
    refine jr_if_ne (pc := 19) C p10 (tgt := 24) dX11_node_19 (by decide) (fun c11 => ?_) (fun c11 => ?_)
    · have hyp := (if_pos c11).symm.trans hyp
      refine jr_iconst (pc := 22) C dX11_node_22 ?_
      cases hyp
      exact jr_iret C S (show jIn (-1) from ⟨by decide, by decide⟩) dX11_node_23
    · have hyp := (if_neg c11).symm.trans hyp
      refine jr_iload_n (pc := 24) C L dX11_node_24 rfl rfl ?_
      by_cases c12 : (0 : Int) = x3
      · have hyp := (if_pos c12).symm.trans hyp
        refine jr_lookup (pc := 25) C h_x3 (off := 27) (tgt := 52) dX11_node_25 rfl (if_pos c12) (by decide) ?_
        refine jr_aload_n (pc := 52) C L dX11_node_52 rfl rfl ?_
        obtain ⟨v13, hv13, hyp⟩ := jbind hyp
        refine jr_getR (pc := 53) C S lf_X11_10 rfl hv13 dX11_node_53 ?_
        refine jr_iload_n (pc := 56) C L dX11_node_56 rfl rfl ?_
        obtain ⟨u14, hu14, hyp⟩ := jbind hyp
        obtain ⟨q15, hq15, hyp⟩ := jbind hyp
        refine jr_callV_R (pc := 57) C S L (As := [jI x1]) (rest := []) (c_X1_textOf (m0 := m0) h_x1 hq15) mv_X1_textOf ml_X11_113 rfl (jck_spec hu14) (by decide) rfl rfl rfl (Nat.le_of_ble_eq_true rfl) ⟨Nat.le_refl 0, Nat.le_refl 0⟩ dX11_node_57 (fun p16 H locs S => ?_)
        refine jr_iload_n (pc := 60) C L dX11_node_60 rfl rfl ?_
        obtain ⟨u17, hu17, hyp⟩ := jbind hyp
        obtain ⟨q18, hq18, hyp⟩ := jbind hyp
        refine jr_callV_I (pc := 61) C S L (As := [jI x2]) (rest := []) (c_X10_signAt (m0 := m0) h_x2 hq18) mv_X10_signAt ml_X11_131 rfl (jck_spec hu17) (by decide) rfl rfl rfl (Nat.le_of_ble_eq_true rfl) ⟨Nat.le_refl 0, Nat.le_refl 0⟩ dX11_node_61 (fun p19 H locs S => ?_)
        cases hyp
        exact jr_iret C S p19 dX11_node_64
      have hyp := (if_neg c12).symm.trans hyp
      by_cases c20 : (1 : Int) = x3
      · have hyp := (if_pos c20).symm.trans hyp
        refine jr_lookup (pc := 25) C h_x3 (off := 40) (tgt := 65) dX11_node_25 rfl ((if_neg c12).trans (if_pos c20)) (by decide) ?_
        refine jr_aload_n (pc := 65) C L dX11_node_65 rfl rfl ?_
        obtain ⟨v21, hv21, hyp⟩ := jbind hyp
        refine jr_getR (pc := 66) C S lf_X11_10 rfl hv21 dX11_node_66 ?_
        refine jr_iload_n (pc := 69) C L dX11_node_69 rfl rfl ?_
        obtain ⟨u22, hu22, hyp⟩ := jbind hyp
        obtain ⟨q23, hq23, hyp⟩ := jbind hyp
        refine jr_callV_R (pc := 70) C S L (As := [jI x1]) (rest := []) (c_X1_textOf (m0 := m0) h_x1 hq23) mv_X1_textOf ml_X11_113 rfl (jck_spec hu22) (by decide) rfl rfl rfl (Nat.le_of_ble_eq_true rfl) ⟨Nat.le_refl 0, Nat.le_refl 0⟩ dX11_node_70 (fun p24 H locs S => ?_)
        refine jr_iload_n (pc := 73) C L dX11_node_73 rfl rfl ?_
        obtain ⟨u25, hu25, hyp⟩ := jbind hyp
        obtain ⟨q26, hq26, hyp⟩ := jbind hyp
        refine jr_callV_I (pc := 74) C S L (As := [jI x2]) (rest := []) (c_X10_sizeAt (m0 := m0) h_x2 hq26) mv_X10_sizeAt ml_X11_134 rfl (jck_spec hu25) (by decide) rfl rfl rfl (Nat.le_of_ble_eq_true rfl) ⟨Nat.le_refl 0, Nat.le_refl 0⟩ dX11_node_74 (fun p27 H locs S => ?_)
        cases hyp
        exact jr_iret C S p27 dX11_node_77
      have hyp := (if_neg c20).symm.trans hyp
      refine jr_lookup (pc := 25) C h_x3 (off := 53) (tgt := 78) dX11_node_25 rfl ((if_neg c12).trans ((if_neg c20).trans rfl)) (by decide) ?_
      refine jr_bipush (pc := 78) C dX11_node_78 (by decide) ?_
      cases hyp
      exact jr_iret C S (show jIn (-2) from ⟨by decide, by decide⟩) dX11_node_80
theorem c_X11_node {l : Launch} {D : va_G} {cy : Nat → ClassId} {B sz : Nat} {sh : jm_S} {res : Int} {m0 : jm_M} {a0 : Nat} {x1 : Int} (h_x1 : jIn x1) {x2 : Int} (h_x2 : jIn x2) {x3 : Int} (h_x3 : jIn x3) (hyp : f_X11_node sh a0 x1 x2 x3 m0 = some res) : jCt l D cy B sz sh 1 yX11_node cX11_node 4 (some .int) [jR B a0, jI x1, jI x2, jI x3] m0 (some (jI res)) m0 (jIn res) :=
  jc_of (by decide) (fun v h => by simp only [List.mem_cons, List.not_mem_nil, or_false] at h; rcases h with rfl | rfl | rfl | rfl <;> first | rfl | exact jR_cat _ _) (Nat.le_of_ble_eq_true rfl) (fun C S L => t_X11_node_e C  h_x1 h_x2 h_x3 S L hyp)
set_option maxHeartbeats 4000000 in
set_option maxRecDepth 100000 in
theorem t_X11_choose_e {p : Program} {l : Launch} {e : Env} {s : State} {mi : MethodId} {args : Array Value} {below : List Frame} {meth : Method} {c : Code} {D : va_G} {cy : Nat → ClassId} {B sz : Nat} {sh : jm_S} {res : (Int × jm_M)} (C : jCx p s mi args meth c cX11_choose 2 RX11 (some .int) D cy) {a0 : Nat} {x1 : Int} (h_x1 : jIn x1) {m : jm_M} {H : Heap} {locs : List Loc} {ls : Array Slot} (S : jHs D cy B sz sh (jA B sz) s.heap H locs m) (L : jL ls [some (jR B a0), some (jI x1)]) (hyp : f_X11_choose sh a0 x1 m = some res) : W p l e (jrm 1 0 0) s mi args below meth c H locs 0 0 (MQ below (jQc D cy B sz sh res.2 (some (jI res.1)) (jIn res.1)) args s 0 0 (jA B sz)) (F0 mi 0 ls []) := by
  unfold f_X11_choose at hyp
  refine jr_iload_n (pc := 0) C L dX11_choose_0 rfl rfl ?_
  refine jr_if_lt (pc := 1) C h_x1 (tgt := 10) dX11_choose_1 (by decide) (fun c1 => ?_) (fun c1 => ?_)
  · have hyp := (if_pos c1).symm.trans hyp
    refine jr_bipush (pc := 10) C dX11_choose_10 (by decide) ?_
    cases hyp
    exact jr_iret C S (show jIn (-2) from ⟨by decide, by decide⟩) dX11_choose_12
  · have hyp := (if_neg c1).symm.trans hyp
    refine jr_iload_n (pc := 4) C L dX11_choose_4 rfl rfl ?_
    refine jr_bipush (pc := 5) C dX11_choose_5 (by decide) ?_
    refine jr_icmp_le (pc := 7) C h_x1 (show jIn 9 from ⟨by decide, by decide⟩) (tgt := 13) dX11_choose_7 (by decide) (fun c2 => ?_) (fun c2 => ?_)
    · have hyp := (if_pos c2).symm.trans hyp
      refine jr_bipush (pc := 10) C dX11_choose_10 (by decide) ?_
      cases hyp
      exact jr_iret C S (show jIn (-2) from ⟨by decide, by decide⟩) dX11_choose_12
    · have hyp := (if_neg c2).symm.trans hyp
      refine jr_aload_n (pc := 13) C L dX11_choose_13 rfl rfl ?_
      obtain ⟨v3, hv3, hyp⟩ := jbind hyp
      refine jr_getR (pc := 14) C S lf_X11_10 rfl hv3 dX11_choose_14 ?_
      refine jr_iload_n (pc := 17) C L dX11_choose_17 rfl rfl ?_
      obtain ⟨u4, hu4, hyp⟩ := jbind hyp
      obtain ⟨q5, hq5, hyp⟩ := jbind hyp
      refine jr_callV_I (pc := 18) C S L (As := [jI x1]) (rest := []) (c_X1_addDigit h_x1 hq5) mv_X1_addDigit ml_X11_137 rfl (jck_spec hu4) (by decide) rfl rfl rfl (Nat.le_of_ble_eq_true rfl) ⟨Nat.le_refl 0, Nat.le_refl 0⟩ dX11_choose_18 (fun p6 H locs S => ?_)
      refine jr_if_eq (pc := 21) C p6 (tgt := 34) dX11_choose_21 (by decide) (fun c7 => ?_) (fun c7 => ?_)
      · have hyp := (if_pos c7).symm.trans hyp
        refine jr_bipush (pc := 34) C dX11_choose_34 (by decide) ?_
        cases hyp
        exact jr_iret C S (show jIn (-4) from ⟨by decide, by decide⟩) dX11_choose_36
      · have hyp := (if_neg c7).symm.trans hyp
        refine jr_aload_n (pc := 24) C L dX11_choose_24 rfl rfl ?_
        obtain ⟨v8, hv8, hyp⟩ := jbind hyp
        refine jr_getR (pc := 25) C S lf_X11_10 rfl hv8 dX11_choose_25 ?_
        obtain ⟨v9, hv9, hyp⟩ := jbind hyp
        have iv9 := jrf_in S hv9
        refine jr_getI (pc := 28) C S lf_X11_140 rfl hv9 dX11_choose_28 ?_
        refine jr_goto (pc := 31) C (tgt := 36) dX11_choose_31 (by decide) ?_
        cases hyp
        exact jr_iret C S iv9 dX11_choose_36
theorem c_X11_choose {l : Launch} {D : va_G} {cy : Nat → ClassId} {B sz : Nat} {sh : jm_S} {res : (Int × jm_M)} {m : jm_M} {a0 : Nat} {x1 : Int} (h_x1 : jIn x1) (hyp : f_X11_choose sh a0 x1 m = some res) : jCt l D cy B sz sh 1 yX11_choose cX11_choose 2 (some .int) [jR B a0, jI x1] m (some (jI res.1)) res.2 (jIn res.1) :=
  jc_of (by decide) (fun v h => by simp only [List.mem_cons, List.not_mem_nil, or_false] at h; rcases h with rfl | rfl <;> first | rfl | exact jR_cat _ _) (Nat.le_of_ble_eq_true rfl) (fun C S L => t_X11_choose_e C  h_x1 S L hyp)
set_option maxHeartbeats 4000000 in
set_option maxRecDepth 100000 in
theorem t_X11_forget_e {p : Program} {l : Launch} {e : Env} {s : State} {mi : MethodId} {args : Array Value} {below : List Frame} {meth : Method} {c : Code} {D : va_G} {cy : Nat → ClassId} {B sz : Nat} {sh : jm_S} {res : (Int × jm_M)} (C : jCx p s mi args meth c cX11_forget 2 RX11 (some .int) D cy) {a0 : Nat} {m : jm_M} {H : Heap} {locs : List Loc} {ls : Array Slot} (S : jHs D cy B sz sh (jA B sz) s.heap H locs m) (L : jL ls [some (jR B a0), none]) (hyp : f_X11_forget sh a0 m = some res) : W p l e (jrm 0 0 0) s mi args below meth c H locs 0 0 (MQ below (jQc D cy B sz sh res.2 (some (jI res.1)) (jIn res.1)) args s 0 0 (jA B sz)) (F0 mi 0 ls []) := by
  unfold f_X11_forget at hyp
  refine jr_aload_n (pc := 0) C L dX11_forget_0 rfl rfl ?_
  obtain ⟨v1, hv1, hyp⟩ := jbind hyp
  refine jr_getR (pc := 1) C S lf_X11_10 rfl hv1 dX11_forget_1 ?_
  obtain ⟨v2, hv2, hyp⟩ := jbind hyp
  have iv2 := jrf_in S hv2
  refine jr_getI (pc := 4) C S lf_X11_140 rfl hv2 dX11_forget_4 ?_
  refine jr_istore_n (pc := 7) C L dX11_forget_7 rfl (Nat.le_of_ble_eq_true rfl) (fun ls L => ?_)
  have L : jL ls [some (jR B a0), some (jI v2)] := L
  refine jr_aload_n (pc := 8) C L dX11_forget_8 rfl rfl ?_
  obtain ⟨v3, hv3, hyp⟩ := jbind hyp
  refine jr_getR (pc := 9) C S lf_X11_10 rfl hv3 dX11_forget_9 ?_
  refine jr_iconst (pc := 12) C dX11_forget_12 ?_
  obtain ⟨m4, hm4, hyp⟩ := jbind hyp
  refine jr_putI (pc := 13) C S lf_X11_140 fp_X1_0 rfl (show jIn 0 from ⟨by decide, by decide⟩) hm4 dX11_forget_13 (fun H locs S => ?_)
  refine jr_iload_n (pc := 16) C L dX11_forget_16 rfl rfl ?_
  cases hyp
  exact jr_iret C S iv2 dX11_forget_17
theorem c_X11_forget {l : Launch} {D : va_G} {cy : Nat → ClassId} {B sz : Nat} {sh : jm_S} {res : (Int × jm_M)} {m : jm_M} {a0 : Nat} (hyp : f_X11_forget sh a0 m = some res) : jCt l D cy B sz sh 0 yX11_forget cX11_forget 2 (some .int) [jR B a0] m (some (jI res.1)) res.2 (jIn res.1) :=
  jc_of (by decide) (fun v h => by rw [List.mem_singleton.mp h]; first | rfl | exact jR_cat _ _) (Nat.le_of_ble_eq_true rfl) (fun C S L => t_X11_forget_e C   S L hyp)
set_option maxHeartbeats 4000000 in
set_option maxRecDepth 100000 in
theorem t_X11_run_e {p : Program} {l : Launch} {e : Env} {s : State} {mi : MethodId} {args : Array Value} {below : List Frame} {meth : Method} {c : Code} {D : va_G} {cy : Nat → ClassId} {B sz : Nat} {sh : jm_S} {res : (Int × jm_M)} {N : Nat} (C : jCx p s mi args meth c cX11_run 3 RX11 (some .int) D cy) {a0 : Nat} {x1 : Int} (h_x1 : jIn x1) {x2 : Int} (h_x2 : jIn x2) {m : jm_M} {H : Heap} {locs : List Loc} {ls : Array Slot} (S : jHs D cy B sz sh (jA B sz) s.heap H locs m) (L : jL ls [some (jR B a0), some (jI x1), some (jI x2)]) (hyp : f_X11_run N sh a0 x1 x2 m = some res) : W p l e (jrm 29 0 0) s mi args below meth c H locs 0 0 (MQ below (jQc D cy B sz sh res.2 (some (jI res.1)) (jIn res.1)) args s 0 0 (jA B sz)) (F0 mi 0 ls []) := by
  unfold f_X11_run at hyp
  refine jr_iload_n (pc := 0) C L dX11_run_0 rfl rfl ?_
  obtain ⟨q1, hq1, hyp⟩ := jbind hyp
  refine jr_callS_I (pc := 1) C S L (As := [jI x1]) (rest := []) (c_X11_isProgram (m0 := m) h_x1 hq1) ms_X11_isProgram ml_X11_110 (by decide) rfl rfl rfl (Nat.le_of_ble_eq_true rfl) ⟨Nat.le_refl 0, Nat.le_refl 0⟩ dX11_run_1 (fun p2 H locs S => ?_)
  refine jr_if_ne (pc := 4) C p2 (tgt := 9) dX11_run_4 (by decide) (fun c3 => ?_) (fun c3 => ?_)
  · have hyp := (if_pos c3).symm.trans hyp
    refine jr_iconst (pc := 7) C dX11_run_7 ?_
    cases hyp
    exact jr_iret C S (show jIn (-1) from ⟨by decide, by decide⟩) dX11_run_8
  · have hyp := (if_neg c3).symm.trans hyp
    refine jr_iload_n (pc := 9) C L dX11_run_9 rfl rfl ?_
    refine jr_if_lt (pc := 10) C h_x2 (tgt := 18) dX11_run_10 (by decide) (fun c4 => ?_) (fun c4 => ?_)
    · have hyp := (if_pos c4).symm.trans hyp
      refine jr_bipush (pc := 18) C dX11_run_18 (by decide) ?_
      cases hyp
      exact jr_iret C S (show jIn (-2) from ⟨by decide, by decide⟩) dX11_run_20
    · have hyp := (if_neg c4).symm.trans hyp
      refine jr_iload_n (pc := 13) C L dX11_run_13 rfl rfl ?_
      refine jr_iconst (pc := 14) C dX11_run_14 ?_
      refine jr_icmp_le (pc := 15) C h_x2 (show jIn 4 from ⟨by decide, by decide⟩) (tgt := 21) dX11_run_15 (by decide) (fun c5 => ?_) (fun c5 => ?_)
      · have hyp := (if_pos c5).symm.trans hyp
        refine jr_bipush (pc := 18) C dX11_run_18 (by decide) ?_
        cases hyp
        exact jr_iret C S (show jIn (-2) from ⟨by decide, by decide⟩) dX11_run_20
      · have hyp := (if_neg c5).symm.trans hyp
        refine jr_aload_n (pc := 21) C L dX11_run_21 rfl rfl ?_
        obtain ⟨v6, hv6, hyp⟩ := jbind hyp
        refine jr_getR (pc := 22) C S lf_X11_37 rfl hv6 dX11_run_22 ?_
        refine jr_aload_n (pc := 25) C L dX11_run_25 rfl rfl ?_
        obtain ⟨v7, hv7, hyp⟩ := jbind hyp
        refine jr_getR (pc := 26) C S lf_X11_10 rfl hv7 dX11_run_26 ?_
        refine jr_iload_n (pc := 29) C L dX11_run_29 rfl rfl ?_
        obtain ⟨u8, hu8, hyp⟩ := jbind hyp
        obtain ⟨q9, hq9, hyp⟩ := jbind hyp
        refine jr_callV_R (pc := 30) C S L (As := [jI x1]) (rest := [jR B v6.toNat]) (c_X1_textOf (m0 := m) h_x1 hq9) mv_X1_textOf ml_X11_113 rfl (jck_spec hu8) (by decide) rfl rfl rfl (by simp [jR_cat, jI_cat]) ⟨Nat.le_refl 0, Nat.le_refl 0⟩ dX11_run_30 (fun p10 H locs S => ?_)
        obtain ⟨u11, hu11, hyp⟩ := jbind hyp
        obtain ⟨q12, hq12, hyp⟩ := jbind hyp
        refine jr_callV_N (pc := 33) C S L (As := [jR B q9]) (rest := []) (c_X6_goThrough  hq12) mv_X6_goThrough ml_X11_143 rfl (jck_spec hu11) (by decide) rfl rfl rfl (Nat.le_of_ble_eq_true rfl) ⟨Nat.le_refl 0, Nat.le_refl 0⟩ dX11_run_33 (fun p13 H locs S => ?_)
        refine jr_iload_n (pc := 36) C L dX11_run_36 rfl rfl ?_
        by_cases c14 : (0 : Int) = x2
        · have hyp := (if_pos c14).symm.trans hyp
          refine jr_tableIn (pc := 37) C h_x2 c14 (off := 31) (tgt := 68) dX11_run_37 (by decide) (by decide) rfl (by decide) ?_
          refine jr_aload_n (pc := 68) C L dX11_run_68 rfl rfl ?_
          obtain ⟨v15, hv15, hyp⟩ := jbind hyp
          refine jr_getR (pc := 69) C S lf_X11_37 rfl hv15 dX11_run_69 ?_
          obtain ⟨v16, hv16, hyp⟩ := jbind hyp
          have iv16 := jrf_in S hv16
          refine jr_getI (pc := 72) C S lf_X11_147 rfl hv16 dX11_run_72 ?_
          cases hyp
          exact jr_iret C S iv16 dX11_run_75
        have hyp := (if_neg c14).symm.trans hyp
        by_cases c17 : (1 : Int) = x2
        · have hyp := (if_pos c17).symm.trans hyp
          refine jr_tableIn (pc := 37) C h_x2 c17 (off := 39) (tgt := 76) dX11_run_37 (by decide) (by decide) rfl (by decide) ?_
          refine jr_aload_n (pc := 76) C L dX11_run_76 rfl rfl ?_
          obtain ⟨v18, hv18, hyp⟩ := jbind hyp
          refine jr_getR (pc := 77) C S lf_X11_37 rfl hv18 dX11_run_77 ?_
          obtain ⟨v19, hv19, hyp⟩ := jbind hyp
          have iv19 := jrf_in S hv19
          refine jr_getI (pc := 80) C S lf_X11_150 rfl hv19 dX11_run_80 ?_
          cases hyp
          exact jr_iret C S iv19 dX11_run_83
        have hyp := (if_neg c17).symm.trans hyp
        by_cases c20 : (2 : Int) = x2
        · have hyp := (if_pos c20).symm.trans hyp
          refine jr_tableIn (pc := 37) C h_x2 c20 (off := 47) (tgt := 84) dX11_run_37 (by decide) (by decide) rfl (by decide) ?_
          refine jr_aload_n (pc := 84) C L dX11_run_84 rfl rfl ?_
          obtain ⟨v21, hv21, hyp⟩ := jbind hyp
          refine jr_getR (pc := 85) C S lf_X11_37 rfl hv21 dX11_run_85 ?_
          obtain ⟨v22, hv22, hyp⟩ := jbind hyp
          have iv22 := jrf_in S hv22
          refine jr_getI (pc := 88) C S lf_X11_153 rfl hv22 dX11_run_88 ?_
          cases hyp
          exact jr_iret C S iv22 dX11_run_91
        have hyp := (if_neg c20).symm.trans hyp
        by_cases c23 : (3 : Int) = x2
        · have hyp := (if_pos c23).symm.trans hyp
          refine jr_tableIn (pc := 37) C h_x2 c23 (off := 55) (tgt := 92) dX11_run_37 (by decide) (by decide) rfl (by decide) ?_
          refine jr_aload_n (pc := 92) C L dX11_run_92 rfl rfl ?_
          obtain ⟨v24, hv24, hyp⟩ := jbind hyp
          refine jr_getR (pc := 93) C S lf_X11_37 rfl hv24 dX11_run_93 ?_
          obtain ⟨v25, hv25, hyp⟩ := jbind hyp
          have iv25 := jrf_in S hv25
          refine jr_getI (pc := 96) C S lf_X11_156 rfl hv25 dX11_run_96 ?_
          cases hyp
          exact jr_iret C S iv25 dX11_run_99
        have hyp := (if_neg c23).symm.trans hyp
        refine jr_tableOut (pc := 37) C h_x2 (tgt := 100) dX11_run_37 (by omega) (by decide) ?_
        refine jr_aload_n (pc := 100) C L dX11_run_100 rfl rfl ?_
        obtain ⟨v26, hv26, hyp⟩ := jbind hyp
        refine jr_getR (pc := 101) C S lf_X11_37 rfl hv26 dX11_run_101 ?_
        obtain ⟨u27, hu27, hyp⟩ := jbind hyp
        obtain ⟨q28, hq28, hyp⟩ := jbind hyp
        refine jr_callV_I (pc := 104) C S L (As := []) (rest := []) (c_X6_linesThere (m0 := q12)  hq28) mv_X6_linesThere ml_X11_159 rfl (jck_spec hu27) (by decide) rfl rfl rfl (Nat.le_of_ble_eq_true rfl) ⟨Nat.le_refl 0, Nat.le_refl 0⟩ dX11_run_104 (fun p29 H locs S => ?_)
        cases hyp
        exact jr_iret C S p29 dX11_run_107
theorem c_X11_run {l : Launch} {D : va_G} {cy : Nat → ClassId} {B sz : Nat} {sh : jm_S} {res : (Int × jm_M)} {N : Nat} {m : jm_M} {a0 : Nat} {x1 : Int} (h_x1 : jIn x1) {x2 : Int} (h_x2 : jIn x2) (hyp : f_X11_run N sh a0 x1 x2 m = some res) : jCt l D cy B sz sh 29 yX11_run cX11_run 3 (some .int) [jR B a0, jI x1, jI x2] m (some (jI res.1)) res.2 (jIn res.1) :=
  jc_of (by decide) (fun v h => by simp only [List.mem_cons, List.not_mem_nil, or_false] at h; rcases h with rfl | rfl | rfl <;> first | rfl | exact jR_cat _ _) (Nat.le_of_ble_eq_true rfl) (fun C S L => t_X11_run_e C  h_x1 h_x2 S L hyp)
set_option maxHeartbeats 4000000 in
set_option maxRecDepth 100000 in
theorem t_X11_most_b60 {p : Program} {l : Launch} {e : Env} {s : State} {mi : MethodId} {args : Array Value} {below : List Frame} {meth : Method} {c : Code} {D : va_G} {cy : Nat → ClassId} {B sz : Nat} {sh : jm_S} {res : (Int × jm_M)} {N : Nat} (C : jCx p s mi args meth c cX11_most 5 RX11 (some .int) D cy) {a0 : Nat} {x2 : Int} (h_x2 : jIn x2) {r0 : Nat} {r1 : Nat} {s2 : Int} (h_s2 : jIn s2) {s3 : Int} (h_s3 : jIn s3) {s4 : Int} (h_s4 : jIn s4) {m : jm_M} {H : Heap} {locs : List Loc} {ls : Array Slot} (S : jHs D cy B sz sh (jA B sz) s.heap H locs m) (L : jL ls [some (jR B a0), none, some (jI x2), none, none]) (hyp : f_X11_most_b60 N sh a0 x2 r0 r1 s2 s3 s4 m = some res) : W p l e (jrm 29 0 0) s mi args below meth c H locs 0 0 (MQ below (jQc D cy B sz sh res.2 (some (jI res.1)) (jIn res.1)) args s 0 0 (jA B sz)) (F0 mi 60 ls [jI s4, jI s3, jI s2, jR B r1, jR B r0]) := by
  unfold f_X11_most_b60 at hyp
  obtain ⟨u1, hu1, hyp⟩ := jbind hyp
  obtain ⟨q2, hq2, hyp⟩ := jbind hyp
  refine jr_callV_I (pc := 60) C S L (As := [jR B r1, jI s2, jI s3, jI s4]) (rest := []) (c_X8_costOf h_s2 h_s3 h_s4 hq2) mv_X8_costOf ml_X11_162 rfl (jck_spec hu1) (by decide) rfl rfl rfl (Nat.le_of_ble_eq_true rfl) ⟨Nat.le_refl 0, Nat.le_refl 0⟩ dX11_most_60 (fun p3 H locs S => ?_)
  refine jr_istore (pc := 63) C L dX11_most_63 (Nat.le_of_ble_eq_true rfl) (fun ls L => ?_)
  have L : jL ls [some (jR B a0), none, some (jI x2), none, some (jI q2.1)] := L
  refine jr_iload_n (pc := 65) C L dX11_most_65 rfl rfl ?_
  refine jr_iconst (pc := 66) C dX11_most_66 ?_
  refine jr_icmp_ne (pc := 67) C h_x2 (show jIn 2 from ⟨by decide, by decide⟩) (tgt := 80) dX11_most_67 (by decide) (fun c4 => ?_) (fun c4 => ?_)
  · have hyp := (if_pos c4).symm.trans hyp
    refine jr_aload_n (pc := 70) C L dX11_most_70 rfl rfl ?_
    obtain ⟨v5, hv5, hyp⟩ := jbind hyp
    refine jr_getR (pc := 71) C S lf_X11_44 rfl hv5 dX11_most_71 ?_
    obtain ⟨u6, hu6, hyp⟩ := jbind hyp
    obtain ⟨q7, hq7, hyp⟩ := jbind hyp
    refine jr_callV_I (pc := 74) C S L (As := []) (rest := []) (c_X8_ends (m0 := q2.2)  hq7) mv_X8_ends ml_X11_166 rfl (jck_spec hu6) (by decide) rfl rfl rfl (Nat.le_of_ble_eq_true rfl) ⟨Nat.le_refl 0, Nat.le_refl 0⟩ dX11_most_74 (fun p8 H locs S => ?_)
    refine jr_goto (pc := 77) C (tgt := 82) dX11_most_77 (by decide) ?_
    cases hyp
    exact jr_iret C S p8 dX11_most_82
  · have hyp := (if_neg c4).symm.trans hyp
    refine jr_iload (pc := 80) C L dX11_most_80 rfl ?_
    cases hyp
    exact jr_iret C S p3 dX11_most_82
set_option maxHeartbeats 4000000 in
set_option maxRecDepth 100000 in
theorem t_X11_most_e {p : Program} {l : Launch} {e : Env} {s : State} {mi : MethodId} {args : Array Value} {below : List Frame} {meth : Method} {c : Code} {D : va_G} {cy : Nat → ClassId} {B sz : Nat} {sh : jm_S} {res : (Int × jm_M)} {N : Nat} (C : jCx p s mi args meth c cX11_most 5 RX11 (some .int) D cy) {a0 : Nat} {x1 : Int} (h_x1 : jIn x1) {x2 : Int} (h_x2 : jIn x2) {m : jm_M} {H : Heap} {locs : List Loc} {ls : Array Slot} (S : jHs D cy B sz sh (jA B sz) s.heap H locs m) (L : jL ls [some (jR B a0), some (jI x1), some (jI x2), none, none]) (hyp : f_X11_most N sh a0 x1 x2 m = some res) : W p l e (jrm 29 0 0) s mi args below meth c H locs 0 0 (MQ below (jQc D cy B sz sh res.2 (some (jI res.1)) (jIn res.1)) args s 0 0 (jA B sz)) (F0 mi 0 ls []) := by
  unfold f_X11_most at hyp
  refine jr_iload_n (pc := 0) C L dX11_most_0 rfl rfl ?_
  obtain ⟨q9, hq9, hyp⟩ := jbind hyp
  refine jr_callS_I (pc := 1) C S L (As := [jI x1]) (rest := []) (c_X11_isProgram (m0 := m) h_x1 hq9) ms_X11_isProgram ml_X11_110 (by decide) rfl rfl rfl (Nat.le_of_ble_eq_true rfl) ⟨Nat.le_refl 0, Nat.le_refl 0⟩ dX11_most_1 (fun p10 H locs S => ?_)
  refine jr_if_ne (pc := 4) C p10 (tgt := 9) dX11_most_4 (by decide) (fun c11 => ?_) (fun c11 => ?_)
  · have hyp := (if_pos c11).symm.trans hyp
    refine jr_iconst (pc := 7) C dX11_most_7 ?_
    cases hyp
    exact jr_iret C S (show jIn (-1) from ⟨by decide, by decide⟩) dX11_most_8
  · have hyp := (if_neg c11).symm.trans hyp
    refine jr_iload_n (pc := 9) C L dX11_most_9 rfl rfl ?_
    refine jr_if_lt (pc := 10) C h_x2 (tgt := 18) dX11_most_10 (by decide) (fun c12 => ?_) (fun c12 => ?_)
    · have hyp := (if_pos c12).symm.trans hyp
      refine jr_bipush (pc := 18) C dX11_most_18 (by decide) ?_
      cases hyp
      exact jr_iret C S (show jIn (-2) from ⟨by decide, by decide⟩) dX11_most_20
    · have hyp := (if_neg c12).symm.trans hyp
      refine jr_iload_n (pc := 13) C L dX11_most_13 rfl rfl ?_
      refine jr_iconst (pc := 14) C dX11_most_14 ?_
      refine jr_icmp_le (pc := 15) C h_x2 (show jIn 2 from ⟨by decide, by decide⟩) (tgt := 21) dX11_most_15 (by decide) (fun c13 => ?_) (fun c13 => ?_)
      · have hyp := (if_pos c13).symm.trans hyp
        refine jr_bipush (pc := 18) C dX11_most_18 (by decide) ?_
        cases hyp
        exact jr_iret C S (show jIn (-2) from ⟨by decide, by decide⟩) dX11_most_20
      · have hyp := (if_neg c13).symm.trans hyp
        refine jr_aload_n (pc := 21) C L dX11_most_21 rfl rfl ?_
        obtain ⟨v14, hv14, hyp⟩ := jbind hyp
        refine jr_getR (pc := 22) C S lf_X11_10 rfl hv14 dX11_most_22 ?_
        refine jr_iload_n (pc := 25) C L dX11_most_25 rfl rfl ?_
        obtain ⟨u15, hu15, hyp⟩ := jbind hyp
        obtain ⟨q16, hq16, hyp⟩ := jbind hyp
        refine jr_callV_R (pc := 26) C S L (As := [jI x1]) (rest := []) (c_X1_textOf (m0 := m) h_x1 hq16) mv_X1_textOf ml_X11_113 rfl (jck_spec hu15) (by decide) rfl rfl rfl (Nat.le_of_ble_eq_true rfl) ⟨Nat.le_refl 0, Nat.le_refl 0⟩ dX11_most_26 (fun p17 H locs S => ?_)
        refine jr_astore_n (pc := 29) C L dX11_most_29 rfl (Nat.le_of_ble_eq_true rfl) (fun ls L => ?_)
        have L : jL ls [some (jR B a0), some (jI x1), some (jI x2), some (jR B q16), none] := L
        refine jr_aload_n (pc := 30) C L dX11_most_30 rfl rfl ?_
        obtain ⟨v18, hv18, hyp⟩ := jbind hyp
        refine jr_getR (pc := 31) C S lf_X11_44 rfl hv18 dX11_most_31 ?_
        refine jr_aload_n (pc := 34) C L dX11_most_34 rfl rfl ?_
        refine jr_aload_n (pc := 35) C L dX11_most_35 rfl rfl ?_
        obtain ⟨v19, hv19, hyp⟩ := jbind hyp
        refine jr_getR (pc := 36) C S lf_X11_10 rfl hv19 dX11_most_36 ?_
        refine jr_iconst (pc := 39) C dX11_most_39 ?_
        obtain ⟨u20, hu20, hyp⟩ := jbind hyp
        obtain ⟨q21, hq21, hyp⟩ := jbind hyp
        refine jr_callV_I (pc := 40) C S L (As := [jI 2]) (rest := [jR B q16, jR B v18.toNat]) (c_X1_setting (m0 := m) (show jIn 2 from ⟨by decide, by decide⟩) hq21) mv_X1_setting ml_X11_86 rfl (jck_spec hu20) (by decide) rfl rfl rfl (by simp [jR_cat, jI_cat]) ⟨Nat.le_refl 0, Nat.le_refl 0⟩ dX11_most_40 (fun p22 H locs S => ?_)
        refine jr_aload_n (pc := 43) C L dX11_most_43 rfl rfl ?_
        obtain ⟨v23, hv23, hyp⟩ := jbind hyp
        refine jr_getR (pc := 44) C S lf_X11_10 rfl hv23 dX11_most_44 ?_
        refine jr_iconst (pc := 47) C dX11_most_47 ?_
        obtain ⟨u24, hu24, hyp⟩ := jbind hyp
        obtain ⟨q25, hq25, hyp⟩ := jbind hyp
        refine jr_callV_I (pc := 48) C S L (As := [jI 3]) (rest := [jI q21, jR B q16, jR B v18.toNat]) (c_X1_setting (m0 := m) (show jIn 3 from ⟨by decide, by decide⟩) hq25) mv_X1_setting ml_X11_86 rfl (jck_spec hu24) (by decide) rfl rfl rfl (by simp [jR_cat, jI_cat]) ⟨Nat.le_refl 0, Nat.le_refl 0⟩ dX11_most_48 (fun p26 H locs S => ?_)
        refine jr_iload_n (pc := 51) C L dX11_most_51 rfl rfl ?_
        refine jr_if_ne (pc := 52) C h_x2 (tgt := 59) dX11_most_52 (by decide) (fun c27 => ?_) (fun c27 => ?_)
        · have hyp := (if_pos c27).symm.trans hyp
          refine jr_iconst (pc := 55) C dX11_most_55 ?_
          refine jr_goto (pc := 56) C (tgt := 60) dX11_most_56 (by decide) ?_
          exact t_X11_most_b60 C   h_x2 p22 p26 (show jIn 1 from ⟨by decide, by decide⟩) S (L.sub (jsub_s (jsub_n (jsub_s (jsub_n (jsub_n jsub_0)))))) hyp
        · have hyp := (if_neg c27).symm.trans hyp
          refine jr_iconst (pc := 59) C dX11_most_59 ?_
          exact t_X11_most_b60 C   h_x2 p22 p26 (show jIn 0 from ⟨by decide, by decide⟩) S (L.sub (jsub_s (jsub_n (jsub_s (jsub_n (jsub_n jsub_0)))))) hyp
theorem c_X11_most {l : Launch} {D : va_G} {cy : Nat → ClassId} {B sz : Nat} {sh : jm_S} {res : (Int × jm_M)} {N : Nat} {m : jm_M} {a0 : Nat} {x1 : Int} (h_x1 : jIn x1) {x2 : Int} (h_x2 : jIn x2) (hyp : f_X11_most N sh a0 x1 x2 m = some res) : jCt l D cy B sz sh 29 yX11_most cX11_most 5 (some .int) [jR B a0, jI x1, jI x2] m (some (jI res.1)) res.2 (jIn res.1) :=
  jc_of (by decide) (fun v h => by simp only [List.mem_cons, List.not_mem_nil, or_false] at h; rcases h with rfl | rfl | rfl <;> first | rfl | exact jR_cat _ _) (Nat.le_of_ble_eq_true rfl) (fun C S L => t_X11_most_e C  h_x1 h_x2 S L hyp)
set_option maxHeartbeats 4000000 in
set_option maxRecDepth 100000 in
theorem t_X11_row_e {p : Program} {l : Launch} {e : Env} {s : State} {mi : MethodId} {args : Array Value} {below : List Frame} {meth : Method} {c : Code} {D : va_G} {cy : Nat → ClassId} {B sz : Nat} {sh : jm_S} {res : (Int × jm_M)} {N : Nat} (C : jCx p s mi args meth c cX11_row 3 RX11 (some .int) D cy) {a0 : Nat} {x1 : Int} (h_x1 : jIn x1) {x2 : Int} (h_x2 : jIn x2) {m : jm_M} {H : Heap} {locs : List Loc} {ls : Array Slot} (S : jHs D cy B sz sh (jA B sz) s.heap H locs m) (L : jL ls [some (jR B a0), some (jI x1), some (jI x2)]) (hyp : f_X11_row N sh a0 x1 x2 m = some res) : W p l e (jrm 53 0 0) s mi args below meth c H locs 0 0 (MQ below (jQc D cy B sz sh res.2 (some (jI res.1)) (jIn res.1)) args s 0 0 (jA B sz)) (F0 mi 0 ls []) := by
  unfold f_X11_row at hyp
  refine jr_iload_n (pc := 0) C L dX11_row_0 rfl rfl ?_
  obtain ⟨q1, hq1, hyp⟩ := jbind hyp
  refine jr_callS_I (pc := 1) C S L (As := [jI x1]) (rest := []) (c_X11_isProgram (m0 := m) h_x1 hq1) ms_X11_isProgram ml_X11_110 (by decide) rfl rfl rfl (Nat.le_of_ble_eq_true rfl) ⟨Nat.le_refl 0, Nat.le_refl 0⟩ dX11_row_1 (fun p2 H locs S => ?_)
  refine jr_if_ne (pc := 4) C p2 (tgt := 9) dX11_row_4 (by decide) (fun c3 => ?_) (fun c3 => ?_)
  · have hyp := (if_pos c3).symm.trans hyp
    refine jr_iconst (pc := 7) C dX11_row_7 ?_
    cases hyp
    exact jr_iret C S (show jIn (-1) from ⟨by decide, by decide⟩) dX11_row_8
  · have hyp := (if_neg c3).symm.trans hyp
    refine jr_aload_n (pc := 9) C L dX11_row_9 rfl rfl ?_
    obtain ⟨v4, hv4, hyp⟩ := jbind hyp
    refine jr_getR (pc := 10) C S lf_X11_51 rfl hv4 dX11_row_10 ?_
    refine jr_aload_n (pc := 13) C L dX11_row_13 rfl rfl ?_
    obtain ⟨v5, hv5, hyp⟩ := jbind hyp
    refine jr_getR (pc := 14) C S lf_X11_10 rfl hv5 dX11_row_14 ?_
    refine jr_iload_n (pc := 17) C L dX11_row_17 rfl rfl ?_
    obtain ⟨u6, hu6, hyp⟩ := jbind hyp
    obtain ⟨q7, hq7, hyp⟩ := jbind hyp
    refine jr_callV_R (pc := 18) C S L (As := [jI x1]) (rest := [jR B v4.toNat]) (c_X1_textOf (m0 := m) h_x1 hq7) mv_X1_textOf ml_X11_113 rfl (jck_spec hu6) (by decide) rfl rfl rfl (by simp [jR_cat, jI_cat]) ⟨Nat.le_refl 0, Nat.le_refl 0⟩ dX11_row_18 (fun p8 H locs S => ?_)
    obtain ⟨u9, hu9, hyp⟩ := jbind hyp
    obtain ⟨q10, hq10, hyp⟩ := jbind hyp
    refine jr_callV_N (pc := 21) C S L (As := [jR B q7]) (rest := []) (c_X5_find  hq10) mv_X5_find ml_X11_169 rfl (jck_spec hu9) (by decide) rfl rfl rfl (Nat.le_of_ble_eq_true rfl) ⟨Nat.le_refl 0, Nat.le_refl 0⟩ dX11_row_21 (fun p11 H locs S => ?_)
    refine jr_aload_n (pc := 24) C L dX11_row_24 rfl rfl ?_
    obtain ⟨v12, hv12, hyp⟩ := jbind hyp
    refine jr_getR (pc := 25) C S lf_X11_51 rfl hv12 dX11_row_25 ?_
    obtain ⟨v13, hv13, hyp⟩ := jbind hyp
    have iv13 := jrf_in S hv13
    refine jr_getI (pc := 28) C S lf_X11_172 rfl hv13 dX11_row_28 ?_
    refine jr_bipush (pc := 31) C dX11_row_31 (by decide) ?_
    refine jr_icmp_le (pc := 33) C iv13 (show jIn 20 from ⟨by decide, by decide⟩) (tgt := 39) dX11_row_33 (by decide) (fun c14 => ?_) (fun c14 => ?_)
    · have hyp := (if_pos c14).symm.trans hyp
      refine jr_bipush (pc := 36) C dX11_row_36 (by decide) ?_
      cases hyp
      exact jr_iret C S (show jIn (-3) from ⟨by decide, by decide⟩) dX11_row_38
    · have hyp := (if_neg c14).symm.trans hyp
      refine jr_iload_n (pc := 39) C L dX11_row_39 rfl rfl ?_
      refine jr_iconst (pc := 40) C dX11_row_40 ?_
      refine jr_icmp_ne (pc := 41) C h_x2 (show jIn (-1) from ⟨by decide, by decide⟩) (tgt := 54) dX11_row_41 (by decide) (fun c15 => ?_) (fun c15 => ?_)
      · have hyp := (if_pos c15).symm.trans hyp
        refine jr_aload_n (pc := 44) C L dX11_row_44 rfl rfl ?_
        obtain ⟨v16, hv16, hyp⟩ := jbind hyp
        refine jr_getR (pc := 45) C S lf_X11_51 rfl hv16 dX11_row_45 ?_
        obtain ⟨v17, hv17, hyp⟩ := jbind hyp
        have iv17 := jrf_in S hv17
        refine jr_getI (pc := 48) C S lf_X11_172 rfl hv17 dX11_row_48 ?_
        refine jr_goto (pc := 51) C (tgt := 62) dX11_row_51 (by decide) ?_
        cases hyp
        exact jr_iret C S iv17 dX11_row_62
      · have hyp := (if_neg c15).symm.trans hyp
        refine jr_aload_n (pc := 54) C L dX11_row_54 rfl rfl ?_
        obtain ⟨v18, hv18, hyp⟩ := jbind hyp
        refine jr_getR (pc := 55) C S lf_X11_51 rfl hv18 dX11_row_55 ?_
        refine jr_iload_n (pc := 58) C L dX11_row_58 rfl rfl ?_
        obtain ⟨u19, hu19, hyp⟩ := jbind hyp
        obtain ⟨q20, hq20, hyp⟩ := jbind hyp
        refine jr_callV_I (pc := 59) C S L (As := [jI x2]) (rest := []) (c_X5_digitAt (m0 := q10) h_x2 hq20) mv_X5_digitAt ml_X11_173 rfl (jck_spec hu19) (by decide) rfl rfl rfl (Nat.le_of_ble_eq_true rfl) ⟨Nat.le_refl 0, Nat.le_refl 0⟩ dX11_row_59 (fun p21 H locs S => ?_)
        cases hyp
        exact jr_iret C S p21 dX11_row_62
theorem c_X11_row {l : Launch} {D : va_G} {cy : Nat → ClassId} {B sz : Nat} {sh : jm_S} {res : (Int × jm_M)} {N : Nat} {m : jm_M} {a0 : Nat} {x1 : Int} (h_x1 : jIn x1) {x2 : Int} (h_x2 : jIn x2) (hyp : f_X11_row N sh a0 x1 x2 m = some res) : jCt l D cy B sz sh 53 yX11_row cX11_row 3 (some .int) [jR B a0, jI x1, jI x2] m (some (jI res.1)) res.2 (jIn res.1) :=
  jc_of (by decide) (fun v h => by simp only [List.mem_cons, List.not_mem_nil, or_false] at h; rcases h with rfl | rfl | rfl <;> first | rfl | exact jR_cat _ _) (Nat.le_of_ble_eq_true rfl) (fun C S L => t_X11_row_e C  h_x1 h_x2 S L hyp)
set_option maxHeartbeats 4000000 in
set_option maxRecDepth 100000 in
theorem t_X11_isFetch_e {p : Program} {l : Launch} {e : Env} {s : State} {mi : MethodId} {args : Array Value} {below : List Frame} {meth : Method} {c : Code} {D : va_G} {cy : Nat → ClassId} {B sz : Nat} {sh : jm_S} {res : Int} {m0 : jm_M} (C : jCx p s mi args meth c cX11_isFetch 3 RX11 (some .boolean) D cy) {a0 : Nat} {x1 : Int} (h_x1 : jIn x1) {x2 : Int} (h_x2 : jIn x2) {H : Heap} {locs : List Loc} {ls : Array Slot} (S : jHs D cy B sz sh (jA B sz) s.heap H locs m0) (L : jL ls [some (jR B a0), some (jI x1), some (jI x2)]) (hyp : f_X11_isFetch sh a0 x1 x2 m0 = some res) : W p l e (jrm 2 0 0) s mi args below meth c H locs 0 0 (MQ below (jQc D cy B sz sh m0 (some (jI res)) (jIn res)) args s 0 0 (jA B sz)) (F0 mi 0 ls []) := by
  unfold f_X11_isFetch at hyp
  refine jr_iload_n (pc := 0) C L dX11_isFetch_0 rfl rfl ?_
  obtain ⟨q1, hq1, hyp⟩ := jbind hyp
  refine jr_callS_I (pc := 1) C S L (As := [jI x1]) (rest := []) (c_X11_isProgram (m0 := m0) h_x1 hq1) ms_X11_isProgram ml_X11_110 (by decide) rfl rfl rfl (Nat.le_of_ble_eq_true rfl) ⟨Nat.le_refl 0, Nat.le_refl 0⟩ dX11_isFetch_1 (fun p2 H locs S => ?_)
  refine jr_if_eq (pc := 4) C p2 (tgt := 26) dX11_isFetch_4 (by decide) (fun c3 => ?_) (fun c3 => ?_)
  · have hyp := (if_pos c3).symm.trans hyp
    refine jr_iconst (pc := 26) C dX11_isFetch_26 ?_
    cases hyp
    exact jr_zret C S (show jIn 0 from ⟨by decide, by decide⟩) rfl dX11_isFetch_27
  · have hyp := (if_neg c3).symm.trans hyp
    refine jr_aload_n (pc := 7) C L dX11_isFetch_7 rfl rfl ?_
    obtain ⟨v4, hv4, hyp⟩ := jbind hyp
    refine jr_getR (pc := 8) C S lf_X11_10 rfl hv4 dX11_isFetch_8 ?_
    refine jr_iload_n (pc := 11) C L dX11_isFetch_11 rfl rfl ?_
    obtain ⟨u5, hu5, hyp⟩ := jbind hyp
    obtain ⟨q6, hq6, hyp⟩ := jbind hyp
    refine jr_callV_R (pc := 12) C S L (As := [jI x1]) (rest := []) (c_X1_textOf (m0 := m0) h_x1 hq6) mv_X1_textOf ml_X11_113 rfl (jck_spec hu5) (by decide) rfl rfl rfl (Nat.le_of_ble_eq_true rfl) ⟨Nat.le_refl 0, Nat.le_refl 0⟩ dX11_isFetch_12 (fun p7 H locs S => ?_)
    refine jr_iload_n (pc := 15) C L dX11_isFetch_15 rfl rfl ?_
    obtain ⟨u8, hu8, hyp⟩ := jbind hyp
    obtain ⟨q9, hq9, hyp⟩ := jbind hyp
    refine jr_callV_I (pc := 16) C S L (As := [jI x2]) (rest := []) (c_X10_isFetchAt (m0 := m0) h_x2 hq9) mv_X10_isFetchAt ml_X11_250 rfl (jck_spec hu8) (by decide) rfl rfl rfl (Nat.le_of_ble_eq_true rfl) ⟨Nat.le_refl 0, Nat.le_refl 0⟩ dX11_isFetch_16 (fun p10 H locs S => ?_)
    refine jr_if_eq (pc := 19) C p10 (tgt := 26) dX11_isFetch_19 (by decide) (fun c11 => ?_) (fun c11 => ?_)
    · have hyp := (if_pos c11).symm.trans hyp
      refine jr_iconst (pc := 26) C dX11_isFetch_26 ?_
      cases hyp
      exact jr_zret C S (show jIn 0 from ⟨by decide, by decide⟩) rfl dX11_isFetch_27
    · have hyp := (if_neg c11).symm.trans hyp
      refine jr_iconst (pc := 22) C dX11_isFetch_22 ?_
      refine jr_goto (pc := 23) C (tgt := 27) dX11_isFetch_23 (by decide) ?_
      cases hyp
      exact jr_zret C S (show jIn 1 from ⟨by decide, by decide⟩) rfl dX11_isFetch_27
theorem c_X11_isFetch {l : Launch} {D : va_G} {cy : Nat → ClassId} {B sz : Nat} {sh : jm_S} {res : Int} {m0 : jm_M} {a0 : Nat} {x1 : Int} (h_x1 : jIn x1) {x2 : Int} (h_x2 : jIn x2) (hyp : f_X11_isFetch sh a0 x1 x2 m0 = some res) : jCt l D cy B sz sh 2 yX11_isFetch cX11_isFetch 3 (some .boolean) [jR B a0, jI x1, jI x2] m0 (some (jI res)) m0 (jIn res) :=
  jc_of (by decide) (fun v h => by simp only [List.mem_cons, List.not_mem_nil, or_false] at h; rcases h with rfl | rfl | rfl <;> first | rfl | exact jR_cat _ _) (Nat.le_of_ble_eq_true rfl) (fun C S L => t_X11_isFetch_e C  h_x1 h_x2 S L hyp)
set_option maxHeartbeats 4000000 in
set_option maxRecDepth 100000 in
theorem t_X11_age_e {p : Program} {l : Launch} {e : Env} {s : State} {mi : MethodId} {args : Array Value} {below : List Frame} {meth : Method} {c : Code} {D : va_G} {cy : Nat → ClassId} {B sz : Nat} {sh : jm_S} {res : (Int × jm_M)} {N : Nat} (C : jCx p s mi args meth c cX11_age 5 RX11 (some .int) D cy) {a0 : Nat} {x1 : Int} (h_x1 : jIn x1) {x2 : Int} (h_x2 : jIn x2) {x3 : Int} (h_x3 : jIn x3) {x4 : Int} (h_x4 : jIn x4) {m : jm_M} {H : Heap} {locs : List Loc} {ls : Array Slot} (S : jHs D cy B sz sh (jA B sz) s.heap H locs m) (L : jL ls [some (jR B a0), some (jI x1), some (jI x2), some (jI x3), some (jI x4)]) (hyp : f_X11_age N sh a0 x1 x2 x3 x4 m = some res) : W p l e (jrm 29 0 0) s mi args below meth c H locs 0 0 (MQ below (jQc D cy B sz sh res.2 (some (jI res.1)) (jIn res.1)) args s 0 0 (jA B sz)) (F0 mi 0 ls []) := by
  unfold f_X11_age at hyp
  refine jr_aload_n (pc := 0) C L dX11_age_0 rfl rfl ?_
  refine jr_iload_n (pc := 1) C L dX11_age_1 rfl rfl ?_
  refine jr_iload_n (pc := 2) C L dX11_age_2 rfl rfl ?_
  obtain ⟨u1, hu1, hyp⟩ := jbind hyp
  obtain ⟨q2, hq2, hyp⟩ := jbind hyp
  refine jr_callV_I (pc := 3) C S L (As := [jI x1, jI x2]) (rest := []) (c_X11_isFetch (m0 := m) h_x1 h_x2 hq2) mv_X11_isFetch ml_X11_176 rfl (jck_spec hu1) (by decide) rfl rfl rfl (Nat.le_of_ble_eq_true rfl) ⟨Nat.le_refl 0, Nat.le_refl 0⟩ dX11_age_3 (fun p3 H locs S => ?_)
  refine jr_if_eq (pc := 6) C p3 (tgt := 21) dX11_age_6 (by decide) (fun c4 => ?_) (fun c4 => ?_)
  · have hyp := (if_pos c4).symm.trans hyp
    refine jr_iconst (pc := 21) C dX11_age_21 ?_
    cases hyp
    exact jr_iret C S (show jIn (-1) from ⟨by decide, by decide⟩) dX11_age_22
  · have hyp := (if_neg c4).symm.trans hyp
    refine jr_iload (pc := 9) C L dX11_age_9 rfl ?_
    refine jr_if_lt (pc := 11) C h_x4 (tgt := 21) dX11_age_11 (by decide) (fun c5 => ?_) (fun c5 => ?_)
    · have hyp := (if_pos c5).symm.trans hyp
      refine jr_iconst (pc := 21) C dX11_age_21 ?_
      cases hyp
      exact jr_iret C S (show jIn (-1) from ⟨by decide, by decide⟩) dX11_age_22
    · have hyp := (if_neg c5).symm.trans hyp
      refine jr_iload (pc := 14) C L dX11_age_14 rfl ?_
      refine jr_bipush (pc := 16) C dX11_age_16 (by decide) ?_
      refine jr_icmp_lt (pc := 18) C h_x4 (show jIn 8 from ⟨by decide, by decide⟩) (tgt := 23) dX11_age_18 (by decide) (fun c6 => ?_) (fun c6 => ?_)
      · have hyp := (if_pos c6).symm.trans hyp
        refine jr_iload_n (pc := 23) C L dX11_age_23 rfl rfl ?_
        refine jr_if_lt (pc := 24) C h_x3 (tgt := 32) dX11_age_24 (by decide) (fun c7 => ?_) (fun c7 => ?_)
        · have hyp := (if_pos c7).symm.trans hyp
          refine jr_bipush (pc := 32) C dX11_age_32 (by decide) ?_
          cases hyp
          exact jr_iret C S (show jIn (-2) from ⟨by decide, by decide⟩) dX11_age_34
        · have hyp := (if_neg c7).symm.trans hyp
          refine jr_iload_n (pc := 27) C L dX11_age_27 rfl rfl ?_
          refine jr_iconst (pc := 28) C dX11_age_28 ?_
          refine jr_icmp_le (pc := 29) C h_x3 (show jIn 1 from ⟨by decide, by decide⟩) (tgt := 35) dX11_age_29 (by decide) (fun c8 => ?_) (fun c8 => ?_)
          · have hyp := (if_pos c8).symm.trans hyp
            refine jr_bipush (pc := 32) C dX11_age_32 (by decide) ?_
            cases hyp
            exact jr_iret C S (show jIn (-2) from ⟨by decide, by decide⟩) dX11_age_34
          · have hyp := (if_neg c8).symm.trans hyp
            refine jr_aload_n (pc := 35) C L dX11_age_35 rfl rfl ?_
            obtain ⟨v9, hv9, hyp⟩ := jbind hyp
            refine jr_getR (pc := 36) C S lf_X11_60 rfl hv9 dX11_age_36 ?_
            refine jr_aload_n (pc := 39) C L dX11_age_39 rfl rfl ?_
            obtain ⟨v10, hv10, hyp⟩ := jbind hyp
            refine jr_getR (pc := 40) C S lf_X11_10 rfl hv10 dX11_age_40 ?_
            refine jr_iload_n (pc := 43) C L dX11_age_43 rfl rfl ?_
            obtain ⟨u11, hu11, hyp⟩ := jbind hyp
            obtain ⟨q12, hq12, hyp⟩ := jbind hyp
            refine jr_callV_R (pc := 44) C S L (As := [jI x1]) (rest := [jR B v9.toNat]) (c_X1_textOf (m0 := m) h_x1 hq12) mv_X1_textOf ml_X11_113 rfl (jck_spec hu11) (by decide) rfl rfl rfl (by simp [jR_cat, jI_cat]) ⟨Nat.le_refl 0, Nat.le_refl 0⟩ dX11_age_44 (fun p13 H locs S => ?_)
            obtain ⟨u14, hu14, hyp⟩ := jbind hyp
            obtain ⟨q15, hq15, hyp⟩ := jbind hyp
            refine jr_callV_N (pc := 47) C S L (As := [jR B q12]) (rest := []) (c_X0_trace  hq15) mv_X0_trace ml_X11_179 rfl (jck_spec hu14) (by decide) rfl rfl rfl (Nat.le_of_ble_eq_true rfl) ⟨Nat.le_refl 0, Nat.le_refl 0⟩ dX11_age_47 (fun p16 H locs S => ?_)
            refine jr_iload_n (pc := 50) C L dX11_age_50 rfl rfl ?_
            refine jr_if_ne (pc := 51) C h_x3 (tgt := 67) dX11_age_51 (by decide) (fun c17 => ?_) (fun c17 => ?_)
            · have hyp := (if_pos c17).symm.trans hyp
              refine jr_aload_n (pc := 54) C L dX11_age_54 rfl rfl ?_
              obtain ⟨v18, hv18, hyp⟩ := jbind hyp
              refine jr_getR (pc := 55) C S lf_X11_60 rfl hv18 dX11_age_55 ?_
              refine jr_iload_n (pc := 58) C L dX11_age_58 rfl rfl ?_
              refine jr_iload (pc := 59) C L dX11_age_59 rfl ?_
              obtain ⟨u19, hu19, hyp⟩ := jbind hyp
              obtain ⟨q20, hq20, hyp⟩ := jbind hyp
              refine jr_callV_I (pc := 61) C S L (As := [jI x2, jI x4]) (rest := []) (c_X0_mustAt (m0 := q15) h_x2 h_x4 hq20) mv_X0_mustAt ml_X11_182 rfl (jck_spec hu19) (by decide) rfl rfl rfl (Nat.le_of_ble_eq_true rfl) ⟨Nat.le_refl 0, Nat.le_refl 0⟩ dX11_age_61 (fun p21 H locs S => ?_)
              refine jr_goto (pc := 64) C (tgt := 77) dX11_age_64 (by decide) ?_
              cases hyp
              exact jr_iret C S p21 dX11_age_77
            · have hyp := (if_neg c17).symm.trans hyp
              refine jr_aload_n (pc := 67) C L dX11_age_67 rfl rfl ?_
              obtain ⟨v22, hv22, hyp⟩ := jbind hyp
              refine jr_getR (pc := 68) C S lf_X11_60 rfl hv22 dX11_age_68 ?_
              refine jr_iload_n (pc := 71) C L dX11_age_71 rfl rfl ?_
              refine jr_iload (pc := 72) C L dX11_age_72 rfl ?_
              obtain ⟨u23, hu23, hyp⟩ := jbind hyp
              obtain ⟨q24, hq24, hyp⟩ := jbind hyp
              refine jr_callV_I (pc := 74) C S L (As := [jI x2, jI x4]) (rest := []) (c_X0_mayAt (m0 := q15) h_x2 h_x4 hq24) mv_X0_mayAt ml_X11_186 rfl (jck_spec hu23) (by decide) rfl rfl rfl (Nat.le_of_ble_eq_true rfl) ⟨Nat.le_refl 0, Nat.le_refl 0⟩ dX11_age_74 (fun p25 H locs S => ?_)
              cases hyp
              exact jr_iret C S p25 dX11_age_77
      · have hyp := (if_neg c6).symm.trans hyp
        refine jr_iconst (pc := 21) C dX11_age_21 ?_
        cases hyp
        exact jr_iret C S (show jIn (-1) from ⟨by decide, by decide⟩) dX11_age_22
theorem c_X11_age {l : Launch} {D : va_G} {cy : Nat → ClassId} {B sz : Nat} {sh : jm_S} {res : (Int × jm_M)} {N : Nat} {m : jm_M} {a0 : Nat} {x1 : Int} (h_x1 : jIn x1) {x2 : Int} (h_x2 : jIn x2) {x3 : Int} (h_x3 : jIn x3) {x4 : Int} (h_x4 : jIn x4) (hyp : f_X11_age N sh a0 x1 x2 x3 x4 m = some res) : jCt l D cy B sz sh 29 yX11_age cX11_age 5 (some .int) [jR B a0, jI x1, jI x2, jI x3, jI x4] m (some (jI res.1)) res.2 (jIn res.1) :=
  jc_of (by decide) (fun v h => by simp only [List.mem_cons, List.not_mem_nil, or_false] at h; rcases h with rfl | rfl | rfl | rfl | rfl <;> first | rfl | exact jR_cat _ _) (Nat.le_of_ble_eq_true rfl) (fun C S L => t_X11_age_e C  h_x1 h_x2 h_x3 h_x4 S L hyp)
set_option maxHeartbeats 4000000 in
set_option maxRecDepth 100000 in
theorem t_X11_sort_e {p : Program} {l : Launch} {e : Env} {s : State} {mi : MethodId} {args : Array Value} {below : List Frame} {meth : Method} {c : Code} {D : va_G} {cy : Nat → ClassId} {B sz : Nat} {sh : jm_S} {res : (Int × jm_M)} {N : Nat} (C : jCx p s mi args meth c cX11_sort 3 RX11 (some .int) D cy) {a0 : Nat} {x1 : Int} (h_x1 : jIn x1) {x2 : Int} (h_x2 : jIn x2) {m : jm_M} {H : Heap} {locs : List Loc} {ls : Array Slot} (S : jHs D cy B sz sh (jA B sz) s.heap H locs m) (L : jL ls [some (jR B a0), some (jI x1), some (jI x2)]) (hyp : f_X11_sort N sh a0 x1 x2 m = some res) : W p l e (jrm 30 0 0) s mi args below meth c H locs 0 0 (MQ below (jQc D cy B sz sh res.2 (some (jI res.1)) (jIn res.1)) args s 0 0 (jA B sz)) (F0 mi 0 ls []) := by
  unfold f_X11_sort at hyp
  refine jr_aload_n (pc := 0) C L dX11_sort_0 rfl rfl ?_
  refine jr_iload_n (pc := 1) C L dX11_sort_1 rfl rfl ?_
  refine jr_iload_n (pc := 2) C L dX11_sort_2 rfl rfl ?_
  obtain ⟨u1, hu1, hyp⟩ := jbind hyp
  obtain ⟨q2, hq2, hyp⟩ := jbind hyp
  refine jr_callV_I (pc := 3) C S L (As := [jI x1, jI x2]) (rest := []) (c_X11_isFetch (m0 := m) h_x1 h_x2 hq2) mv_X11_isFetch ml_X11_176 rfl (jck_spec hu1) (by decide) rfl rfl rfl (Nat.le_of_ble_eq_true rfl) ⟨Nat.le_refl 0, Nat.le_refl 0⟩ dX11_sort_3 (fun p3 H locs S => ?_)
  refine jr_if_ne (pc := 6) C p3 (tgt := 11) dX11_sort_6 (by decide) (fun c4 => ?_) (fun c4 => ?_)
  · have hyp := (if_pos c4).symm.trans hyp
    refine jr_iconst (pc := 9) C dX11_sort_9 ?_
    cases hyp
    exact jr_iret C S (show jIn (-1) from ⟨by decide, by decide⟩) dX11_sort_10
  · have hyp := (if_neg c4).symm.trans hyp
    refine jr_aload_n (pc := 11) C L dX11_sort_11 rfl rfl ?_
    obtain ⟨v5, hv5, hyp⟩ := jbind hyp
    refine jr_getR (pc := 12) C S lf_X11_69 rfl hv5 dX11_sort_12 ?_
    refine jr_aload_n (pc := 15) C L dX11_sort_15 rfl rfl ?_
    obtain ⟨v6, hv6, hyp⟩ := jbind hyp
    refine jr_getR (pc := 16) C S lf_X11_10 rfl hv6 dX11_sort_16 ?_
    refine jr_iload_n (pc := 19) C L dX11_sort_19 rfl rfl ?_
    obtain ⟨u7, hu7, hyp⟩ := jbind hyp
    obtain ⟨q8, hq8, hyp⟩ := jbind hyp
    refine jr_callV_R (pc := 20) C S L (As := [jI x1]) (rest := [jR B v5.toNat]) (c_X1_textOf (m0 := m) h_x1 hq8) mv_X1_textOf ml_X11_113 rfl (jck_spec hu7) (by decide) rfl rfl rfl (by simp [jR_cat, jI_cat]) ⟨Nat.le_refl 0, Nat.le_refl 0⟩ dX11_sort_20 (fun p9 H locs S => ?_)
    obtain ⟨u10, hu10, hyp⟩ := jbind hyp
    obtain ⟨q11, hq11, hyp⟩ := jbind hyp
    refine jr_callV_N (pc := 23) C S L (As := [jR B q8]) (rest := []) (c_X2_study  hq11) mv_X2_study ml_X11_189 rfl (jck_spec hu10) (by decide) rfl rfl rfl (Nat.le_of_ble_eq_true rfl) ⟨Nat.le_refl 0, Nat.le_refl 0⟩ dX11_sort_23 (fun p12 H locs S => ?_)
    refine jr_aload_n (pc := 26) C L dX11_sort_26 rfl rfl ?_
    obtain ⟨v13, hv13, hyp⟩ := jbind hyp
    refine jr_getR (pc := 27) C S lf_X11_69 rfl hv13 dX11_sort_27 ?_
    refine jr_iload_n (pc := 30) C L dX11_sort_30 rfl rfl ?_
    obtain ⟨u14, hu14, hyp⟩ := jbind hyp
    obtain ⟨q15, hq15, hyp⟩ := jbind hyp
    refine jr_callV_I (pc := 31) C S L (As := [jI x2]) (rest := []) (c_X2_sortAt (m0 := q11) h_x2 hq15) mv_X2_sortAt ml_X11_192 rfl (jck_spec hu14) (by decide) rfl rfl rfl (Nat.le_of_ble_eq_true rfl) ⟨Nat.le_refl 0, Nat.le_refl 0⟩ dX11_sort_31 (fun p16 H locs S => ?_)
    cases hyp
    exact jr_iret C S p16 dX11_sort_34
theorem c_X11_sort {l : Launch} {D : va_G} {cy : Nat → ClassId} {B sz : Nat} {sh : jm_S} {res : (Int × jm_M)} {N : Nat} {m : jm_M} {a0 : Nat} {x1 : Int} (h_x1 : jIn x1) {x2 : Int} (h_x2 : jIn x2) (hyp : f_X11_sort N sh a0 x1 x2 m = some res) : jCt l D cy B sz sh 30 yX11_sort cX11_sort 3 (some .int) [jR B a0, jI x1, jI x2] m (some (jI res.1)) res.2 (jIn res.1) :=
  jc_of (by decide) (fun v h => by simp only [List.mem_cons, List.not_mem_nil, or_false] at h; rcases h with rfl | rfl | rfl <;> first | rfl | exact jR_cat _ _) (Nat.le_of_ble_eq_true rfl) (fun C S L => t_X11_sort_e C  h_x1 h_x2 S L hyp)
set_option maxHeartbeats 4000000 in
set_option maxRecDepth 100000 in
theorem t_X11_bound_e {p : Program} {l : Launch} {e : Env} {s : State} {mi : MethodId} {args : Array Value} {below : List Frame} {meth : Method} {c : Code} {D : va_G} {cy : Nat → ClassId} {B sz : Nat} {sh : jm_S} {res : (Int × jm_M)} {N : Nat} (C : jCx p s mi args meth c cX11_bound 3 RX11 (some .int) D cy) {a0 : Nat} {x1 : Int} (h_x1 : jIn x1) {x2 : Int} (h_x2 : jIn x2) {m : jm_M} {H : Heap} {locs : List Loc} {ls : Array Slot} (S : jHs D cy B sz sh (jA B sz) s.heap H locs m) (L : jL ls [some (jR B a0), some (jI x1), some (jI x2)]) (hyp : f_X11_bound N sh a0 x1 x2 m = some res) : W p l e (jrm 30 0 0) s mi args below meth c H locs 0 0 (MQ below (jQc D cy B sz sh res.2 (some (jI res.1)) (jIn res.1)) args s 0 0 (jA B sz)) (F0 mi 0 ls []) := by
  unfold f_X11_bound at hyp
  refine jr_iload_n (pc := 0) C L dX11_bound_0 rfl rfl ?_
  obtain ⟨q1, hq1, hyp⟩ := jbind hyp
  refine jr_callS_I (pc := 1) C S L (As := [jI x1]) (rest := []) (c_X11_isProgram (m0 := m) h_x1 hq1) ms_X11_isProgram ml_X11_110 (by decide) rfl rfl rfl (Nat.le_of_ble_eq_true rfl) ⟨Nat.le_refl 0, Nat.le_refl 0⟩ dX11_bound_1 (fun p2 H locs S => ?_)
  refine jr_if_ne (pc := 4) C p2 (tgt := 9) dX11_bound_4 (by decide) (fun c3 => ?_) (fun c3 => ?_)
  · have hyp := (if_pos c3).symm.trans hyp
    refine jr_iconst (pc := 7) C dX11_bound_7 ?_
    cases hyp
    exact jr_iret C S (show jIn (-1) from ⟨by decide, by decide⟩) dX11_bound_8
  · have hyp := (if_neg c3).symm.trans hyp
    refine jr_iload_n (pc := 9) C L dX11_bound_9 rfl rfl ?_
    refine jr_if_lt (pc := 10) C h_x2 (tgt := 18) dX11_bound_10 (by decide) (fun c4 => ?_) (fun c4 => ?_)
    · have hyp := (if_pos c4).symm.trans hyp
      refine jr_bipush (pc := 18) C dX11_bound_18 (by decide) ?_
      cases hyp
      exact jr_iret C S (show jIn (-2) from ⟨by decide, by decide⟩) dX11_bound_20
    · have hyp := (if_neg c4).symm.trans hyp
      refine jr_iload_n (pc := 13) C L dX11_bound_13 rfl rfl ?_
      refine jr_iconst (pc := 14) C dX11_bound_14 ?_
      refine jr_icmp_le (pc := 15) C h_x2 (show jIn 1 from ⟨by decide, by decide⟩) (tgt := 21) dX11_bound_15 (by decide) (fun c5 => ?_) (fun c5 => ?_)
      · have hyp := (if_pos c5).symm.trans hyp
        refine jr_bipush (pc := 18) C dX11_bound_18 (by decide) ?_
        cases hyp
        exact jr_iret C S (show jIn (-2) from ⟨by decide, by decide⟩) dX11_bound_20
      · have hyp := (if_neg c5).symm.trans hyp
        refine jr_aload_n (pc := 21) C L dX11_bound_21 rfl rfl ?_
        obtain ⟨v6, hv6, hyp⟩ := jbind hyp
        refine jr_getR (pc := 22) C S lf_X11_69 rfl hv6 dX11_bound_22 ?_
        refine jr_aload_n (pc := 25) C L dX11_bound_25 rfl rfl ?_
        obtain ⟨v7, hv7, hyp⟩ := jbind hyp
        refine jr_getR (pc := 26) C S lf_X11_10 rfl hv7 dX11_bound_26 ?_
        refine jr_iload_n (pc := 29) C L dX11_bound_29 rfl rfl ?_
        obtain ⟨u8, hu8, hyp⟩ := jbind hyp
        obtain ⟨q9, hq9, hyp⟩ := jbind hyp
        refine jr_callV_R (pc := 30) C S L (As := [jI x1]) (rest := [jR B v6.toNat]) (c_X1_textOf (m0 := m) h_x1 hq9) mv_X1_textOf ml_X11_113 rfl (jck_spec hu8) (by decide) rfl rfl rfl (by simp [jR_cat, jI_cat]) ⟨Nat.le_refl 0, Nat.le_refl 0⟩ dX11_bound_30 (fun p10 H locs S => ?_)
        obtain ⟨u11, hu11, hyp⟩ := jbind hyp
        obtain ⟨q12, hq12, hyp⟩ := jbind hyp
        refine jr_callV_N (pc := 33) C S L (As := [jR B q9]) (rest := []) (c_X2_study  hq12) mv_X2_study ml_X11_189 rfl (jck_spec hu11) (by decide) rfl rfl rfl (Nat.le_of_ble_eq_true rfl) ⟨Nat.le_refl 0, Nat.le_refl 0⟩ dX11_bound_33 (fun p13 H locs S => ?_)
        refine jr_iload_n (pc := 36) C L dX11_bound_36 rfl rfl ?_
        refine jr_if_ne (pc := 37) C h_x2 (tgt := 50) dX11_bound_37 (by decide) (fun c14 => ?_) (fun c14 => ?_)
        · have hyp := (if_pos c14).symm.trans hyp
          refine jr_aload_n (pc := 40) C L dX11_bound_40 rfl rfl ?_
          obtain ⟨v15, hv15, hyp⟩ := jbind hyp
          refine jr_getR (pc := 41) C S lf_X11_69 rfl hv15 dX11_bound_41 ?_
          obtain ⟨u16, hu16, hyp⟩ := jbind hyp
          obtain ⟨q17, hq17, hyp⟩ := jbind hyp
          refine jr_callV_I (pc := 44) C S L (As := []) (rest := []) (c_X2_plain  hq17) mv_X2_plain ml_X11_195 rfl (jck_spec hu16) (by decide) rfl rfl rfl (Nat.le_of_ble_eq_true rfl) ⟨Nat.le_refl 0, Nat.le_refl 0⟩ dX11_bound_44 (fun p18 H locs S => ?_)
          refine jr_goto (pc := 47) C (tgt := 57) dX11_bound_47 (by decide) ?_
          cases hyp
          exact jr_iret C S p18 dX11_bound_57
        · have hyp := (if_neg c14).symm.trans hyp
          refine jr_aload_n (pc := 50) C L dX11_bound_50 rfl rfl ?_
          obtain ⟨v19, hv19, hyp⟩ := jbind hyp
          refine jr_getR (pc := 51) C S lf_X11_69 rfl hv19 dX11_bound_51 ?_
          obtain ⟨u20, hu20, hyp⟩ := jbind hyp
          obtain ⟨q21, hq21, hyp⟩ := jbind hyp
          refine jr_callV_I (pc := 54) C S L (As := []) (rest := []) (c_X2_closer  hq21) mv_X2_closer ml_X11_198 rfl (jck_spec hu20) (by decide) rfl rfl rfl (Nat.le_of_ble_eq_true rfl) ⟨Nat.le_refl 0, Nat.le_refl 0⟩ dX11_bound_54 (fun p22 H locs S => ?_)
          cases hyp
          exact jr_iret C S p22 dX11_bound_57
theorem c_X11_bound {l : Launch} {D : va_G} {cy : Nat → ClassId} {B sz : Nat} {sh : jm_S} {res : (Int × jm_M)} {N : Nat} {m : jm_M} {a0 : Nat} {x1 : Int} (h_x1 : jIn x1) {x2 : Int} (h_x2 : jIn x2) (hyp : f_X11_bound N sh a0 x1 x2 m = some res) : jCt l D cy B sz sh 30 yX11_bound cX11_bound 3 (some .int) [jR B a0, jI x1, jI x2] m (some (jI res.1)) res.2 (jIn res.1) :=
  jc_of (by decide) (fun v h => by simp only [List.mem_cons, List.not_mem_nil, or_false] at h; rcases h with rfl | rfl | rfl <;> first | rfl | exact jR_cat _ _) (Nat.le_of_ble_eq_true rfl) (fun C S L => t_X11_bound_e C  h_x1 h_x2 S L hyp)
set_option maxHeartbeats 4000000 in
set_option maxRecDepth 100000 in
theorem t_X11_fast_e {p : Program} {l : Launch} {e : Env} {s : State} {mi : MethodId} {args : Array Value} {below : List Frame} {meth : Method} {c : Code} {D : va_G} {cy : Nat → ClassId} {B sz : Nat} {sh : jm_S} {res : (Int × jm_M)} {N : Nat} (C : jCx p s mi args meth c cX11_fast 3 RX11 (some .int) D cy) {a0 : Nat} {x1 : Int} (h_x1 : jIn x1) {x2 : Int} (h_x2 : jIn x2) {m : jm_M} {H : Heap} {locs : List Loc} {ls : Array Slot} (S : jHs D cy B sz sh (jA B sz) s.heap H locs m) (L : jL ls [some (jR B a0), some (jI x1), some (jI x2)]) (hyp : f_X11_fast N sh a0 x1 x2 m = some res) : W p l e (jrm 30 0 0) s mi args below meth c H locs 0 0 (MQ below (jQc D cy B sz sh res.2 (some (jI res.1)) (jIn res.1)) args s 0 0 (jA B sz)) (F0 mi 0 ls []) := by
  unfold f_X11_fast at hyp
  refine jr_iload_n (pc := 0) C L dX11_fast_0 rfl rfl ?_
  obtain ⟨q1, hq1, hyp⟩ := jbind hyp
  refine jr_callS_I (pc := 1) C S L (As := [jI x1]) (rest := []) (c_X11_isProgram (m0 := m) h_x1 hq1) ms_X11_isProgram ml_X11_110 (by decide) rfl rfl rfl (Nat.le_of_ble_eq_true rfl) ⟨Nat.le_refl 0, Nat.le_refl 0⟩ dX11_fast_1 (fun p2 H locs S => ?_)
  refine jr_if_ne (pc := 4) C p2 (tgt := 9) dX11_fast_4 (by decide) (fun c3 => ?_) (fun c3 => ?_)
  · have hyp := (if_pos c3).symm.trans hyp
    refine jr_iconst (pc := 7) C dX11_fast_7 ?_
    cases hyp
    exact jr_iret C S (show jIn (-1) from ⟨by decide, by decide⟩) dX11_fast_8
  · have hyp := (if_neg c3).symm.trans hyp
    refine jr_iload_n (pc := 9) C L dX11_fast_9 rfl rfl ?_
    refine jr_if_lt (pc := 10) C h_x2 (tgt := 18) dX11_fast_10 (by decide) (fun c4 => ?_) (fun c4 => ?_)
    · have hyp := (if_pos c4).symm.trans hyp
      refine jr_bipush (pc := 18) C dX11_fast_18 (by decide) ?_
      cases hyp
      exact jr_iret C S (show jIn (-2) from ⟨by decide, by decide⟩) dX11_fast_20
    · have hyp := (if_neg c4).symm.trans hyp
      refine jr_iload_n (pc := 13) C L dX11_fast_13 rfl rfl ?_
      refine jr_iconst (pc := 14) C dX11_fast_14 ?_
      refine jr_icmp_le (pc := 15) C h_x2 (show jIn 1 from ⟨by decide, by decide⟩) (tgt := 21) dX11_fast_15 (by decide) (fun c5 => ?_) (fun c5 => ?_)
      · have hyp := (if_pos c5).symm.trans hyp
        refine jr_bipush (pc := 18) C dX11_fast_18 (by decide) ?_
        cases hyp
        exact jr_iret C S (show jIn (-2) from ⟨by decide, by decide⟩) dX11_fast_20
      · have hyp := (if_neg c5).symm.trans hyp
        refine jr_aload_n (pc := 21) C L dX11_fast_21 rfl rfl ?_
        obtain ⟨v6, hv6, hyp⟩ := jbind hyp
        refine jr_getR (pc := 22) C S lf_X11_44 rfl hv6 dX11_fast_22 ?_
        refine jr_aload_n (pc := 25) C L dX11_fast_25 rfl rfl ?_
        obtain ⟨v7, hv7, hyp⟩ := jbind hyp
        refine jr_getR (pc := 26) C S lf_X11_10 rfl hv7 dX11_fast_26 ?_
        refine jr_iload_n (pc := 29) C L dX11_fast_29 rfl rfl ?_
        obtain ⟨u8, hu8, hyp⟩ := jbind hyp
        obtain ⟨q9, hq9, hyp⟩ := jbind hyp
        refine jr_callV_R (pc := 30) C S L (As := [jI x1]) (rest := [jR B v6.toNat]) (c_X1_textOf (m0 := m) h_x1 hq9) mv_X1_textOf ml_X11_113 rfl (jck_spec hu8) (by decide) rfl rfl rfl (by simp [jR_cat, jI_cat]) ⟨Nat.le_refl 0, Nat.le_refl 0⟩ dX11_fast_30 (fun p10 H locs S => ?_)
        obtain ⟨u11, hu11, hyp⟩ := jbind hyp
        obtain ⟨q12, hq12, hyp⟩ := jbind hyp
        refine jr_callV_N (pc := 33) C S L (As := [jR B q9]) (rest := []) (c_X8_holdFast  hq12) mv_X8_holdFast ml_X11_201 rfl (jck_spec hu11) (by decide) rfl rfl rfl (Nat.le_of_ble_eq_true rfl) ⟨Nat.le_refl 0, Nat.le_refl 0⟩ dX11_fast_33 (fun p13 H locs S => ?_)
        refine jr_iload_n (pc := 36) C L dX11_fast_36 rfl rfl ?_
        refine jr_if_ne (pc := 37) C h_x2 (tgt := 50) dX11_fast_37 (by decide) (fun c14 => ?_) (fun c14 => ?_)
        · have hyp := (if_pos c14).symm.trans hyp
          refine jr_aload_n (pc := 40) C L dX11_fast_40 rfl rfl ?_
          obtain ⟨v15, hv15, hyp⟩ := jbind hyp
          refine jr_getR (pc := 41) C S lf_X11_44 rfl hv15 dX11_fast_41 ?_
          obtain ⟨v16, hv16, hyp⟩ := jbind hyp
          have iv16 := jrf_in S hv16
          refine jr_getI (pc := 44) C S lf_X11_204 rfl hv16 dX11_fast_44 ?_
          refine jr_goto (pc := 47) C (tgt := 57) dX11_fast_47 (by decide) ?_
          cases hyp
          exact jr_iret C S iv16 dX11_fast_57
        · have hyp := (if_neg c14).symm.trans hyp
          refine jr_aload_n (pc := 50) C L dX11_fast_50 rfl rfl ?_
          obtain ⟨v17, hv17, hyp⟩ := jbind hyp
          refine jr_getR (pc := 51) C S lf_X11_44 rfl hv17 dX11_fast_51 ?_
          obtain ⟨v18, hv18, hyp⟩ := jbind hyp
          have iv18 := jrf_in S hv18
          refine jr_getI (pc := 54) C S lf_X11_207 rfl hv18 dX11_fast_54 ?_
          cases hyp
          exact jr_iret C S iv18 dX11_fast_57
theorem c_X11_fast {l : Launch} {D : va_G} {cy : Nat → ClassId} {B sz : Nat} {sh : jm_S} {res : (Int × jm_M)} {N : Nat} {m : jm_M} {a0 : Nat} {x1 : Int} (h_x1 : jIn x1) {x2 : Int} (h_x2 : jIn x2) (hyp : f_X11_fast N sh a0 x1 x2 m = some res) : jCt l D cy B sz sh 30 yX11_fast cX11_fast 3 (some .int) [jR B a0, jI x1, jI x2] m (some (jI res.1)) res.2 (jIn res.1) :=
  jc_of (by decide) (fun v h => by simp only [List.mem_cons, List.not_mem_nil, or_false] at h; rcases h with rfl | rfl | rfl <;> first | rfl | exact jR_cat _ _) (Nat.le_of_ble_eq_true rfl) (fun C S L => t_X11_fast_e C  h_x1 h_x2 S L hyp)
set_option maxHeartbeats 4000000 in
set_option maxRecDepth 100000 in
theorem t_X11_crowd_e {p : Program} {l : Launch} {e : Env} {s : State} {mi : MethodId} {args : Array Value} {below : List Frame} {meth : Method} {c : Code} {D : va_G} {cy : Nat → ClassId} {B sz : Nat} {sh : jm_S} {res : Int} {m0 : jm_M} (C : jCx p s mi args meth c cX11_crowd 2 RX11 (some .int) D cy) {a0 : Nat} {x1 : Int} (h_x1 : jIn x1) {H : Heap} {locs : List Loc} {ls : Array Slot} (S : jHs D cy B sz sh (jA B sz) s.heap H locs m0) (L : jL ls [some (jR B a0), some (jI x1)]) (hyp : f_X11_crowd sh a0 x1 m0 = some res) : W p l e (jrm 1 0 0) s mi args below meth c H locs 0 0 (MQ below (jQc D cy B sz sh m0 (some (jI res)) (jIn res)) args s 0 0 (jA B sz)) (F0 mi 0 ls []) := by
  unfold f_X11_crowd at hyp
  refine jr_iload_n (pc := 0) C L dX11_crowd_0 rfl rfl ?_
  obtain ⟨q1, hq1, hyp⟩ := jbind hyp
  refine jr_callS_I (pc := 1) C S L (As := [jI x1]) (rest := []) (c_X11_isProgram (m0 := m0) h_x1 hq1) ms_X11_isProgram ml_X11_110 (by decide) rfl rfl rfl (Nat.le_of_ble_eq_true rfl) ⟨Nat.le_refl 0, Nat.le_refl 0⟩ dX11_crowd_1 (fun p2 H locs S => ?_)
  refine jr_if_eq (pc := 4) C p2 (tgt := 21) dX11_crowd_4 (by decide) (fun c3 => ?_) (fun c3 => ?_)
  · have hyp := (if_pos c3).symm.trans hyp
    refine jr_iconst (pc := 21) C dX11_crowd_21 ?_
    cases hyp
    exact jr_iret C S (show jIn (-1) from ⟨by decide, by decide⟩) dX11_crowd_22
  · have hyp := (if_neg c3).symm.trans hyp
    refine jr_aload_n (pc := 7) C L dX11_crowd_7 rfl rfl ?_
    obtain ⟨v4, hv4, hyp⟩ := jbind hyp
    refine jr_getR (pc := 8) C S lf_X11_10 rfl hv4 dX11_crowd_8 ?_
    refine jr_iload_n (pc := 11) C L dX11_crowd_11 rfl rfl ?_
    obtain ⟨u5, hu5, hyp⟩ := jbind hyp
    obtain ⟨q6, hq6, hyp⟩ := jbind hyp
    refine jr_callV_R (pc := 12) C S L (As := [jI x1]) (rest := []) (c_X1_textOf (m0 := m0) h_x1 hq6) mv_X1_textOf ml_X11_113 rfl (jck_spec hu5) (by decide) rfl rfl rfl (Nat.le_of_ble_eq_true rfl) ⟨Nat.le_refl 0, Nat.le_refl 0⟩ dX11_crowd_12 (fun p7 H locs S => ?_)
    obtain ⟨u8, hu8, hyp⟩ := jbind hyp
    obtain ⟨q9, hq9, hyp⟩ := jbind hyp
    refine jr_callV_I (pc := 15) C S L (As := []) (rest := []) (c_X10_allLines (m0 := m0)  hq9) mv_X10_allLines ml_X11_210 rfl (jck_spec hu8) (by decide) rfl rfl rfl (Nat.le_of_ble_eq_true rfl) ⟨Nat.le_refl 0, Nat.le_refl 0⟩ dX11_crowd_15 (fun p10 H locs S => ?_)
    refine jr_goto (pc := 18) C (tgt := 22) dX11_crowd_18 (by decide) ?_
    cases hyp
    exact jr_iret C S p10 dX11_crowd_22
theorem c_X11_crowd {l : Launch} {D : va_G} {cy : Nat → ClassId} {B sz : Nat} {sh : jm_S} {res : Int} {m0 : jm_M} {a0 : Nat} {x1 : Int} (h_x1 : jIn x1) (hyp : f_X11_crowd sh a0 x1 m0 = some res) : jCt l D cy B sz sh 1 yX11_crowd cX11_crowd 2 (some .int) [jR B a0, jI x1] m0 (some (jI res)) m0 (jIn res) :=
  jc_of (by decide) (fun v h => by simp only [List.mem_cons, List.not_mem_nil, or_false] at h; rcases h with rfl | rfl <;> first | rfl | exact jR_cat _ _) (Nat.le_of_ble_eq_true rfl) (fun C S L => t_X11_crowd_e C  h_x1 S L hyp)
