set_option maxHeartbeats 4000000 in
set_option maxRecDepth 100000 in
theorem t_X11_period_e {p : Program} {l : Launch} {e : Env} {s : State} {mi : MethodId} {args : Array Value} {below : List Frame} {meth : Method} {c : Code} {D : va_G} {cy : Nat → ClassId} {B sz : Nat} {sh : jm_S} {res : (Int × jm_M)} (C : jCx p s mi args meth c cX11_period 4 RX11 (some .int) D cy) {a0 : Nat} {x1 : Int} (h_x1 : jIn x1) {x2 : Int} (h_x2 : jIn x2) {m : jm_M} {H : Heap} {locs : List Loc} {ls : Array Slot} (S : jHs D cy B sz sh (jA B sz) s.heap H locs m) (L : jL ls [some (jR B a0), some (jI x1), some (jI x2), none]) (hyp : f_X11_period sh a0 x1 x2 m = some res) : W p l e (jrm 1 0 0) s mi args below meth c H locs 0 0 (MQ below (jQc D cy B sz sh res.2 (some (jI res.1)) (jIn res.1)) args s 0 0 (jA B sz)) (F0 mi 0 ls []) := by
  unfold f_X11_period at hyp
  refine jr_iload_n (pc := 0) C L dX11_period_0 rfl rfl ?_
  obtain ⟨q1, hq1, hyp⟩ := jbind hyp
  refine jr_callS_I (pc := 1) C S L (As := [jI x1]) (rest := []) (c_X11_isProgram (m0 := m) h_x1 hq1) ms_X11_isProgram ml_X11_110 (by decide) rfl rfl rfl (Nat.le_of_ble_eq_true rfl) ⟨Nat.le_refl 0, Nat.le_refl 0⟩ dX11_period_1 (fun p2 H locs S => ?_)
  refine jr_if_ne (pc := 4) C p2 (tgt := 9) dX11_period_4 (by decide) (fun c3 => ?_) (fun c3 => ?_)
  · have hyp := (if_pos c3).symm.trans hyp
    refine jr_iconst (pc := 7) C dX11_period_7 ?_
    cases hyp
    exact jr_iret C S (show jIn (-1) from ⟨by decide, by decide⟩) dX11_period_8
  · have hyp := (if_neg c3).symm.trans hyp
    refine jr_iload_n (pc := 9) C L dX11_period_9 rfl rfl ?_
    refine jr_if_lt (pc := 10) C h_x2 (tgt := 20) dX11_period_10 (by decide) (fun c4 => ?_) (fun c4 => ?_)
    · have hyp := (if_pos c4).symm.trans hyp
      refine jr_bipush (pc := 20) C dX11_period_20 (by decide) ?_
      cases hyp
      exact jr_iret C S (show jIn (-2) from ⟨by decide, by decide⟩) dX11_period_22
    · have hyp := (if_neg c4).symm.trans hyp
      refine jr_iload_n (pc := 13) C L dX11_period_13 rfl rfl ?_
      refine jr_sipush (pc := 14) C dX11_period_14 (by decide) ?_
      refine jr_icmp_le (pc := 17) C h_x2 (show jIn 9999 from ⟨by decide, by decide⟩) (tgt := 23) dX11_period_17 (by decide) (fun c5 => ?_) (fun c5 => ?_)
      · have hyp := (if_pos c5).symm.trans hyp
        refine jr_bipush (pc := 20) C dX11_period_20 (by decide) ?_
        cases hyp
        exact jr_iret C S (show jIn (-2) from ⟨by decide, by decide⟩) dX11_period_22
      · have hyp := (if_neg c5).symm.trans hyp
        refine jr_aload_n (pc := 23) C L dX11_period_23 rfl rfl ?_
        obtain ⟨v6, hv6, hyp⟩ := jbind hyp
        refine jr_getR (pc := 24) C S lf_X11_10 rfl hv6 dX11_period_24 ?_
        refine jr_iload_n (pc := 27) C L dX11_period_27 rfl rfl ?_
        obtain ⟨u7, hu7, hyp⟩ := jbind hyp
        obtain ⟨q8, hq8, hyp⟩ := jbind hyp
        refine jr_callV_I (pc := 28) C S L (As := [jI x1]) (rest := []) (c_X1_periodOf (m0 := m) h_x1 hq8) mv_X1_periodOf ml_X11_213 rfl (jck_spec hu7) (by decide) rfl rfl rfl (Nat.le_of_ble_eq_true rfl) ⟨Nat.le_refl 0, Nat.le_refl 0⟩ dX11_period_28 (fun p9 H locs S => ?_)
        refine jr_istore_n (pc := 31) C L dX11_period_31 rfl (Nat.le_of_ble_eq_true rfl) (fun ls L => ?_)
        have L : jL ls [some (jR B a0), some (jI x1), some (jI x2), some (jI q8)] := L
        refine jr_aload_n (pc := 32) C L dX11_period_32 rfl rfl ?_
        obtain ⟨v10, hv10, hyp⟩ := jbind hyp
        refine jr_getR (pc := 33) C S lf_X11_10 rfl hv10 dX11_period_33 ?_
        refine jr_iload_n (pc := 36) C L dX11_period_36 rfl rfl ?_
        refine jr_iload_n (pc := 37) C L dX11_period_37 rfl rfl ?_
        obtain ⟨u11, hu11, hyp⟩ := jbind hyp
        obtain ⟨q12, hq12, hyp⟩ := jbind hyp
        refine jr_callV_N (pc := 38) C S L (As := [jI x1, jI x2]) (rest := []) (c_X1_setPeriod h_x1 h_x2 hq12) mv_X1_setPeriod ml_X11_216 rfl (jck_spec hu11) (by decide) rfl rfl rfl (Nat.le_of_ble_eq_true rfl) ⟨Nat.le_refl 0, Nat.le_refl 0⟩ dX11_period_38 (fun p13 H locs S => ?_)
        refine jr_iload_n (pc := 41) C L dX11_period_41 rfl rfl ?_
        cases hyp
        exact jr_iret C S p9 dX11_period_42
theorem c_X11_period {l : Launch} {D : va_G} {cy : Nat → ClassId} {B sz : Nat} {sh : jm_S} {res : (Int × jm_M)} {m : jm_M} {a0 : Nat} {x1 : Int} (h_x1 : jIn x1) {x2 : Int} (h_x2 : jIn x2) (hyp : f_X11_period sh a0 x1 x2 m = some res) : jCt l D cy B sz sh 1 yX11_period cX11_period 4 (some .int) [jR B a0, jI x1, jI x2] m (some (jI res.1)) res.2 (jIn res.1) :=
  jc_of (by decide) (fun v h => by simp only [List.mem_cons, List.not_mem_nil, or_false] at h; rcases h with rfl | rfl | rfl <;> first | rfl | exact jR_cat _ _) (Nat.le_of_ble_eq_true rfl) (fun C S L => t_X11_period_e C  h_x1 h_x2 S L hyp)
set_option maxHeartbeats 4000000 in
set_option maxRecDepth 100000 in
theorem t_X11_breaks_e {p : Program} {l : Launch} {e : Env} {s : State} {mi : MethodId} {args : Array Value} {below : List Frame} {meth : Method} {c : Code} {D : va_G} {cy : Nat → ClassId} {B sz : Nat} {sh : jm_S} {res : Int} {N : Nat} {m0 : jm_M} (C : jCx p s mi args meth c cX11_breaks 3 RX11 (some .int) D cy) {a0 : Nat} {x1 : Int} (h_x1 : jIn x1) {x2 : Int} (h_x2 : jIn x2) {H : Heap} {locs : List Loc} {ls : Array Slot} (S : jHs D cy B sz sh (jA B sz) s.heap H locs m0) (L : jL ls [some (jR B a0), some (jI x1), some (jI x2)]) (hyp : f_X11_breaks N sh a0 x1 x2 m0 = some res) : W p l e (jrm 2 0 0) s mi args below meth c H locs 0 0 (MQ below (jQc D cy B sz sh m0 (some (jI res)) (jIn res)) args s 0 0 (jA B sz)) (F0 mi 0 ls []) := by
  unfold f_X11_breaks at hyp
  refine jr_iload_n (pc := 0) C L dX11_breaks_0 rfl rfl ?_
  obtain ⟨q1, hq1, hyp⟩ := jbind hyp
  refine jr_callS_I (pc := 1) C S L (As := [jI x1]) (rest := []) (c_X11_isProgram (m0 := m0) h_x1 hq1) ms_X11_isProgram ml_X11_110 (by decide) rfl rfl rfl (Nat.le_of_ble_eq_true rfl) ⟨Nat.le_refl 0, Nat.le_refl 0⟩ dX11_breaks_1 (fun p2 H locs S => ?_)
  refine jr_if_eq (pc := 4) C p2 (tgt := 19) dX11_breaks_4 (by decide) (fun c3 => ?_) (fun c3 => ?_)
  · have hyp := (if_pos c3).symm.trans hyp
    refine jr_iconst (pc := 19) C dX11_breaks_19 ?_
    cases hyp
    exact jr_iret C S (show jIn (-1) from ⟨by decide, by decide⟩) dX11_breaks_20
  · have hyp := (if_neg c3).symm.trans hyp
    refine jr_iload_n (pc := 7) C L dX11_breaks_7 rfl rfl ?_
    obtain ⟨q4, hq4, hyp⟩ := jbind hyp
    refine jr_callS_I (pc := 8) C S L (As := [jI x2]) (rest := []) (c_X11_isProgram (m0 := m0) h_x2 hq4) ms_X11_isProgram ml_X11_110 (by decide) rfl rfl rfl (Nat.le_of_ble_eq_true rfl) ⟨Nat.le_refl 0, Nat.le_refl 0⟩ dX11_breaks_8 (fun p5 H locs S => ?_)
    refine jr_if_eq (pc := 11) C p5 (tgt := 19) dX11_breaks_11 (by decide) (fun c6 => ?_) (fun c6 => ?_)
    · have hyp := (if_pos c6).symm.trans hyp
      refine jr_iconst (pc := 19) C dX11_breaks_19 ?_
      cases hyp
      exact jr_iret C S (show jIn (-1) from ⟨by decide, by decide⟩) dX11_breaks_20
    · have hyp := (if_neg c6).symm.trans hyp
      refine jr_iload_n (pc := 14) C L dX11_breaks_14 rfl rfl ?_
      refine jr_iload_n (pc := 15) C L dX11_breaks_15 rfl rfl ?_
      refine jr_icmp_gt (pc := 16) C h_x2 h_x1 (tgt := 21) dX11_breaks_16 (by decide) (fun c7 => ?_) (fun c7 => ?_)
      · have hyp := (if_pos c7).symm.trans hyp
        refine jr_aload_n (pc := 21) C L dX11_breaks_21 rfl rfl ?_
        obtain ⟨v8, hv8, hyp⟩ := jbind hyp
        refine jr_getR (pc := 22) C S lf_X11_10 rfl hv8 dX11_breaks_22 ?_
        refine jr_iload_n (pc := 25) C L dX11_breaks_25 rfl rfl ?_
        obtain ⟨u9, hu9, hyp⟩ := jbind hyp
        obtain ⟨q10, hq10, hyp⟩ := jbind hyp
        refine jr_callV_I (pc := 26) C S L (As := [jI x1]) (rest := []) (c_X1_isTask (m0 := m0) h_x1 hq10) mv_X1_isTask ml_X11_219 rfl (jck_spec hu9) (by decide) rfl rfl rfl (Nat.le_of_ble_eq_true rfl) ⟨Nat.le_refl 0, Nat.le_refl 0⟩ dX11_breaks_26 (fun p11 H locs S => ?_)
        refine jr_if_eq (pc := 29) C p11 (tgt := 43) dX11_breaks_29 (by decide) (fun c12 => ?_) (fun c12 => ?_)
        · have hyp := (if_pos c12).symm.trans hyp
          refine jr_bipush (pc := 43) C dX11_breaks_43 (by decide) ?_
          cases hyp
          exact jr_iret C S (show jIn (-3) from ⟨by decide, by decide⟩) dX11_breaks_45
        · have hyp := (if_neg c12).symm.trans hyp
          refine jr_aload_n (pc := 32) C L dX11_breaks_32 rfl rfl ?_
          obtain ⟨v13, hv13, hyp⟩ := jbind hyp
          refine jr_getR (pc := 33) C S lf_X11_10 rfl hv13 dX11_breaks_33 ?_
          refine jr_iload_n (pc := 36) C L dX11_breaks_36 rfl rfl ?_
          obtain ⟨u14, hu14, hyp⟩ := jbind hyp
          obtain ⟨q15, hq15, hyp⟩ := jbind hyp
          refine jr_callV_I (pc := 37) C S L (As := [jI x2]) (rest := []) (c_X1_isTask (m0 := m0) h_x2 hq15) mv_X1_isTask ml_X11_219 rfl (jck_spec hu14) (by decide) rfl rfl rfl (Nat.le_of_ble_eq_true rfl) ⟨Nat.le_refl 0, Nat.le_refl 0⟩ dX11_breaks_37 (fun p16 H locs S => ?_)
          refine jr_if_ne (pc := 40) C p16 (tgt := 46) dX11_breaks_40 (by decide) (fun c17 => ?_) (fun c17 => ?_)
          · have hyp := (if_pos c17).symm.trans hyp
            refine jr_bipush (pc := 43) C dX11_breaks_43 (by decide) ?_
            cases hyp
            exact jr_iret C S (show jIn (-3) from ⟨by decide, by decide⟩) dX11_breaks_45
          · have hyp := (if_neg c17).symm.trans hyp
            refine jr_aload_n (pc := 46) C L dX11_breaks_46 rfl rfl ?_
            obtain ⟨v18, hv18, hyp⟩ := jbind hyp
            refine jr_getR (pc := 47) C S lf_X11_78 rfl hv18 dX11_breaks_47 ?_
            refine jr_iload_n (pc := 50) C L dX11_breaks_50 rfl rfl ?_
            refine jr_iload_n (pc := 51) C L dX11_breaks_51 rfl rfl ?_
            refine jr_aload_n (pc := 52) C L dX11_breaks_52 rfl rfl ?_
            obtain ⟨v19, hv19, hyp⟩ := jbind hyp
            refine jr_getR (pc := 53) C S lf_X11_10 rfl hv19 dX11_breaks_53 ?_
            refine jr_iconst (pc := 56) C dX11_breaks_56 ?_
            obtain ⟨u20, hu20, hyp⟩ := jbind hyp
            obtain ⟨q21, hq21, hyp⟩ := jbind hyp
            refine jr_callV_I (pc := 57) C S L (As := [jI 2]) (rest := [jI x2, jI x1, jR B v18.toNat]) (c_X1_setting (m0 := m0) (show jIn 2 from ⟨by decide, by decide⟩) hq21) mv_X1_setting ml_X11_86 rfl (jck_spec hu20) (by decide) rfl rfl rfl (by simp [jR_cat, jI_cat]) ⟨Nat.le_refl 0, Nat.le_refl 0⟩ dX11_breaks_57 (fun p22 H locs S => ?_)
            obtain ⟨u23, hu23, hyp⟩ := jbind hyp
            obtain ⟨q24, hq24, hyp⟩ := jbind hyp
            refine jr_callV_I (pc := 60) C S L (As := [jI x1, jI x2, jI q21]) (rest := []) (c_X9_breakCost (m0 := m0) h_x1 h_x2 p22 hq24) mv_X9_breakCost ml_X11_222 rfl (jck_spec hu23) (by decide) rfl rfl rfl (Nat.le_of_ble_eq_true rfl) ⟨Nat.le_refl 0, Nat.le_refl 0⟩ dX11_breaks_60 (fun p25 H locs S => ?_)
            cases hyp
            exact jr_iret C S p25 dX11_breaks_63
      · have hyp := (if_neg c7).symm.trans hyp
        refine jr_iconst (pc := 19) C dX11_breaks_19 ?_
        cases hyp
        exact jr_iret C S (show jIn (-1) from ⟨by decide, by decide⟩) dX11_breaks_20
theorem c_X11_breaks {l : Launch} {D : va_G} {cy : Nat → ClassId} {B sz : Nat} {sh : jm_S} {res : Int} {N : Nat} {m0 : jm_M} {a0 : Nat} {x1 : Int} (h_x1 : jIn x1) {x2 : Int} (h_x2 : jIn x2) (hyp : f_X11_breaks N sh a0 x1 x2 m0 = some res) : jCt l D cy B sz sh 2 yX11_breaks cX11_breaks 3 (some .int) [jR B a0, jI x1, jI x2] m0 (some (jI res)) m0 (jIn res) :=
  jc_of (by decide) (fun v h => by simp only [List.mem_cons, List.not_mem_nil, or_false] at h; rcases h with rfl | rfl | rfl <;> first | rfl | exact jR_cat _ _) (Nat.le_of_ble_eq_true rfl) (fun C S L => t_X11_breaks_e C  h_x1 h_x2 S L hyp)
set_option maxHeartbeats 4000000 in
set_option maxRecDepth 100000 in
theorem t_X11_done_e {p : Program} {l : Launch} {e : Env} {s : State} {mi : MethodId} {args : Array Value} {below : List Frame} {meth : Method} {c : Code} {D : va_G} {cy : Nat → ClassId} {B sz : Nat} {sh : jm_S} {res : (Int × jm_M)} {N : Nat} (C : jCx p s mi args meth c cX11_done 2 RX11 (some .int) D cy) {a0 : Nat} {x1 : Int} (h_x1 : jIn x1) {m : jm_M} {H : Heap} {locs : List Loc} {ls : Array Slot} (S : jHs D cy B sz sh (jA B sz) s.heap H locs m) (L : jL ls [some (jR B a0), some (jI x1)]) (hyp : f_X11_done N sh a0 x1 m = some res) : W p l e (jrm 30 0 0) s mi args below meth c H locs 0 0 (MQ below (jQc D cy B sz sh res.2 (some (jI res.1)) (jIn res.1)) args s 0 0 (jA B sz)) (F0 mi 0 ls []) := by
  unfold f_X11_done at hyp
  refine jr_iload_n (pc := 0) C L dX11_done_0 rfl rfl ?_
  obtain ⟨q1, hq1, hyp⟩ := jbind hyp
  refine jr_callS_I (pc := 1) C S L (As := [jI x1]) (rest := []) (c_X11_isProgram (m0 := m) h_x1 hq1) ms_X11_isProgram ml_X11_110 (by decide) rfl rfl rfl (Nat.le_of_ble_eq_true rfl) ⟨Nat.le_refl 0, Nat.le_refl 0⟩ dX11_done_1 (fun p2 H locs S => ?_)
  refine jr_if_ne (pc := 4) C p2 (tgt := 9) dX11_done_4 (by decide) (fun c3 => ?_) (fun c3 => ?_)
  · have hyp := (if_pos c3).symm.trans hyp
    refine jr_iconst (pc := 7) C dX11_done_7 ?_
    cases hyp
    exact jr_iret C S (show jIn (-1) from ⟨by decide, by decide⟩) dX11_done_8
  · have hyp := (if_neg c3).symm.trans hyp
    refine jr_aload_n (pc := 9) C L dX11_done_9 rfl rfl ?_
    obtain ⟨v4, hv4, hyp⟩ := jbind hyp
    refine jr_getR (pc := 10) C S lf_X11_10 rfl hv4 dX11_done_10 ?_
    refine jr_iload_n (pc := 13) C L dX11_done_13 rfl rfl ?_
    obtain ⟨u5, hu5, hyp⟩ := jbind hyp
    obtain ⟨q6, hq6, hyp⟩ := jbind hyp
    refine jr_callV_I (pc := 14) C S L (As := [jI x1]) (rest := []) (c_X1_isTask (m0 := m) h_x1 hq6) mv_X1_isTask ml_X11_219 rfl (jck_spec hu5) (by decide) rfl rfl rfl (Nat.le_of_ble_eq_true rfl) ⟨Nat.le_refl 0, Nat.le_refl 0⟩ dX11_done_14 (fun p7 H locs S => ?_)
    refine jr_if_ne (pc := 17) C p7 (tgt := 23) dX11_done_17 (by decide) (fun c8 => ?_) (fun c8 => ?_)
    · have hyp := (if_pos c8).symm.trans hyp
      refine jr_bipush (pc := 20) C dX11_done_20 (by decide) ?_
      cases hyp
      exact jr_iret C S (show jIn (-3) from ⟨by decide, by decide⟩) dX11_done_22
    · have hyp := (if_neg c8).symm.trans hyp
      refine jr_aload_n (pc := 23) C L dX11_done_23 rfl rfl ?_
      obtain ⟨v9, hv9, hyp⟩ := jbind hyp
      refine jr_getR (pc := 24) C S lf_X11_78 rfl hv9 dX11_done_24 ?_
      refine jr_aload_n (pc := 27) C L dX11_done_27 rfl rfl ?_
      obtain ⟨v10, hv10, hyp⟩ := jbind hyp
      refine jr_getR (pc := 28) C S lf_X11_10 rfl hv10 dX11_done_28 ?_
      refine jr_iconst (pc := 31) C dX11_done_31 ?_
      obtain ⟨u11, hu11, hyp⟩ := jbind hyp
      obtain ⟨q12, hq12, hyp⟩ := jbind hyp
      refine jr_callV_I (pc := 32) C S L (As := [jI 2]) (rest := [jR B v9.toNat]) (c_X1_setting (m0 := m) (show jIn 2 from ⟨by decide, by decide⟩) hq12) mv_X1_setting ml_X11_86 rfl (jck_spec hu11) (by decide) rfl rfl rfl (by simp [jR_cat, jI_cat]) ⟨Nat.le_refl 0, Nat.le_refl 0⟩ dX11_done_32 (fun p13 H locs S => ?_)
      obtain ⟨u14, hu14, hyp⟩ := jbind hyp
      obtain ⟨q15, hq15, hyp⟩ := jbind hyp
      refine jr_callV_N (pc := 35) C S L (As := [jI q12]) (rest := []) (c_X9_weigh p13 hq15) mv_X9_weigh ml_X11_226 rfl (jck_spec hu14) (by decide) rfl rfl rfl (Nat.le_of_ble_eq_true rfl) ⟨Nat.le_refl 0, Nat.le_refl 0⟩ dX11_done_35 (fun p16 H locs S => ?_)
      refine jr_aload_n (pc := 38) C L dX11_done_38 rfl rfl ?_
      obtain ⟨v17, hv17, hyp⟩ := jbind hyp
      refine jr_getR (pc := 39) C S lf_X11_78 rfl hv17 dX11_done_39 ?_
      refine jr_iload_n (pc := 42) C L dX11_done_42 rfl rfl ?_
      obtain ⟨u18, hu18, hyp⟩ := jbind hyp
      obtain ⟨q19, hq19, hyp⟩ := jbind hyp
      refine jr_callV_I (pc := 43) C S L (As := [jI x1]) (rest := []) (c_X9_timeOf (m0 := q15) h_x1 hq19) mv_X9_timeOf ml_X11_230 rfl (jck_spec hu18) (by decide) rfl rfl rfl (Nat.le_of_ble_eq_true rfl) ⟨Nat.le_refl 0, Nat.le_refl 0⟩ dX11_done_43 (fun p20 H locs S => ?_)
      cases hyp
      exact jr_iret C S p20 dX11_done_46
theorem c_X11_done {l : Launch} {D : va_G} {cy : Nat → ClassId} {B sz : Nat} {sh : jm_S} {res : (Int × jm_M)} {N : Nat} {m : jm_M} {a0 : Nat} {x1 : Int} (h_x1 : jIn x1) (hyp : f_X11_done N sh a0 x1 m = some res) : jCt l D cy B sz sh 30 yX11_done cX11_done 2 (some .int) [jR B a0, jI x1] m (some (jI res.1)) res.2 (jIn res.1) :=
  jc_of (by decide) (fun v h => by simp only [List.mem_cons, List.not_mem_nil, or_false] at h; rcases h with rfl | rfl <;> first | rfl | exact jR_cat _ _) (Nat.le_of_ble_eq_true rfl) (fun C S L => t_X11_done_e C  h_x1 S L hyp)
set_option maxHeartbeats 4000000 in
set_option maxRecDepth 100000 in
theorem t_X11_late_e {p : Program} {l : Launch} {e : Env} {s : State} {mi : MethodId} {args : Array Value} {below : List Frame} {meth : Method} {c : Code} {D : va_G} {cy : Nat → ClassId} {B sz : Nat} {sh : jm_S} {res : (Int × jm_M)} {N : Nat} (C : jCx p s mi args meth c cX11_late 2 RX11 (some .int) D cy) {a0 : Nat} {x1 : Int} (h_x1 : jIn x1) {m : jm_M} {H : Heap} {locs : List Loc} {ls : Array Slot} (S : jHs D cy B sz sh (jA B sz) s.heap H locs m) (L : jL ls [some (jR B a0), some (jI x1)]) (hyp : f_X11_late N sh a0 x1 m = some res) : W p l e (jrm 31 0 0) s mi args below meth c H locs 0 0 (MQ below (jQc D cy B sz sh res.2 (some (jI res.1)) (jIn res.1)) args s 0 0 (jA B sz)) (F0 mi 0 ls []) := by
  unfold f_X11_late at hyp
  refine jr_iload_n (pc := 0) C L dX11_late_0 rfl rfl ?_
  by_cases c1 : (0 : Int) = x1
  · have hyp := (if_pos c1).symm.trans hyp
    refine jr_lookup (pc := 1) C h_x1 (off := 27) (tgt := 28) dX11_late_1 rfl (if_pos c1) (by decide) ?_
    refine jr_aload_n (pc := 28) C L dX11_late_28 rfl rfl ?_
    obtain ⟨v2, hv2, hyp⟩ := jbind hyp
    refine jr_getR (pc := 29) C S lf_X11_78 rfl hv2 dX11_late_29 ?_
    refine jr_aload_n (pc := 32) C L dX11_late_32 rfl rfl ?_
    obtain ⟨v3, hv3, hyp⟩ := jbind hyp
    refine jr_getR (pc := 33) C S lf_X11_10 rfl hv3 dX11_late_33 ?_
    refine jr_iconst (pc := 36) C dX11_late_36 ?_
    obtain ⟨u4, hu4, hyp⟩ := jbind hyp
    obtain ⟨q5, hq5, hyp⟩ := jbind hyp
    refine jr_callV_I (pc := 37) C S L (As := [jI 2]) (rest := [jR B v2.toNat]) (c_X1_setting (m0 := m) (show jIn 2 from ⟨by decide, by decide⟩) hq5) mv_X1_setting ml_X11_86 rfl (jck_spec hu4) (by decide) rfl rfl rfl (by simp [jR_cat, jI_cat]) ⟨Nat.le_refl 0, Nat.le_refl 0⟩ dX11_late_37 (fun p6 H locs S => ?_)
    obtain ⟨u7, hu7, hyp⟩ := jbind hyp
    obtain ⟨q8, hq8, hyp⟩ := jbind hyp
    refine jr_callV_N (pc := 40) C S L (As := [jI q5]) (rest := []) (c_X9_weigh p6 hq8) mv_X9_weigh ml_X11_226 rfl (jck_spec hu7) (by decide) rfl rfl rfl (Nat.le_of_ble_eq_true rfl) ⟨Nat.le_refl 0, Nat.le_refl 0⟩ dX11_late_40 (fun p9 H locs S => ?_)
    refine jr_aload_n (pc := 43) C L dX11_late_43 rfl rfl ?_
    obtain ⟨v10, hv10, hyp⟩ := jbind hyp
    refine jr_getR (pc := 44) C S lf_X11_78 rfl hv10 dX11_late_44 ?_
    obtain ⟨u11, hu11, hyp⟩ := jbind hyp
    obtain ⟨q12, hq12, hyp⟩ := jbind hyp
    refine jr_callV_I (pc := 47) C S L (As := []) (rest := []) (c_X9_lateOnes (m0 := q8)  hq12) mv_X9_lateOnes ml_X11_233 rfl (jck_spec hu11) (by decide) rfl rfl rfl (Nat.le_of_ble_eq_true rfl) ⟨Nat.le_refl 0, Nat.le_refl 0⟩ dX11_late_47 (fun p13 H locs S => ?_)
    cases hyp
    exact jr_iret C S p13 dX11_late_50
  have hyp := (if_neg c1).symm.trans hyp
  by_cases c14 : (1 : Int) = x1
  · have hyp := (if_pos c14).symm.trans hyp
    refine jr_lookup (pc := 1) C h_x1 (off := 50) (tgt := 51) dX11_late_1 rfl ((if_neg c1).trans (if_pos c14)) (by decide) ?_
    refine jr_aload_n (pc := 51) C L dX11_late_51 rfl rfl ?_
    obtain ⟨v15, hv15, hyp⟩ := jbind hyp
    refine jr_getR (pc := 52) C S lf_X11_78 rfl hv15 dX11_late_52 ?_
    obtain ⟨u16, hu16, hyp⟩ := jbind hyp
    obtain ⟨q17, hq17, hyp⟩ := jbind hyp
    refine jr_callV_I (pc := 55) C S L (As := []) (rest := []) (c_X9_greatestMiss  hq17) mv_X9_greatestMiss ml_X11_236 rfl (jck_spec hu16) (by decide) rfl rfl rfl (Nat.le_of_ble_eq_true rfl) ⟨Nat.le_refl 0, Nat.le_refl 0⟩ dX11_late_55 (fun p18 H locs S => ?_)
    cases hyp
    exact jr_iret C S p18 dX11_late_58
  have hyp := (if_neg c14).symm.trans hyp
  refine jr_lookup (pc := 1) C h_x1 (off := 58) (tgt := 59) dX11_late_1 rfl ((if_neg c1).trans ((if_neg c14).trans rfl)) (by decide) ?_
  refine jr_bipush (pc := 59) C dX11_late_59 (by decide) ?_
  cases hyp
  exact jr_iret C S (show jIn (-2) from ⟨by decide, by decide⟩) dX11_late_61
theorem c_X11_late {l : Launch} {D : va_G} {cy : Nat → ClassId} {B sz : Nat} {sh : jm_S} {res : (Int × jm_M)} {N : Nat} {m : jm_M} {a0 : Nat} {x1 : Int} (h_x1 : jIn x1) (hyp : f_X11_late N sh a0 x1 m = some res) : jCt l D cy B sz sh 31 yX11_late cX11_late 2 (some .int) [jR B a0, jI x1] m (some (jI res.1)) res.2 (jIn res.1) :=
  jc_of (by decide) (fun v h => by simp only [List.mem_cons, List.not_mem_nil, or_false] at h; rcases h with rfl | rfl <;> first | rfl | exact jR_cat _ _) (Nat.le_of_ble_eq_true rfl) (fun C S L => t_X11_late_e C  h_x1 S L hyp)
set_option maxHeartbeats 4000000 in
set_option maxRecDepth 100000 in
theorem t_X11_imageOf_e {p : Program} {l : Launch} {e : Env} {s : State} {mi : MethodId} {args : Array Value} {below : List Frame} {meth : Method} {c : Code} {D : va_G} {cy : Nat → ClassId} {B sz : Nat} {sh : jm_S} {res : Nat} {m0 : jm_M} (C : jCx p s mi args meth c cX11_imageOf 2 RX11 (some (.object "LongestRuns$Board")) D cy) {a0 : Nat} {x1 : Int} (h_x1 : jIn x1) {H : Heap} {locs : List Loc} {ls : Array Slot} (S : jHs D cy B sz sh (jA B sz) s.heap H locs m0) (L : jL ls [some (jR B a0), some (jI x1)]) (hyp : f_X11_imageOf sh a0 x1 m0 = some res) : W p l e (jrm 0 0 0) s mi args below meth c H locs 0 0 (MQ below (jQc D cy B sz sh m0 (some (jR B res)) True) args s 0 0 (jA B sz)) (F0 mi 0 ls []) := by
  unfold f_X11_imageOf at hyp
  refine jr_iload_n (pc := 0) C L dX11_imageOf_0 rfl rfl ?_
  refine jr_if_ne (pc := 1) C h_x1 (tgt := 11) dX11_imageOf_1 (by decide) (fun c1 => ?_) (fun c1 => ?_)
  · have hyp := (if_pos c1).symm.trans hyp
    refine jr_aload_n (pc := 4) C L dX11_imageOf_4 rfl rfl ?_
    obtain ⟨v2, hv2, hyp⟩ := jbind hyp
    refine jr_getR (pc := 5) C S lf_X11_16 rfl hv2 dX11_imageOf_5 ?_
    refine jr_goto (pc := 8) C (tgt := 15) dX11_imageOf_8 (by decide) ?_
    cases hyp
    exact jr_aret C (by first | exact Or.inl ⟨_, rfl⟩ | exact Or.inr ⟨_, rfl⟩) S trivial dX11_imageOf_15
  · have hyp := (if_neg c1).symm.trans hyp
    refine jr_aload_n (pc := 11) C L dX11_imageOf_11 rfl rfl ?_
    obtain ⟨v3, hv3, hyp⟩ := jbind hyp
    refine jr_getR (pc := 12) C S lf_X11_19 rfl hv3 dX11_imageOf_12 ?_
    cases hyp
    exact jr_aret C (by first | exact Or.inl ⟨_, rfl⟩ | exact Or.inr ⟨_, rfl⟩) S trivial dX11_imageOf_15
theorem c_X11_imageOf {l : Launch} {D : va_G} {cy : Nat → ClassId} {B sz : Nat} {sh : jm_S} {res : Nat} {m0 : jm_M} {a0 : Nat} {x1 : Int} (h_x1 : jIn x1) (hyp : f_X11_imageOf sh a0 x1 m0 = some res) : jCt l D cy B sz sh 0 yX11_imageOf cX11_imageOf 2 (some (.object "LongestRuns$Board")) [jR B a0, jI x1] m0 (some (jR B res)) m0 True :=
  jc_of (by decide) (fun v h => by simp only [List.mem_cons, List.not_mem_nil, or_false] at h; rcases h with rfl | rfl <;> first | rfl | exact jR_cat _ _) (Nat.le_of_ble_eq_true rfl) (fun C S L => t_X11_imageOf_e C  h_x1 S L hyp)
set_option maxHeartbeats 4000000 in
set_option maxRecDepth 100000 in
theorem t_X11_image_e {p : Program} {l : Launch} {e : Env} {s : State} {mi : MethodId} {args : Array Value} {below : List Frame} {meth : Method} {c : Code} {D : va_G} {cy : Nat → ClassId} {B sz : Nat} {sh : jm_S} {res : (Int × jm_M)} {N : Nat} (C : jCx p s mi args meth c cX11_image 3 RX11 (some .int) D cy) {a0 : Nat} {x1 : Int} (h_x1 : jIn x1) {m : jm_M} {H : Heap} {locs : List Loc} {ls : Array Slot} (S : jHs D cy B sz sh (jA B sz) s.heap H locs m) (L : jL ls [some (jR B a0), some (jI x1), none]) (hyp : f_X11_image N sh a0 x1 m = some res) : W p l e (jrm 4 0 0) s mi args below meth c H locs 0 0 (MQ below (jQc D cy B sz sh res.2 (some (jI res.1)) (jIn res.1)) args s 0 0 (jA B sz)) (F0 mi 0 ls []) := by
  unfold f_X11_image at hyp
  refine jr_iload_n (pc := 0) C L dX11_image_0 rfl rfl ?_
  refine jr_if_lt (pc := 1) C h_x1 (tgt := 9) dX11_image_1 (by decide) (fun c1 => ?_) (fun c1 => ?_)
  · have hyp := (if_pos c1).symm.trans hyp
    refine jr_bipush (pc := 9) C dX11_image_9 (by decide) ?_
    cases hyp
    exact jr_iret C S (show jIn (-2) from ⟨by decide, by decide⟩) dX11_image_11
  · have hyp := (if_neg c1).symm.trans hyp
    refine jr_iload_n (pc := 4) C L dX11_image_4 rfl rfl ?_
    refine jr_iconst (pc := 5) C dX11_image_5 ?_
    refine jr_icmp_le (pc := 6) C h_x1 (show jIn 1 from ⟨by decide, by decide⟩) (tgt := 12) dX11_image_6 (by decide) (fun c2 => ?_) (fun c2 => ?_)
    · have hyp := (if_pos c2).symm.trans hyp
      refine jr_bipush (pc := 9) C dX11_image_9 (by decide) ?_
      cases hyp
      exact jr_iret C S (show jIn (-2) from ⟨by decide, by decide⟩) dX11_image_11
    · have hyp := (if_neg c2).symm.trans hyp
      refine jr_aload_n (pc := 12) C L dX11_image_12 rfl rfl ?_
      refine jr_iload_n (pc := 13) C L dX11_image_13 rfl rfl ?_
      obtain ⟨u3, hu3, hyp⟩ := jbind hyp
      obtain ⟨q4, hq4, hyp⟩ := jbind hyp
      refine jr_callV_R (pc := 14) C S L (As := [jI x1]) (rest := []) (c_X11_imageOf (m0 := m) h_x1 hq4) mv_X11_imageOf ml_X11_239 rfl (jck_spec hu3) (by decide) rfl rfl rfl (Nat.le_of_ble_eq_true rfl) ⟨Nat.le_refl 0, Nat.le_refl 0⟩ dX11_image_14 (fun p5 H locs S => ?_)
      refine jr_astore_n (pc := 17) C L dX11_image_17 rfl (Nat.le_of_ble_eq_true rfl) (fun ls L => ?_)
      have L : jL ls [some (jR B a0), some (jI x1), some (jR B q4)] := L
      refine jr_aload_n (pc := 18) C L dX11_image_18 rfl rfl ?_
      refine jr_aload_n (pc := 19) C L dX11_image_19 rfl rfl ?_
      obtain ⟨v6, hv6, hyp⟩ := jbind hyp
      refine jr_getR (pc := 20) C S lf_X11_10 rfl hv6 dX11_image_20 ?_
      obtain ⟨u7, hu7, hyp⟩ := jbind hyp
      obtain ⟨q8, hq8, hyp⟩ := jbind hyp
      refine jr_callV_N (pc := 23) C S L (As := [jR B v6.toNat]) (rest := []) (c_X1_copyFrom  hq8) mv_X1_copyFrom ml_X11_243 rfl (jck_spec hu7) (by decide) rfl rfl rfl (Nat.le_of_ble_eq_true rfl) ⟨Nat.le_refl 0, Nat.le_refl 0⟩ dX11_image_23 (fun p9 H locs S => ?_)
      refine jr_aload_n (pc := 26) C L dX11_image_26 rfl rfl ?_
      refine jr_iconst (pc := 27) C dX11_image_27 ?_
      obtain ⟨z11, hz11, hyp⟩ := jbind hyp
      obtain ⟨m10, hm10, hyp⟩ := jbind hyp
      refine jr_putZ (pc := 28) C S lf_X11_246 fp_X1_1 rfl hz11 hm10 dX11_image_28 (fun H locs S => ?_)
      refine jr_iconst (pc := 31) C dX11_image_31 ?_
      cases hyp
      exact jr_iret C S (show jIn 1 from ⟨by decide, by decide⟩) dX11_image_32
theorem c_X11_image {l : Launch} {D : va_G} {cy : Nat → ClassId} {B sz : Nat} {sh : jm_S} {res : (Int × jm_M)} {N : Nat} {m : jm_M} {a0 : Nat} {x1 : Int} (h_x1 : jIn x1) (hyp : f_X11_image N sh a0 x1 m = some res) : jCt l D cy B sz sh 4 yX11_image cX11_image 3 (some .int) [jR B a0, jI x1] m (some (jI res.1)) res.2 (jIn res.1) :=
  jc_of (by decide) (fun v h => by simp only [List.mem_cons, List.not_mem_nil, or_false] at h; rcases h with rfl | rfl <;> first | rfl | exact jR_cat _ _) (Nat.le_of_ble_eq_true rfl) (fun C S L => t_X11_image_e C  h_x1 S L hyp)
set_option maxHeartbeats 4000000 in
set_option maxRecDepth 100000 in
theorem t_X11_restore_e {p : Program} {l : Launch} {e : Env} {s : State} {mi : MethodId} {args : Array Value} {below : List Frame} {meth : Method} {c : Code} {D : va_G} {cy : Nat → ClassId} {B sz : Nat} {sh : jm_S} {res : (Int × jm_M)} {N : Nat} (C : jCx p s mi args meth c cX11_restore 3 RX11 (some .int) D cy) {a0 : Nat} {x1 : Int} (h_x1 : jIn x1) {m : jm_M} {H : Heap} {locs : List Loc} {ls : Array Slot} (S : jHs D cy B sz sh (jA B sz) s.heap H locs m) (L : jL ls [some (jR B a0), some (jI x1), none]) (hyp : f_X11_restore N sh a0 x1 m = some res) : W p l e (jrm 4 0 0) s mi args below meth c H locs 0 0 (MQ below (jQc D cy B sz sh res.2 (some (jI res.1)) (jIn res.1)) args s 0 0 (jA B sz)) (F0 mi 0 ls []) := by
  unfold f_X11_restore at hyp
  refine jr_iload_n (pc := 0) C L dX11_restore_0 rfl rfl ?_
  refine jr_if_lt (pc := 1) C h_x1 (tgt := 9) dX11_restore_1 (by decide) (fun c1 => ?_) (fun c1 => ?_)
  · have hyp := (if_pos c1).symm.trans hyp
    refine jr_bipush (pc := 9) C dX11_restore_9 (by decide) ?_
    cases hyp
    exact jr_iret C S (show jIn (-2) from ⟨by decide, by decide⟩) dX11_restore_11
  · have hyp := (if_neg c1).symm.trans hyp
    refine jr_iload_n (pc := 4) C L dX11_restore_4 rfl rfl ?_
    refine jr_iconst (pc := 5) C dX11_restore_5 ?_
    refine jr_icmp_le (pc := 6) C h_x1 (show jIn 1 from ⟨by decide, by decide⟩) (tgt := 12) dX11_restore_6 (by decide) (fun c2 => ?_) (fun c2 => ?_)
    · have hyp := (if_pos c2).symm.trans hyp
      refine jr_bipush (pc := 9) C dX11_restore_9 (by decide) ?_
      cases hyp
      exact jr_iret C S (show jIn (-2) from ⟨by decide, by decide⟩) dX11_restore_11
    · have hyp := (if_neg c2).symm.trans hyp
      refine jr_aload_n (pc := 12) C L dX11_restore_12 rfl rfl ?_
      refine jr_iload_n (pc := 13) C L dX11_restore_13 rfl rfl ?_
      obtain ⟨u3, hu3, hyp⟩ := jbind hyp
      obtain ⟨q4, hq4, hyp⟩ := jbind hyp
      refine jr_callV_R (pc := 14) C S L (As := [jI x1]) (rest := []) (c_X11_imageOf (m0 := m) h_x1 hq4) mv_X11_imageOf ml_X11_239 rfl (jck_spec hu3) (by decide) rfl rfl rfl (Nat.le_of_ble_eq_true rfl) ⟨Nat.le_refl 0, Nat.le_refl 0⟩ dX11_restore_14 (fun p5 H locs S => ?_)
      refine jr_astore_n (pc := 17) C L dX11_restore_17 rfl (Nat.le_of_ble_eq_true rfl) (fun ls L => ?_)
      have L : jL ls [some (jR B a0), some (jI x1), some (jR B q4)] := L
      refine jr_aload_n (pc := 18) C L dX11_restore_18 rfl rfl ?_
      obtain ⟨v6, hv6, hyp⟩ := jbind hyp
      have iv6 := jrf_in S hv6
      refine jr_getI (pc := 19) C S lf_X11_246 rfl hv6 dX11_restore_19 ?_
      refine jr_if_ne (pc := 22) C iv6 (tgt := 28) dX11_restore_22 (by decide) (fun c7 => ?_) (fun c7 => ?_)
      · have hyp := (if_pos c7).symm.trans hyp
        refine jr_bipush (pc := 25) C dX11_restore_25 (by decide) ?_
        cases hyp
        exact jr_iret C S (show jIn (-3) from ⟨by decide, by decide⟩) dX11_restore_27
      · have hyp := (if_neg c7).symm.trans hyp
        refine jr_aload_n (pc := 28) C L dX11_restore_28 rfl rfl ?_
        obtain ⟨v8, hv8, hyp⟩ := jbind hyp
        refine jr_getR (pc := 29) C S lf_X11_10 rfl hv8 dX11_restore_29 ?_
        refine jr_aload_n (pc := 32) C L dX11_restore_32 rfl rfl ?_
        obtain ⟨u9, hu9, hyp⟩ := jbind hyp
        obtain ⟨q10, hq10, hyp⟩ := jbind hyp
        refine jr_callV_N (pc := 33) C S L (As := [jR B q4]) (rest := []) (c_X1_copyFrom  hq10) mv_X1_copyFrom ml_X11_243 rfl (jck_spec hu9) (by decide) rfl rfl rfl (Nat.le_of_ble_eq_true rfl) ⟨Nat.le_refl 0, Nat.le_refl 0⟩ dX11_restore_33 (fun p11 H locs S => ?_)
        refine jr_iconst (pc := 36) C dX11_restore_36 ?_
        cases hyp
        exact jr_iret C S (show jIn 1 from ⟨by decide, by decide⟩) dX11_restore_37
theorem c_X11_restore {l : Launch} {D : va_G} {cy : Nat → ClassId} {B sz : Nat} {sh : jm_S} {res : (Int × jm_M)} {N : Nat} {m : jm_M} {a0 : Nat} {x1 : Int} (h_x1 : jIn x1) (hyp : f_X11_restore N sh a0 x1 m = some res) : jCt l D cy B sz sh 4 yX11_restore cX11_restore 3 (some .int) [jR B a0, jI x1] m (some (jI res.1)) res.2 (jIn res.1) :=
  jc_of (by decide) (fun v h => by simp only [List.mem_cons, List.not_mem_nil, or_false] at h; rcases h with rfl | rfl <;> first | rfl | exact jR_cat _ _) (Nat.le_of_ble_eq_true rfl) (fun C S L => t_X11_restore_e C  h_x1 S L hyp)
set_option maxHeartbeats 4000000 in
set_option maxRecDepth 100000 in
theorem t_X11_told_b46 {p : Program} {l : Launch} {e : Env} {s : State} {mi : MethodId} {args : Array Value} {below : List Frame} {meth : Method} {c : Code} {D : va_G} {cy : Nat → ClassId} {B sz : Nat} {sh : jm_S} {res : Int} {m0 : jm_M} (C : jCx p s mi args meth c cX11_told 2 RX11 (some .int) D cy) {a0 : Nat} {x1 : Int} (h_x1 : jIn x1) {H : Heap} {locs : List Loc} {ls : Array Slot} (S : jHs D cy B sz sh (jA B sz) s.heap H locs m0) (L : jL ls [some (jR B a0), some (jI x1)]) (hyp : f_X11_told_b46 sh a0 x1 m0 = some res) : W p l e (jrm 1 0 0) s mi args below meth c H locs 0 0 (MQ below (jQc D cy B sz sh m0 (some (jI res)) (jIn res)) args s 0 0 (jA B sz)) (F0 mi 46 ls []) := by
  unfold f_X11_told_b46 at hyp
  refine jr_iload_n (pc := 46) C L dX11_told_46 rfl rfl ?_
  refine jr_bipush (pc := 47) C dX11_told_47 (by decide) ?_
  refine jr_isub (pc := 49) C dX11_told_49 ?_
  obtain ⟨q1, hq1, hyp⟩ := jbind hyp
  refine jr_callS_I (pc := 50) C S L (As := [jI (jw (x1 - 10))]) (rest := []) (c_X11_isProgram (m0 := m0) (jIn_w _) hq1) ms_X11_isProgram ml_X11_110 (by decide) rfl rfl rfl (Nat.le_of_ble_eq_true rfl) ⟨Nat.le_refl 0, Nat.le_refl 0⟩ dX11_told_50 (fun p2 H locs S => ?_)
  refine jr_if_eq (pc := 53) C p2 (tgt := 68) dX11_told_53 (by decide) (fun c3 => ?_) (fun c3 => ?_)
  · have hyp := (if_pos c3).symm.trans hyp
    refine jr_iload_n (pc := 68) C L dX11_told_68 rfl rfl ?_
    refine jr_bipush (pc := 69) C dX11_told_69 (by decide) ?_
    refine jr_isub (pc := 71) C dX11_told_71 ?_
    obtain ⟨q4, hq4, hyp⟩ := jbind hyp
    refine jr_callS_I (pc := 72) C S L (As := [jI (jw (x1 - 20))]) (rest := []) (c_X11_isProgram (m0 := m0) (jIn_w _) hq4) ms_X11_isProgram ml_X11_110 (by decide) rfl rfl rfl (Nat.le_of_ble_eq_true rfl) ⟨Nat.le_refl 0, Nat.le_refl 0⟩ dX11_told_72 (fun p5 H locs S => ?_)
    refine jr_if_eq (pc := 75) C p5 (tgt := 93) dX11_told_75 (by decide) (fun c6 => ?_) (fun c6 => ?_)
    · have hyp := (if_pos c6).symm.trans hyp
      refine jr_bipush (pc := 93) C dX11_told_93 (by decide) ?_
      cases hyp
      exact jr_iret C S (show jIn (-2) from ⟨by decide, by decide⟩) dX11_told_95
    · have hyp := (if_neg c6).symm.trans hyp
      refine jr_aload_n (pc := 78) C L dX11_told_78 rfl rfl ?_
      obtain ⟨v7, hv7, hyp⟩ := jbind hyp
      refine jr_getR (pc := 79) C S lf_X11_10 rfl hv7 dX11_told_79 ?_
      refine jr_iload_n (pc := 82) C L dX11_told_82 rfl rfl ?_
      refine jr_bipush (pc := 83) C dX11_told_83 (by decide) ?_
      refine jr_isub (pc := 85) C dX11_told_85 ?_
      obtain ⟨u8, hu8, hyp⟩ := jbind hyp
      obtain ⟨q9, hq9, hyp⟩ := jbind hyp
      refine jr_callV_R (pc := 86) C S L (As := [jI (jw (x1 - 20))]) (rest := []) (c_X1_textOf (m0 := m0) (jIn_w _) hq9) mv_X1_textOf ml_X11_113 rfl (jck_spec hu8) (by decide) rfl rfl rfl (Nat.le_of_ble_eq_true rfl) ⟨Nat.le_refl 0, Nat.le_refl 0⟩ dX11_told_86 (fun p10 H locs S => ?_)
      obtain ⟨v11, hv11, hyp⟩ := jbind hyp
      have iv11 := jrf_in S hv11
      refine jr_getI (pc := 89) C S lf_X11_127 rfl hv11 dX11_told_89 ?_
      cases hyp
      exact jr_iret C S iv11 dX11_told_92
  · have hyp := (if_neg c3).symm.trans hyp
    refine jr_aload_n (pc := 56) C L dX11_told_56 rfl rfl ?_
    obtain ⟨v12, hv12, hyp⟩ := jbind hyp
    refine jr_getR (pc := 57) C S lf_X11_10 rfl hv12 dX11_told_57 ?_
    refine jr_iload_n (pc := 60) C L dX11_told_60 rfl rfl ?_
    refine jr_bipush (pc := 61) C dX11_told_61 (by decide) ?_
    refine jr_isub (pc := 63) C dX11_told_63 ?_
    obtain ⟨u13, hu13, hyp⟩ := jbind hyp
    obtain ⟨q14, hq14, hyp⟩ := jbind hyp
    refine jr_callV_I (pc := 64) C S L (As := [jI (jw (x1 - 10))]) (rest := []) (c_X1_periodOf (m0 := m0) (jIn_w _) hq14) mv_X1_periodOf ml_X11_213 rfl (jck_spec hu13) (by decide) rfl rfl rfl (Nat.le_of_ble_eq_true rfl) ⟨Nat.le_refl 0, Nat.le_refl 0⟩ dX11_told_64 (fun p15 H locs S => ?_)
    cases hyp
    exact jr_iret C S p15 dX11_told_67
set_option maxHeartbeats 4000000 in
set_option maxRecDepth 100000 in
theorem t_X11_told_e {p : Program} {l : Launch} {e : Env} {s : State} {mi : MethodId} {args : Array Value} {below : List Frame} {meth : Method} {c : Code} {D : va_G} {cy : Nat → ClassId} {B sz : Nat} {sh : jm_S} {res : Int} {m0 : jm_M} (C : jCx p s mi args meth c cX11_told 2 RX11 (some .int) D cy) {a0 : Nat} {x1 : Int} (h_x1 : jIn x1) {H : Heap} {locs : List Loc} {ls : Array Slot} (S : jHs D cy B sz sh (jA B sz) s.heap H locs m0) (L : jL ls [some (jR B a0), some (jI x1)]) (hyp : f_X11_told sh a0 x1 m0 = some res) : W p l e (jrm 1 0 0) s mi args below meth c H locs 0 0 (MQ below (jQc D cy B sz sh m0 (some (jI res)) (jIn res)) args s 0 0 (jA B sz)) (F0 mi 0 ls []) := by
  unfold f_X11_told at hyp
  refine jr_iload_n (pc := 0) C L dX11_told_0 rfl rfl ?_
  refine jr_if_ne (pc := 1) C h_x1 (tgt := 12) dX11_told_1 (by decide) (fun c16 => ?_) (fun c16 => ?_)
  · have hyp := (if_pos c16).symm.trans hyp
    refine jr_aload_n (pc := 4) C L dX11_told_4 rfl rfl ?_
    obtain ⟨v17, hv17, hyp⟩ := jbind hyp
    refine jr_getR (pc := 5) C S lf_X11_25 rfl hv17 dX11_told_5 ?_
    obtain ⟨v18, hv18, hyp⟩ := jbind hyp
    have iv18 := jrf_in S hv18
    refine jr_getI (pc := 8) C S lf_X11_102 rfl hv18 dX11_told_8 ?_
    cases hyp
    exact jr_iret C S iv18 dX11_told_11
  · have hyp := (if_neg c16).symm.trans hyp
    refine jr_iload_n (pc := 12) C L dX11_told_12 rfl rfl ?_
    refine jr_iconst (pc := 13) C dX11_told_13 ?_
    refine jr_icmp_ne (pc := 14) C h_x1 (show jIn 1 from ⟨by decide, by decide⟩) (tgt := 25) dX11_told_14 (by decide) (fun c19 => ?_) (fun c19 => ?_)
    · have hyp := (if_pos c19).symm.trans hyp
      refine jr_aload_n (pc := 17) C L dX11_told_17 rfl rfl ?_
      obtain ⟨v20, hv20, hyp⟩ := jbind hyp
      refine jr_getR (pc := 18) C S lf_X11_10 rfl hv20 dX11_told_18 ?_
      obtain ⟨v21, hv21, hyp⟩ := jbind hyp
      have iv21 := jrf_in S hv21
      refine jr_getI (pc := 21) C S lf_X11_140 rfl hv21 dX11_told_21 ?_
      cases hyp
      exact jr_iret C S iv21 dX11_told_24
    · have hyp := (if_neg c19).symm.trans hyp
      refine jr_iload_n (pc := 25) C L dX11_told_25 rfl rfl ?_
      refine jr_iconst (pc := 26) C dX11_told_26 ?_
      refine jr_icmp_lt (pc := 27) C h_x1 (show jIn 2 from ⟨by decide, by decide⟩) (tgt := 46) dX11_told_27 (by decide) (fun c22 => ?_) (fun c22 => ?_)
      · have hyp := (if_pos c22).symm.trans hyp
        exact t_X11_told_b46 C   h_x1 S (L.sub (jsub_s (jsub_s jsub_0))) hyp
      · have hyp := (if_neg c22).symm.trans hyp
        refine jr_iload_n (pc := 30) C L dX11_told_30 rfl rfl ?_
        refine jr_iconst (pc := 31) C dX11_told_31 ?_
        refine jr_icmp_gt (pc := 32) C h_x1 (show jIn 5 from ⟨by decide, by decide⟩) (tgt := 46) dX11_told_32 (by decide) (fun c23 => ?_) (fun c23 => ?_)
        · have hyp := (if_pos c23).symm.trans hyp
          exact t_X11_told_b46 C   h_x1 S (L.sub (jsub_s (jsub_s jsub_0))) hyp
        · have hyp := (if_neg c23).symm.trans hyp
          refine jr_aload_n (pc := 35) C L dX11_told_35 rfl rfl ?_
          obtain ⟨v24, hv24, hyp⟩ := jbind hyp
          refine jr_getR (pc := 36) C S lf_X11_10 rfl hv24 dX11_told_36 ?_
          refine jr_iload_n (pc := 39) C L dX11_told_39 rfl rfl ?_
          refine jr_iconst (pc := 40) C dX11_told_40 ?_
          refine jr_isub (pc := 41) C dX11_told_41 ?_
          obtain ⟨u25, hu25, hyp⟩ := jbind hyp
          obtain ⟨q26, hq26, hyp⟩ := jbind hyp
          refine jr_callV_I (pc := 42) C S L (As := [jI (jw (x1 - 2))]) (rest := []) (c_X1_setting (m0 := m0) (jIn_w _) hq26) mv_X1_setting ml_X11_86 rfl (jck_spec hu25) (by decide) rfl rfl rfl (Nat.le_of_ble_eq_true rfl) ⟨Nat.le_refl 0, Nat.le_refl 0⟩ dX11_told_42 (fun p27 H locs S => ?_)
          cases hyp
          exact jr_iret C S p27 dX11_told_45
theorem c_X11_told {l : Launch} {D : va_G} {cy : Nat → ClassId} {B sz : Nat} {sh : jm_S} {res : Int} {m0 : jm_M} {a0 : Nat} {x1 : Int} (h_x1 : jIn x1) (hyp : f_X11_told sh a0 x1 m0 = some res) : jCt l D cy B sz sh 1 yX11_told cX11_told 2 (some .int) [jR B a0, jI x1] m0 (some (jI res)) m0 (jIn res) :=
  jc_of (by decide) (fun v h => by simp only [List.mem_cons, List.not_mem_nil, or_false] at h; rcases h with rfl | rfl <;> first | rfl | exact jR_cat _ _) (Nat.le_of_ble_eq_true rfl) (fun C S L => t_X11_told_e C  h_x1 S L hyp)
set_option maxHeartbeats 4000000 in
set_option maxRecDepth 100000 in
theorem t_X12_in_e {p : Program} {l : Launch} {e : Env} {s : State} {mi : MethodId} {args : Array Value} {below : List Frame} {meth : Method} {c : Code} {D : va_G} {cy : Nat → ClassId} {B sz : Nat} {sh : jm_S} {res : Int} {m0 : jm_M} (C : jCx p s mi args meth c cX12_in 3 RX12 (some .boolean) D cy) {x0 : Int} (h_x0 : jIn x0) {x1 : Int} (h_x1 : jIn x1) {x2 : Int} (h_x2 : jIn x2) {H : Heap} {locs : List Loc} {ls : Array Slot} (S : jHs D cy B sz sh (jA B sz) s.heap H locs m0) (L : jL ls [some (jI x0), some (jI x1), some (jI x2)]) (hyp : f_X12_in x0 x1 x2 = some res) : W p l e (jrm 0 0 0) s mi args below meth c H locs 0 0 (MQ below (jQc D cy B sz sh m0 (some (jI res)) (jIn res)) args s 0 0 (jA B sz)) (F0 mi 0 ls []) := by
  unfold f_X12_in at hyp
  refine jr_iload_n (pc := 0) C L dX12_in_0 rfl rfl ?_
  refine jr_iload_n (pc := 1) C L dX12_in_1 rfl rfl ?_
  refine jr_icmp_lt (pc := 2) C h_x0 h_x1 (tgt := 14) dX12_in_2 (by decide) (fun c1 => ?_) (fun c1 => ?_)
  · have hyp := (if_pos c1).symm.trans hyp
    refine jr_iconst (pc := 14) C dX12_in_14 ?_
    cases hyp
    exact jr_zret C S (show jIn 0 from ⟨by decide, by decide⟩) rfl dX12_in_15
  · have hyp := (if_neg c1).symm.trans hyp
    refine jr_iload_n (pc := 5) C L dX12_in_5 rfl rfl ?_
    refine jr_iload_n (pc := 6) C L dX12_in_6 rfl rfl ?_
    refine jr_icmp_gt (pc := 7) C h_x0 h_x2 (tgt := 14) dX12_in_7 (by decide) (fun c2 => ?_) (fun c2 => ?_)
    · have hyp := (if_pos c2).symm.trans hyp
      refine jr_iconst (pc := 14) C dX12_in_14 ?_
      cases hyp
      exact jr_zret C S (show jIn 0 from ⟨by decide, by decide⟩) rfl dX12_in_15
    · have hyp := (if_neg c2).symm.trans hyp
      refine jr_iconst (pc := 10) C dX12_in_10 ?_
      refine jr_goto (pc := 11) C (tgt := 15) dX12_in_11 (by decide) ?_
      cases hyp
      exact jr_zret C S (show jIn 1 from ⟨by decide, by decide⟩) rfl dX12_in_15
theorem c_X12_in {l : Launch} {D : va_G} {cy : Nat → ClassId} {B sz : Nat} {sh : jm_S} {res : Int} {m0 : jm_M} {x0 : Int} (h_x0 : jIn x0) {x1 : Int} (h_x1 : jIn x1) {x2 : Int} (h_x2 : jIn x2) (hyp : f_X12_in x0 x1 x2 = some res) : jCt l D cy B sz sh 0 yX12_in cX12_in 3 (some .boolean) [jI x0, jI x1, jI x2] m0 (some (jI res)) m0 (jIn res) :=
  jc_of (by decide) (fun v h => by simp only [List.mem_cons, List.not_mem_nil, or_false] at h; rcases h with rfl | rfl | rfl <;> first | rfl | exact jR_cat _ _) (Nat.le_of_ble_eq_true rfl) (fun C S L => t_X12_in_e C  h_x0 h_x1 h_x2 S L hyp)
set_option maxHeartbeats 4000000 in
set_option maxRecDepth 100000 in
theorem t_X12_isProgram_e {p : Program} {l : Launch} {e : Env} {s : State} {mi : MethodId} {args : Array Value} {below : List Frame} {meth : Method} {c : Code} {D : va_G} {cy : Nat → ClassId} {B sz : Nat} {sh : jm_S} {res : Int} {m0 : jm_M} (C : jCx p s mi args meth c cX12_isProgram 1 RX12 (some .boolean) D cy) {x0 : Int} (h_x0 : jIn x0) {H : Heap} {locs : List Loc} {ls : Array Slot} (S : jHs D cy B sz sh (jA B sz) s.heap H locs m0) (L : jL ls [some (jI x0)]) (hyp : f_X12_isProgram x0 = some res) : W p l e (jrm 1 0 0) s mi args below meth c H locs 0 0 (MQ below (jQc D cy B sz sh m0 (some (jI res)) (jIn res)) args s 0 0 (jA B sz)) (F0 mi 0 ls []) := by
  unfold f_X12_isProgram at hyp
  refine jr_iload_n (pc := 0) C L dX12_isProgram_0 rfl rfl ?_
  refine jr_iconst (pc := 1) C dX12_isProgram_1 ?_
  refine jr_iconst (pc := 2) C dX12_isProgram_2 ?_
  obtain ⟨q1, hq1, hyp⟩ := jbind hyp
  refine jr_callS_I (pc := 3) C S L (As := [jI x0, jI 0, jI 3]) (rest := []) (c_X12_in (m0 := m0) h_x0 (show jIn 0 from ⟨by decide, by decide⟩) (show jIn 3 from ⟨by decide, by decide⟩) hq1) ms_X12_in ml_X12_80 (by decide) rfl rfl rfl (Nat.le_of_ble_eq_true rfl) ⟨Nat.le_refl 0, Nat.le_refl 0⟩ dX12_isProgram_3 (fun p2 H locs S => ?_)
  obtain ⟨z3, hz3, hyp⟩ := jbind hyp
  cases hyp
  exact jr_zret C S (jzb_in hz3) hz3 dX12_isProgram_6
theorem c_X12_isProgram {l : Launch} {D : va_G} {cy : Nat → ClassId} {B sz : Nat} {sh : jm_S} {res : Int} {m0 : jm_M} {x0 : Int} (h_x0 : jIn x0) (hyp : f_X12_isProgram x0 = some res) : jCt l D cy B sz sh 1 yX12_isProgram cX12_isProgram 1 (some .boolean) [jI x0] m0 (some (jI res)) m0 (jIn res) :=
  jc_of (by decide) (fun v h => by rw [List.mem_singleton.mp h]; first | rfl | exact jR_cat _ _) (Nat.le_of_ble_eq_true rfl) (fun C S L => t_X12_isProgram_e C  h_x0 S L hyp)
set_option maxHeartbeats 4000000 in
set_option maxRecDepth 100000 in
theorem t_X12_bits_b4 {p : Program} {l : Launch} {e : Env} {s : State} {mi : MethodId} {args : Array Value} {below : List Frame} {meth : Method} {c : Code} {D : va_G} {cy : Nat → ClassId} {B sz : Nat} {sh : jm_S} {res : Int} {N : Nat} {m0 : jm_M} {k4 : Int → Int → Int → Option Int} (C : jCx p s mi args meth c cX12_bits 3 RX12 (some .int) D cy) (K4 : ∀ (x0 : Int) (x1 : Int) (x2 : Int) , jIn x0 → jIn x1 → jIn x2 → ∀ (H : Heap) (locs : List Loc) (ls : Array Slot), jHs D cy B sz sh (jA B sz) s.heap H locs m0 → jL ls [some (jI x0), some (jI x1), some (jI x2)] → k4 x0 x1 x2 = some res → W p l e (jrm 0 0 0) s mi args below meth c H locs 0 0 (MQ below (jQc D cy B sz sh m0 (some (jI res)) (jIn res)) args s 0 0 (jA B sz)) (F0 mi 4 ls [])) {x0 : Int} (h_x0 : jIn x0) {x1 : Int} (h_x1 : jIn x1) {x2 : Int} (h_x2 : jIn x2) {H : Heap} {locs : List Loc} {ls : Array Slot} (S : jHs D cy B sz sh (jA B sz) s.heap H locs m0) (L : jL ls [some (jI x0), some (jI x1), some (jI x2)]) (hyp : f_X12_bits_b4 N k4 x0 x1 x2 = some res) : W p l e (jrm 0 0 0) s mi args below meth c H locs 0 0 (MQ below (jQc D cy B sz sh m0 (some (jI res)) (jIn res)) args s 0 0 (jA B sz)) (F0 mi 4 ls []) := by
  unfold f_X12_bits_b4 at hyp
  refine jr_iload_n (pc := 4) C L dX12_bits_4 rfl rfl ?_
  refine jr_bipush (pc := 5) C dX12_bits_5 (by decide) ?_
  refine jr_icmp_ge (pc := 7) C h_x2 (show jIn 8 from ⟨by decide, by decide⟩) (tgt := 24) dX12_bits_7 (by decide) (fun c1 => ?_) (fun c1 => ?_)
  · have hyp := (if_pos c1).symm.trans hyp
    refine jr_iload_n (pc := 10) C L dX12_bits_10 rfl rfl ?_
    refine jr_iload_n (pc := 11) C L dX12_bits_11 rfl rfl ?_
    refine jr_iload_n (pc := 12) C L dX12_bits_12 rfl rfl ?_
    refine jr_ishr (pc := 13) C dX12_bits_13 ?_
    refine jr_iconst (pc := 14) C dX12_bits_14 ?_
    refine jr_iand (pc := 15) C dX12_bits_15 ?_
    refine jr_iadd (pc := 16) C dX12_bits_16 ?_
    refine jr_istore_n (pc := 17) C L dX12_bits_17 rfl (Nat.le_of_ble_eq_true rfl) (fun ls L => ?_)
    have L : jL ls [some (jI x0), some (jI (jw (x1 + (jand (jshr x0 x2) 1)))), some (jI x2)] := L
    refine jr_iinc (pc := 18) C L dX12_bits_18 rfl (Nat.le_of_ble_eq_true rfl) (fun ls L => ?_)
    have L : jL ls [some (jI x0), some (jI (jw (x1 + (jand (jshr x0 x2) 1)))), some (jI (jw (x2 + 1)))] := L
    refine jr_goto (pc := 21) C (tgt := 4) dX12_bits_21 (by decide) ?_
    exact K4 x0 (jw (x1 + (jand (jshr x0 x2) 1))) (jw (x2 + 1)) h_x0 (jIn_w _) (jIn_w _)  _ _ _ S (L.sub (jsub_s (jsub_s (jsub_s jsub_0)))) hyp
  · have hyp := (if_neg c1).symm.trans hyp
    refine jr_iload_n (pc := 24) C L dX12_bits_24 rfl rfl ?_
    cases hyp
    exact jr_iret C S h_x1 dX12_bits_25
theorem t_X12_bits_l4 {p : Program} {l : Launch} {e : Env} {s : State} {mi : MethodId} {args : Array Value} {below : List Frame} {meth : Method} {c : Code} {D : va_G} {cy : Nat → ClassId} {B sz : Nat} {sh : jm_S} {res : Int} {N : Nat} {m0 : jm_M} (C : jCx p s mi args meth c cX12_bits 3 RX12 (some .int) D cy) : ∀ (n : Nat) (x0 : Int) (x1 : Int) (x2 : Int), jIn x0 → jIn x1 → jIn x2 → ∀ (H : Heap) (locs : List Loc) (ls : Array Slot), jHs D cy B sz sh (jA B sz) s.heap H locs m0 → jL ls [some (jI x0), some (jI x1), some (jI x2)] → f_X12_bits_l4 N n x0 x1 x2 = some res → W p l e (jrm 0 0 0) s mi args below meth c H locs 0 0 (MQ below (jQc D cy B sz sh m0 (some (jI res)) (jIn res)) args s 0 0 (jA B sz)) (F0 mi 4 ls []) := by
  intro n
  induction n with
  | zero => intro x0 x1 x2 h_x0 h_x1 h_x2 H locs ls S L hyp; cases hyp
  | succ n ih => intro x0 x1 x2 h_x0 h_x1 h_x2 H locs ls S L hyp; exact t_X12_bits_b4 (N := N) C  ih h_x0 h_x1 h_x2 S L hyp
set_option maxHeartbeats 4000000 in
set_option maxRecDepth 100000 in
theorem t_X12_bits_e {p : Program} {l : Launch} {e : Env} {s : State} {mi : MethodId} {args : Array Value} {below : List Frame} {meth : Method} {c : Code} {D : va_G} {cy : Nat → ClassId} {B sz : Nat} {sh : jm_S} {res : Int} {N : Nat} {m0 : jm_M} (C : jCx p s mi args meth c cX12_bits 3 RX12 (some .int) D cy) {x0 : Int} (h_x0 : jIn x0) {H : Heap} {locs : List Loc} {ls : Array Slot} (S : jHs D cy B sz sh (jA B sz) s.heap H locs m0) (L : jL ls [some (jI x0), none, none]) (hyp : f_X12_bits N x0 = some res) : W p l e (jrm 0 0 0) s mi args below meth c H locs 0 0 (MQ below (jQc D cy B sz sh m0 (some (jI res)) (jIn res)) args s 0 0 (jA B sz)) (F0 mi 0 ls []) := by
  unfold f_X12_bits at hyp
  refine jr_iconst (pc := 0) C dX12_bits_0 ?_
  refine jr_istore_n (pc := 1) C L dX12_bits_1 rfl (Nat.le_of_ble_eq_true rfl) (fun ls L => ?_)
  have L : jL ls [some (jI x0), some (jI 0), none] := L
  refine jr_iconst (pc := 2) C dX12_bits_2 ?_
  refine jr_istore_n (pc := 3) C L dX12_bits_3 rfl (Nat.le_of_ble_eq_true rfl) (fun ls L => ?_)
  have L : jL ls [some (jI x0), some (jI 0), some (jI 0)] := L
  exact t_X12_bits_l4 C   N x0 0 0 h_x0 (show jIn 0 from ⟨by decide, by decide⟩) (show jIn 0 from ⟨by decide, by decide⟩)  _ _ _ S (L.sub (jsub_s (jsub_s (jsub_s jsub_0)))) hyp
theorem c_X12_bits {l : Launch} {D : va_G} {cy : Nat → ClassId} {B sz : Nat} {sh : jm_S} {res : Int} {N : Nat} {m0 : jm_M} {x0 : Int} (h_x0 : jIn x0) (hyp : f_X12_bits N x0 = some res) : jCt l D cy B sz sh 0 yX12_bits cX12_bits 3 (some .int) [jI x0] m0 (some (jI res)) m0 (jIn res) :=
  jc_of (by decide) (fun v h => by rw [List.mem_singleton.mp h]; first | rfl | exact jR_cat _ _) (Nat.le_of_ble_eq_true rfl) (fun C S L => t_X12_bits_e C  h_x0 S L hyp)
set_option maxHeartbeats 4000000 in
set_option maxRecDepth 100000 in
theorem t_X12_mayHold_b16 {p : Program} {l : Launch} {e : Env} {s : State} {mi : MethodId} {args : Array Value} {below : List Frame} {meth : Method} {c : Code} {D : va_G} {cy : Nat → ClassId} {B sz : Nat} {sh : jm_S} {res : Int} {N : Nat} {m0 : jm_M} {k3 : Int → Int → Int → Int → Option Int} {k16 : Int → Int → Int → Int → Int → Int → Option Int} (C : jCx p s mi args meth c cX12_mayHold 7 RX12 (some .boolean) D cy) (K3 : ∀ (x1 : Int) (x2 : Int) (x3 : Int) (x4 : Int) , jIn x1 → jIn x2 → jIn x3 → jIn x4 → ∀ (H : Heap) (locs : List Loc) (ls : Array Slot), jHs D cy B sz sh (jA B sz) s.heap H locs m0 → jL ls [none, some (jI x1), some (jI x2), some (jI x3), some (jI x4), none, none] → k3 x1 x2 x3 x4 = some res → W p l e (jrm 0 0 0) s mi args below meth c H locs 0 0 (MQ below (jQc D cy B sz sh m0 (some (jI res)) (jIn res)) args s 0 0 (jA B sz)) (F0 mi 3 ls [])) (K16 : ∀ (x1 : Int) (x2 : Int) (x3 : Int) (x4 : Int) (x5 : Int) (x6 : Int) , jIn x1 → jIn x2 → jIn x3 → jIn x4 → jIn x5 → jIn x6 → ∀ (H : Heap) (locs : List Loc) (ls : Array Slot), jHs D cy B sz sh (jA B sz) s.heap H locs m0 → jL ls [none, some (jI x1), some (jI x2), some (jI x3), some (jI x4), some (jI x5), some (jI x6)] → k16 x1 x2 x3 x4 x5 x6 = some res → W p l e (jrm 0 0 0) s mi args below meth c H locs 0 0 (MQ below (jQc D cy B sz sh m0 (some (jI res)) (jIn res)) args s 0 0 (jA B sz)) (F0 mi 16 ls [])) {x1 : Int} (h_x1 : jIn x1) {x2 : Int} (h_x2 : jIn x2) {x3 : Int} (h_x3 : jIn x3) {x4 : Int} (h_x4 : jIn x4) {x5 : Int} (h_x5 : jIn x5) {x6 : Int} (h_x6 : jIn x6) {H : Heap} {locs : List Loc} {ls : Array Slot} (S : jHs D cy B sz sh (jA B sz) s.heap H locs m0) (L : jL ls [none, some (jI x1), some (jI x2), some (jI x3), some (jI x4), some (jI x5), some (jI x6)]) (hyp : f_X12_mayHold_b16 N k3 k16 x1 x2 x3 x4 x5 x6 = some res) : W p l e (jrm 0 0 0) s mi args below meth c H locs 0 0 (MQ below (jQc D cy B sz sh m0 (some (jI res)) (jIn res)) args s 0 0 (jA B sz)) (F0 mi 16 ls []) := by
  unfold f_X12_mayHold_b16 at hyp
  refine jr_iload (pc := 16) C L dX12_mayHold_16 rfl ?_
  refine jr_bipush (pc := 18) C dX12_mayHold_18 (by decide) ?_
  refine jr_icmp_ge (pc := 20) C h_x6 (show jIn 8 from ⟨by decide, by decide⟩) (tgt := 43) dX12_mayHold_20 (by decide) (fun c1 => ?_) (fun c1 => ?_)
  · have hyp := (if_pos c1).symm.trans hyp
    refine jr_iload (pc := 23) C L dX12_mayHold_23 rfl ?_
    refine jr_iload_n (pc := 25) C L dX12_mayHold_25 rfl rfl ?_
    refine jr_iload (pc := 26) C L dX12_mayHold_26 rfl ?_
    refine jr_ishr (pc := 28) C dX12_mayHold_28 ?_
    refine jr_iconst (pc := 29) C dX12_mayHold_29 ?_
    refine jr_iand (pc := 30) C dX12_mayHold_30 ?_
    refine jr_iadd (pc := 31) C dX12_mayHold_31 ?_
    refine jr_istore (pc := 32) C L dX12_mayHold_32 (Nat.le_of_ble_eq_true rfl) (fun ls L => ?_)
    have L : jL ls [none, some (jI x1), some (jI x2), some (jI x3), some (jI x4), some (jI (jw (x5 + (jand (jshr x3 x6) 1)))), some (jI x6)] := L
    refine jr_iload (pc := 34) C L dX12_mayHold_34 rfl ?_
    refine jr_iload_n (pc := 36) C L dX12_mayHold_36 rfl rfl ?_
    refine jr_iadd (pc := 37) C dX12_mayHold_37 ?_
    refine jr_istore (pc := 38) C L dX12_mayHold_38 (Nat.le_of_ble_eq_true rfl) (fun ls L => ?_)
    have L : jL ls [none, some (jI x1), some (jI x2), some (jI x3), some (jI x4), some (jI (jw (x5 + (jand (jshr x3 x6) 1)))), some (jI (jw (x6 + x1)))] := L
    refine jr_goto (pc := 40) C (tgt := 16) dX12_mayHold_40 (by decide) ?_
    exact K16 x1 x2 x3 x4 (jw (x5 + (jand (jshr x3 x6) 1))) (jw (x6 + x1)) h_x1 h_x2 h_x3 h_x4 (jIn_w _) (jIn_w _)  _ _ _ S (L.sub (jsub_n (jsub_s (jsub_s (jsub_s (jsub_s (jsub_s (jsub_s jsub_0)))))))) hyp
  · have hyp := (if_neg c1).symm.trans hyp
    refine jr_iload (pc := 43) C L dX12_mayHold_43 rfl ?_
    refine jr_iload_n (pc := 45) C L dX12_mayHold_45 rfl rfl ?_
    refine jr_icmp_le (pc := 46) C h_x5 h_x2 (tgt := 51) dX12_mayHold_46 (by decide) (fun c2 => ?_) (fun c2 => ?_)
    · have hyp := (if_pos c2).symm.trans hyp
      refine jr_iconst (pc := 49) C dX12_mayHold_49 ?_
      cases hyp
      exact jr_zret C S (show jIn 0 from ⟨by decide, by decide⟩) rfl dX12_mayHold_50
    · have hyp := (if_neg c2).symm.trans hyp
      refine jr_iinc (pc := 51) C L dX12_mayHold_51 rfl (Nat.le_of_ble_eq_true rfl) (fun ls L => ?_)
      have L : jL ls [none, some (jI x1), some (jI x2), some (jI x3), some (jI (jw (x4 + 1))), some (jI x5), some (jI x6)] := L
      refine jr_goto (pc := 54) C (tgt := 3) dX12_mayHold_54 (by decide) ?_
      exact K3 x1 x2 x3 (jw (x4 + 1)) h_x1 h_x2 h_x3 (jIn_w _)  _ _ _ S (L.sub (jsub_n (jsub_s (jsub_s (jsub_s (jsub_s (jsub_n (jsub_n jsub_0)))))))) hyp
theorem t_X12_mayHold_l16 {p : Program} {l : Launch} {e : Env} {s : State} {mi : MethodId} {args : Array Value} {below : List Frame} {meth : Method} {c : Code} {D : va_G} {cy : Nat → ClassId} {B sz : Nat} {sh : jm_S} {res : Int} {N : Nat} {m0 : jm_M} {k3 : Int → Int → Int → Int → Option Int} (C : jCx p s mi args meth c cX12_mayHold 7 RX12 (some .boolean) D cy) (K3 : ∀ (x1 : Int) (x2 : Int) (x3 : Int) (x4 : Int) , jIn x1 → jIn x2 → jIn x3 → jIn x4 → ∀ (H : Heap) (locs : List Loc) (ls : Array Slot), jHs D cy B sz sh (jA B sz) s.heap H locs m0 → jL ls [none, some (jI x1), some (jI x2), some (jI x3), some (jI x4), none, none] → k3 x1 x2 x3 x4 = some res → W p l e (jrm 0 0 0) s mi args below meth c H locs 0 0 (MQ below (jQc D cy B sz sh m0 (some (jI res)) (jIn res)) args s 0 0 (jA B sz)) (F0 mi 3 ls [])) : ∀ (n : Nat) (x1 : Int) (x2 : Int) (x3 : Int) (x4 : Int) (x5 : Int) (x6 : Int), jIn x1 → jIn x2 → jIn x3 → jIn x4 → jIn x5 → jIn x6 → ∀ (H : Heap) (locs : List Loc) (ls : Array Slot), jHs D cy B sz sh (jA B sz) s.heap H locs m0 → jL ls [none, some (jI x1), some (jI x2), some (jI x3), some (jI x4), some (jI x5), some (jI x6)] → f_X12_mayHold_l16 N k3 n x1 x2 x3 x4 x5 x6 = some res → W p l e (jrm 0 0 0) s mi args below meth c H locs 0 0 (MQ below (jQc D cy B sz sh m0 (some (jI res)) (jIn res)) args s 0 0 (jA B sz)) (F0 mi 16 ls []) := by
  intro n
  induction n with
  | zero => intro x1 x2 x3 x4 x5 x6 h_x1 h_x2 h_x3 h_x4 h_x5 h_x6 H locs ls S L hyp; cases hyp
  | succ n ih => intro x1 x2 x3 x4 x5 x6 h_x1 h_x2 h_x3 h_x4 h_x5 h_x6 H locs ls S L hyp; exact t_X12_mayHold_b16 (N := N) C  K3 ih h_x1 h_x2 h_x3 h_x4 h_x5 h_x6 S L hyp
set_option maxHeartbeats 4000000 in
set_option maxRecDepth 100000 in
theorem t_X12_mayHold_b3 {p : Program} {l : Launch} {e : Env} {s : State} {mi : MethodId} {args : Array Value} {below : List Frame} {meth : Method} {c : Code} {D : va_G} {cy : Nat → ClassId} {B sz : Nat} {sh : jm_S} {res : Int} {N : Nat} {m0 : jm_M} {k3 : Int → Int → Int → Int → Option Int} (C : jCx p s mi args meth c cX12_mayHold 7 RX12 (some .boolean) D cy) (K3 : ∀ (x1 : Int) (x2 : Int) (x3 : Int) (x4 : Int) , jIn x1 → jIn x2 → jIn x3 → jIn x4 → ∀ (H : Heap) (locs : List Loc) (ls : Array Slot), jHs D cy B sz sh (jA B sz) s.heap H locs m0 → jL ls [none, some (jI x1), some (jI x2), some (jI x3), some (jI x4), none, none] → k3 x1 x2 x3 x4 = some res → W p l e (jrm 0 0 0) s mi args below meth c H locs 0 0 (MQ below (jQc D cy B sz sh m0 (some (jI res)) (jIn res)) args s 0 0 (jA B sz)) (F0 mi 3 ls [])) {x1 : Int} (h_x1 : jIn x1) {x2 : Int} (h_x2 : jIn x2) {x3 : Int} (h_x3 : jIn x3) {x4 : Int} (h_x4 : jIn x4) {H : Heap} {locs : List Loc} {ls : Array Slot} (S : jHs D cy B sz sh (jA B sz) s.heap H locs m0) (L : jL ls [none, some (jI x1), some (jI x2), some (jI x3), some (jI x4), none, none]) (hyp : f_X12_mayHold_b3 N k3 x1 x2 x3 x4 = some res) : W p l e (jrm 0 0 0) s mi args below meth c H locs 0 0 (MQ below (jQc D cy B sz sh m0 (some (jI res)) (jIn res)) args s 0 0 (jA B sz)) (F0 mi 3 ls []) := by
  unfold f_X12_mayHold_b3 at hyp
  refine jr_iload (pc := 3) C L dX12_mayHold_3 rfl ?_
  refine jr_iload_n (pc := 5) C L dX12_mayHold_5 rfl rfl ?_
  refine jr_icmp_ge (pc := 6) C h_x4 h_x1 (tgt := 57) dX12_mayHold_6 (by decide) (fun c3 => ?_) (fun c3 => ?_)
  · have hyp := (if_pos c3).symm.trans hyp
    refine jr_iconst (pc := 9) C dX12_mayHold_9 ?_
    refine jr_istore (pc := 10) C L dX12_mayHold_10 (Nat.le_of_ble_eq_true rfl) (fun ls L => ?_)
    have L : jL ls [none, some (jI x1), some (jI x2), some (jI x3), some (jI x4), some (jI 0), none] := L
    refine jr_iload (pc := 12) C L dX12_mayHold_12 rfl ?_
    refine jr_istore (pc := 14) C L dX12_mayHold_14 (Nat.le_of_ble_eq_true rfl) (fun ls L => ?_)
    have L : jL ls [none, some (jI x1), some (jI x2), some (jI x3), some (jI x4), some (jI 0), some (jI x4)] := L
    exact t_X12_mayHold_l16 C  K3 N x1 x2 x3 x4 0 x4 h_x1 h_x2 h_x3 h_x4 (show jIn 0 from ⟨by decide, by decide⟩) h_x4  _ _ _ S (L.sub (jsub_n (jsub_s (jsub_s (jsub_s (jsub_s (jsub_s (jsub_s jsub_0)))))))) hyp
  · have hyp := (if_neg c3).symm.trans hyp
    refine jr_iconst (pc := 57) C dX12_mayHold_57 ?_
    cases hyp
    exact jr_zret C S (show jIn 1 from ⟨by decide, by decide⟩) rfl dX12_mayHold_58
theorem t_X12_mayHold_l3 {p : Program} {l : Launch} {e : Env} {s : State} {mi : MethodId} {args : Array Value} {below : List Frame} {meth : Method} {c : Code} {D : va_G} {cy : Nat → ClassId} {B sz : Nat} {sh : jm_S} {res : Int} {N : Nat} {m0 : jm_M} (C : jCx p s mi args meth c cX12_mayHold 7 RX12 (some .boolean) D cy) : ∀ (n : Nat) (x1 : Int) (x2 : Int) (x3 : Int) (x4 : Int), jIn x1 → jIn x2 → jIn x3 → jIn x4 → ∀ (H : Heap) (locs : List Loc) (ls : Array Slot), jHs D cy B sz sh (jA B sz) s.heap H locs m0 → jL ls [none, some (jI x1), some (jI x2), some (jI x3), some (jI x4), none, none] → f_X12_mayHold_l3 N n x1 x2 x3 x4 = some res → W p l e (jrm 0 0 0) s mi args below meth c H locs 0 0 (MQ below (jQc D cy B sz sh m0 (some (jI res)) (jIn res)) args s 0 0 (jA B sz)) (F0 mi 3 ls []) := by
  intro n
  induction n with
  | zero => intro x1 x2 x3 x4 h_x1 h_x2 h_x3 h_x4 H locs ls S L hyp; cases hyp
  | succ n ih => intro x1 x2 x3 x4 h_x1 h_x2 h_x3 h_x4 H locs ls S L hyp; exact t_X12_mayHold_b3 (N := N) C  ih h_x1 h_x2 h_x3 h_x4 S L hyp
set_option maxHeartbeats 4000000 in
set_option maxRecDepth 100000 in
theorem t_X12_mayHold_e {p : Program} {l : Launch} {e : Env} {s : State} {mi : MethodId} {args : Array Value} {below : List Frame} {meth : Method} {c : Code} {D : va_G} {cy : Nat → ClassId} {B sz : Nat} {sh : jm_S} {res : Int} {N : Nat} {m0 : jm_M} (C : jCx p s mi args meth c cX12_mayHold 7 RX12 (some .boolean) D cy) {a0 : Nat} {x1 : Int} (h_x1 : jIn x1) {x2 : Int} (h_x2 : jIn x2) {x3 : Int} (h_x3 : jIn x3) {H : Heap} {locs : List Loc} {ls : Array Slot} (S : jHs D cy B sz sh (jA B sz) s.heap H locs m0) (L : jL ls [some (jR B a0), some (jI x1), some (jI x2), some (jI x3), none, none, none]) (hyp : f_X12_mayHold N a0 x1 x2 x3 = some res) : W p l e (jrm 0 0 0) s mi args below meth c H locs 0 0 (MQ below (jQc D cy B sz sh m0 (some (jI res)) (jIn res)) args s 0 0 (jA B sz)) (F0 mi 0 ls []) := by
  unfold f_X12_mayHold at hyp
  refine jr_iconst (pc := 0) C dX12_mayHold_0 ?_
  refine jr_istore (pc := 1) C L dX12_mayHold_1 (Nat.le_of_ble_eq_true rfl) (fun ls L => ?_)
  have L : jL ls [some (jR B a0), some (jI x1), some (jI x2), some (jI x3), some (jI 0), none, none] := L
  exact t_X12_mayHold_l3 C   N x1 x2 x3 0 h_x1 h_x2 h_x3 (show jIn 0 from ⟨by decide, by decide⟩)  _ _ _ S (L.sub (jsub_n (jsub_s (jsub_s (jsub_s (jsub_s (jsub_n (jsub_n jsub_0)))))))) hyp
theorem c_X12_mayHold {l : Launch} {D : va_G} {cy : Nat → ClassId} {B sz : Nat} {sh : jm_S} {res : Int} {N : Nat} {m0 : jm_M} {a0 : Nat} {x1 : Int} (h_x1 : jIn x1) {x2 : Int} (h_x2 : jIn x2) {x3 : Int} (h_x3 : jIn x3) (hyp : f_X12_mayHold N a0 x1 x2 x3 = some res) : jCt l D cy B sz sh 0 yX12_mayHold cX12_mayHold 7 (some .boolean) [jR B a0, jI x1, jI x2, jI x3] m0 (some (jI res)) m0 (jIn res) :=
  jc_of (by decide) (fun v h => by simp only [List.mem_cons, List.not_mem_nil, or_false] at h; rcases h with rfl | rfl | rfl | rfl <;> first | rfl | exact jR_cat _ _) (Nat.le_of_ble_eq_true rfl) (fun C S L => t_X12_mayHold_e C  h_x1 h_x2 h_x3 S L hyp)
set_option maxHeartbeats 4000000 in
set_option maxRecDepth 100000 in
theorem t_X12_shelf_b77 {p : Program} {l : Launch} {e : Env} {s : State} {mi : MethodId} {args : Array Value} {below : List Frame} {meth : Method} {c : Code} {D : va_G} {cy : Nat → ClassId} {B sz : Nat} {sh : jm_S} {res : (Int × jm_M)} {N : Nat} (C : jCx p s mi args meth c cX12_shelf 5 RX12 (some .int) D cy) {a0 : Nat} {x1 : Int} (h_x1 : jIn x1) {x2 : Int} (h_x2 : jIn x2) {s0 : Int} (h_s0 : jIn s0) {m : jm_M} {H : Heap} {locs : List Loc} {ls : Array Slot} (S : jHs D cy B sz sh (jA B sz) s.heap H locs m) (L : jL ls [some (jR B a0), some (jI x1), some (jI x2), none, none]) (hyp : f_X12_shelf_b77 N sh a0 x1 x2 s0 m = some res) : W p l e (jrm 1 0 0) s mi args below meth c H locs 0 0 (MQ below (jQc D cy B sz sh res.2 (some (jI res.1)) (jIn res.1)) args s 0 0 (jA B sz)) (F0 mi 77 ls [jI s0]) := by
  unfold f_X12_shelf_b77 at hyp
  refine jr_istore_n (pc := 77) C L dX12_shelf_77 rfl (Nat.le_of_ble_eq_true rfl) (fun ls L => ?_)
  have L : jL ls [some (jR B a0), some (jI x1), some (jI x2), some (jI s0), none] := L
  refine jr_iload_n (pc := 78) C L dX12_shelf_78 rfl rfl ?_
  refine jr_if_ne (pc := 79) C h_s0 (tgt := 85) dX12_shelf_79 (by decide) (fun c1 => ?_) (fun c1 => ?_)
  · have hyp := (if_pos c1).symm.trans hyp
    refine jr_bipush (pc := 82) C dX12_shelf_82 (by decide) ?_
    cases hyp
    exact jr_iret C S (show jIn (-2) from ⟨by decide, by decide⟩) dX12_shelf_84
  · have hyp := (if_neg c1).symm.trans hyp
    refine jr_aload_n (pc := 85) C L dX12_shelf_85 rfl rfl ?_
    obtain ⟨v2, hv2, hyp⟩ := jbind hyp
    refine jr_getR (pc := 86) C S lf_X12_7 rfl hv2 dX12_shelf_86 ?_
    refine jr_iload_n (pc := 89) C L dX12_shelf_89 rfl rfl ?_
    obtain ⟨v3, hv3, hyp⟩ := jbind hyp
    have iv3 := jra_in S hv3
    refine jr_ial (pc := 90) C S h_x1 hv3 dX12_shelf_90 ?_
    refine jr_istore (pc := 91) C L dX12_shelf_91 (Nat.le_of_ble_eq_true rfl) (fun ls L => ?_)
    have L : jL ls [some (jR B a0), some (jI x1), some (jI x2), some (jI s0), some (jI v3)] := L
    refine jr_aload_n (pc := 93) C L dX12_shelf_93 rfl rfl ?_
    obtain ⟨v4, hv4, hyp⟩ := jbind hyp
    refine jr_getR (pc := 94) C S lf_X12_7 rfl hv4 dX12_shelf_94 ?_
    refine jr_iload_n (pc := 97) C L dX12_shelf_97 rfl rfl ?_
    refine jr_iload_n (pc := 98) C L dX12_shelf_98 rfl rfl ?_
    obtain ⟨m5, hm5, hyp⟩ := jbind hyp
    refine jr_ias (pc := 99) C S h_x1 h_x2 hm5 dX12_shelf_99 (fun H locs S => ?_)
    refine jr_aload_n (pc := 100) C L dX12_shelf_100 rfl rfl ?_
    refine jr_aload_n (pc := 101) C L dX12_shelf_101 rfl rfl ?_
    obtain ⟨v6, hv6, hyp⟩ := jbind hyp
    refine jr_getR (pc := 102) C S lf_X12_7 rfl hv6 dX12_shelf_102 ?_
    refine jr_iconst (pc := 105) C dX12_shelf_105 ?_
    obtain ⟨v7, hv7, hyp⟩ := jbind hyp
    have iv7 := jra_in S hv7
    refine jr_ial (pc := 106) C S (show jIn 0 from ⟨by decide, by decide⟩) hv7 dX12_shelf_106 ?_
    refine jr_aload_n (pc := 107) C L dX12_shelf_107 rfl rfl ?_
    obtain ⟨v8, hv8, hyp⟩ := jbind hyp
    refine jr_getR (pc := 108) C S lf_X12_7 rfl hv8 dX12_shelf_108 ?_
    refine jr_iconst (pc := 111) C dX12_shelf_111 ?_
    obtain ⟨v9, hv9, hyp⟩ := jbind hyp
    have iv9 := jra_in S hv9
    refine jr_ial (pc := 112) C S (show jIn 1 from ⟨by decide, by decide⟩) hv9 dX12_shelf_112 ?_
    refine jr_aload_n (pc := 113) C L dX12_shelf_113 rfl rfl ?_
    obtain ⟨v10, hv10, hyp⟩ := jbind hyp
    refine jr_getR (pc := 114) C S lf_X12_7 rfl hv10 dX12_shelf_114 ?_
    refine jr_iconst (pc := 117) C dX12_shelf_117 ?_
    obtain ⟨v11, hv11, hyp⟩ := jbind hyp
    have iv11 := jra_in S hv11
    refine jr_ial (pc := 118) C S (show jIn 3 from ⟨by decide, by decide⟩) hv11 dX12_shelf_118 ?_
    obtain ⟨u12, hu12, hyp⟩ := jbind hyp
    obtain ⟨q13, hq13, hyp⟩ := jbind hyp
    refine jr_callV_I (pc := 119) C S L (As := [jI v7, jI v9, jI v11]) (rest := []) (c_X12_mayHold (m0 := m5) iv7 iv9 iv11 hq13) mv_X12_mayHold ml_X12_84 rfl (jck_spec hu12) (by decide) rfl rfl rfl (Nat.le_of_ble_eq_true rfl) ⟨Nat.le_refl 0, Nat.le_refl 0⟩ dX12_shelf_119 (fun p14 H locs S => ?_)
    refine jr_if_eq (pc := 122) C p14 (tgt := 128) dX12_shelf_122 (by decide) (fun c15 => ?_) (fun c15 => ?_)
    · have hyp := (if_pos c15).symm.trans hyp
      refine jr_aload_n (pc := 128) C L dX12_shelf_128 rfl rfl ?_
      obtain ⟨v16, hv16, hyp⟩ := jbind hyp
      refine jr_getR (pc := 129) C S lf_X12_7 rfl hv16 dX12_shelf_129 ?_
      refine jr_iload_n (pc := 132) C L dX12_shelf_132 rfl rfl ?_
      refine jr_iload (pc := 133) C L dX12_shelf_133 rfl ?_
      obtain ⟨m17, hm17, hyp⟩ := jbind hyp
      refine jr_ias (pc := 135) C S h_x1 iv3 hm17 dX12_shelf_135 (fun H locs S => ?_)
      refine jr_bipush (pc := 136) C dX12_shelf_136 (by decide) ?_
      cases hyp
      exact jr_iret C S (show jIn (-5) from ⟨by decide, by decide⟩) dX12_shelf_138
    · have hyp := (if_neg c15).symm.trans hyp
      refine jr_iload (pc := 125) C L dX12_shelf_125 rfl ?_
      cases hyp
      exact jr_iret C S iv3 dX12_shelf_127
set_option maxHeartbeats 4000000 in
set_option maxRecDepth 100000 in
theorem t_X12_shelf_b76 {p : Program} {l : Launch} {e : Env} {s : State} {mi : MethodId} {args : Array Value} {below : List Frame} {meth : Method} {c : Code} {D : va_G} {cy : Nat → ClassId} {B sz : Nat} {sh : jm_S} {res : (Int × jm_M)} {N : Nat} (C : jCx p s mi args meth c cX12_shelf 5 RX12 (some .int) D cy) {a0 : Nat} {x1 : Int} (h_x1 : jIn x1) {x2 : Int} (h_x2 : jIn x2) {m : jm_M} {H : Heap} {locs : List Loc} {ls : Array Slot} (S : jHs D cy B sz sh (jA B sz) s.heap H locs m) (L : jL ls [some (jR B a0), some (jI x1), some (jI x2), none, none]) (hyp : f_X12_shelf_b76 N sh a0 x1 x2 m = some res) : W p l e (jrm 1 0 0) s mi args below meth c H locs 0 0 (MQ below (jQc D cy B sz sh res.2 (some (jI res.1)) (jIn res.1)) args s 0 0 (jA B sz)) (F0 mi 76 ls []) := by
  unfold f_X12_shelf_b76 at hyp
  refine jr_iconst (pc := 76) C dX12_shelf_76 ?_
  exact t_X12_shelf_b77 C   h_x1 h_x2 (show jIn 0 from ⟨by decide, by decide⟩) S (L.sub (jsub_s (jsub_s (jsub_s (jsub_n (jsub_n jsub_0)))))) hyp
set_option maxHeartbeats 4000000 in
set_option maxRecDepth 100000 in
theorem t_X12_shelf_b19 {p : Program} {l : Launch} {e : Env} {s : State} {mi : MethodId} {args : Array Value} {below : List Frame} {meth : Method} {c : Code} {D : va_G} {cy : Nat → ClassId} {B sz : Nat} {sh : jm_S} {res : (Int × jm_M)} {N : Nat} (C : jCx p s mi args meth c cX12_shelf 5 RX12 (some .int) D cy) {a0 : Nat} {x1 : Int} (h_x1 : jIn x1) {x2 : Int} (h_x2 : jIn x2) {m : jm_M} {H : Heap} {locs : List Loc} {ls : Array Slot} (S : jHs D cy B sz sh (jA B sz) s.heap H locs m) (L : jL ls [some (jR B a0), some (jI x1), some (jI x2), none, none]) (hyp : f_X12_shelf_b19 N sh a0 x1 x2 m = some res) : W p l e (jrm 1 0 0) s mi args below meth c H locs 0 0 (MQ below (jQc D cy B sz sh res.2 (some (jI res.1)) (jIn res.1)) args s 0 0 (jA B sz)) (F0 mi 19 ls []) := by
  unfold f_X12_shelf_b19 at hyp
  refine jr_iconst (pc := 19) C dX12_shelf_19 ?_
  refine jr_goto (pc := 20) C (tgt := 77) dX12_shelf_20 (by decide) ?_
  exact t_X12_shelf_b77 C   h_x1 h_x2 (show jIn 1 from ⟨by decide, by decide⟩) S (L.sub (jsub_s (jsub_s (jsub_s (jsub_n (jsub_n jsub_0)))))) hyp
set_option maxHeartbeats 4000000 in
set_option maxRecDepth 100000 in
theorem t_X12_shelf_e {p : Program} {l : Launch} {e : Env} {s : State} {mi : MethodId} {args : Array Value} {below : List Frame} {meth : Method} {c : Code} {D : va_G} {cy : Nat → ClassId} {B sz : Nat} {sh : jm_S} {res : (Int × jm_M)} {N : Nat} (C : jCx p s mi args meth c cX12_shelf 5 RX12 (some .int) D cy) {a0 : Nat} {x1 : Int} (h_x1 : jIn x1) {x2 : Int} (h_x2 : jIn x2) {m : jm_M} {H : Heap} {locs : List Loc} {ls : Array Slot} (S : jHs D cy B sz sh (jA B sz) s.heap H locs m) (L : jL ls [some (jR B a0), some (jI x1), some (jI x2), none, none]) (hyp : f_X12_shelf N sh a0 x1 x2 m = some res) : W p l e (jrm 1 0 0) s mi args below meth c H locs 0 0 (MQ below (jQc D cy B sz sh res.2 (some (jI res.1)) (jIn res.1)) args s 0 0 (jA B sz)) (F0 mi 0 ls []) := by
  unfold f_X12_shelf at hyp
  refine jr_iload_n (pc := 0) C L dX12_shelf_0 rfl rfl ?_
  refine jr_if_ne (pc := 1) C h_x1 (tgt := 27) dX12_shelf_1 (by decide) (fun c18 => ?_) (fun c18 => ?_)
  · have hyp := (if_pos c18).symm.trans hyp
    refine jr_iload_n (pc := 4) C L dX12_shelf_4 rfl rfl ?_
    refine jr_iconst (pc := 5) C dX12_shelf_5 ?_
    refine jr_icmp_eq (pc := 6) C h_x2 (show jIn 1 from ⟨by decide, by decide⟩) (tgt := 19) dX12_shelf_6 (by decide) (fun c19 => ?_) (fun c19 => ?_)
    · have hyp := (if_pos c19).symm.trans hyp
      exact t_X12_shelf_b19 C   h_x1 h_x2 S (L.sub (jsub_s (jsub_s (jsub_s (jsub_n (jsub_n jsub_0)))))) hyp
    · have hyp := (if_neg c19).symm.trans hyp
      refine jr_iload_n (pc := 9) C L dX12_shelf_9 rfl rfl ?_
      refine jr_iconst (pc := 10) C dX12_shelf_10 ?_
      refine jr_icmp_eq (pc := 11) C h_x2 (show jIn 2 from ⟨by decide, by decide⟩) (tgt := 19) dX12_shelf_11 (by decide) (fun c20 => ?_) (fun c20 => ?_)
      · have hyp := (if_pos c20).symm.trans hyp
        exact t_X12_shelf_b19 C   h_x1 h_x2 S (L.sub (jsub_s (jsub_s (jsub_s (jsub_n (jsub_n jsub_0)))))) hyp
      · have hyp := (if_neg c20).symm.trans hyp
        refine jr_iload_n (pc := 14) C L dX12_shelf_14 rfl rfl ?_
        refine jr_iconst (pc := 15) C dX12_shelf_15 ?_
        refine jr_icmp_ne (pc := 16) C h_x2 (show jIn 4 from ⟨by decide, by decide⟩) (tgt := 23) dX12_shelf_16 (by decide) (fun c21 => ?_) (fun c21 => ?_)
        · have hyp := (if_pos c21).symm.trans hyp
          exact t_X12_shelf_b19 C   h_x1 h_x2 S (L.sub (jsub_s (jsub_s (jsub_s (jsub_n (jsub_n jsub_0)))))) hyp
        · have hyp := (if_neg c21).symm.trans hyp
          refine jr_iconst (pc := 23) C dX12_shelf_23 ?_
          refine jr_goto (pc := 24) C (tgt := 77) dX12_shelf_24 (by decide) ?_
          exact t_X12_shelf_b77 C   h_x1 h_x2 (show jIn 0 from ⟨by decide, by decide⟩) S (L.sub (jsub_s (jsub_s (jsub_s (jsub_n (jsub_n jsub_0)))))) hyp
  · have hyp := (if_neg c18).symm.trans hyp
    refine jr_iload_n (pc := 27) C L dX12_shelf_27 rfl rfl ?_
    refine jr_iconst (pc := 28) C dX12_shelf_28 ?_
    refine jr_icmp_ne (pc := 29) C h_x1 (show jIn 1 from ⟨by decide, by decide⟩) (tgt := 41) dX12_shelf_29 (by decide) (fun c22 => ?_) (fun c22 => ?_)
    · have hyp := (if_pos c22).symm.trans hyp
      refine jr_iload_n (pc := 32) C L dX12_shelf_32 rfl rfl ?_
      refine jr_iconst (pc := 33) C dX12_shelf_33 ?_
      refine jr_iconst (pc := 34) C dX12_shelf_34 ?_
      obtain ⟨q23, hq23, hyp⟩ := jbind hyp
      refine jr_callS_I (pc := 35) C S L (As := [jI x2, jI 1, jI 2]) (rest := []) (c_X12_in (m0 := m) h_x2 (show jIn 1 from ⟨by decide, by decide⟩) (show jIn 2 from ⟨by decide, by decide⟩) hq23) ms_X12_in ml_X12_80 (by decide) rfl rfl rfl (Nat.le_of_ble_eq_true rfl) ⟨Nat.le_refl 0, Nat.le_refl 0⟩ dX12_shelf_35 (fun p24 H locs S => ?_)
      refine jr_goto (pc := 38) C (tgt := 77) dX12_shelf_38 (by decide) ?_
      exact t_X12_shelf_b77 C   h_x1 h_x2 p24 S (L.sub (jsub_s (jsub_s (jsub_s (jsub_n (jsub_n jsub_0)))))) hyp
    · have hyp := (if_neg c22).symm.trans hyp
      refine jr_iload_n (pc := 41) C L dX12_shelf_41 rfl rfl ?_
      refine jr_iconst (pc := 42) C dX12_shelf_42 ?_
      refine jr_icmp_ne (pc := 43) C h_x1 (show jIn 2 from ⟨by decide, by decide⟩) (tgt := 56) dX12_shelf_43 (by decide) (fun c25 => ?_) (fun c25 => ?_)
      · have hyp := (if_pos c25).symm.trans hyp
        refine jr_iload_n (pc := 46) C L dX12_shelf_46 rfl rfl ?_
        refine jr_iconst (pc := 47) C dX12_shelf_47 ?_
        refine jr_bipush (pc := 48) C dX12_shelf_48 (by decide) ?_
        obtain ⟨q26, hq26, hyp⟩ := jbind hyp
        refine jr_callS_I (pc := 50) C S L (As := [jI x2, jI 2, jI 20]) (rest := []) (c_X12_in (m0 := m) h_x2 (show jIn 2 from ⟨by decide, by decide⟩) (show jIn 20 from ⟨by decide, by decide⟩) hq26) ms_X12_in ml_X12_80 (by decide) rfl rfl rfl (Nat.le_of_ble_eq_true rfl) ⟨Nat.le_refl 0, Nat.le_refl 0⟩ dX12_shelf_50 (fun p27 H locs S => ?_)
        refine jr_goto (pc := 53) C (tgt := 77) dX12_shelf_53 (by decide) ?_
        exact t_X12_shelf_b77 C   h_x1 h_x2 p27 S (L.sub (jsub_s (jsub_s (jsub_s (jsub_n (jsub_n jsub_0)))))) hyp
      · have hyp := (if_neg c25).symm.trans hyp
        refine jr_iload_n (pc := 56) C L dX12_shelf_56 rfl rfl ?_
        refine jr_iconst (pc := 57) C dX12_shelf_57 ?_
        refine jr_icmp_ne (pc := 58) C h_x1 (show jIn 3 from ⟨by decide, by decide⟩) (tgt := 76) dX12_shelf_58 (by decide) (fun c28 => ?_) (fun c28 => ?_)
        · have hyp := (if_pos c28).symm.trans hyp
          refine jr_iload_n (pc := 61) C L dX12_shelf_61 rfl rfl ?_
          refine jr_iconst (pc := 62) C dX12_shelf_62 ?_
          refine jr_sipush (pc := 63) C dX12_shelf_63 (by decide) ?_
          obtain ⟨q29, hq29, hyp⟩ := jbind hyp
          refine jr_callS_I (pc := 66) C S L (As := [jI x2, jI 0, jI 255]) (rest := []) (c_X12_in (m0 := m) h_x2 (show jIn 0 from ⟨by decide, by decide⟩) (show jIn 255 from ⟨by decide, by decide⟩) hq29) ms_X12_in ml_X12_80 (by decide) rfl rfl rfl (Nat.le_of_ble_eq_true rfl) ⟨Nat.le_refl 0, Nat.le_refl 0⟩ dX12_shelf_66 (fun p30 H locs S => ?_)
          refine jr_if_eq (pc := 69) C p30 (tgt := 76) dX12_shelf_69 (by decide) (fun c31 => ?_) (fun c31 => ?_)
          · have hyp := (if_pos c31).symm.trans hyp
            exact t_X12_shelf_b76 C   h_x1 h_x2 S (L.sub (jsub_s (jsub_s (jsub_s (jsub_n (jsub_n jsub_0)))))) hyp
          · have hyp := (if_neg c31).symm.trans hyp
            refine jr_iconst (pc := 72) C dX12_shelf_72 ?_
            refine jr_goto (pc := 73) C (tgt := 77) dX12_shelf_73 (by decide) ?_
            exact t_X12_shelf_b77 C   h_x1 h_x2 (show jIn 1 from ⟨by decide, by decide⟩) S (L.sub (jsub_s (jsub_s (jsub_s (jsub_n (jsub_n jsub_0)))))) hyp
        · have hyp := (if_neg c28).symm.trans hyp
          exact t_X12_shelf_b76 C   h_x1 h_x2 S (L.sub (jsub_s (jsub_s (jsub_s (jsub_n (jsub_n jsub_0)))))) hyp
theorem c_X12_shelf {l : Launch} {D : va_G} {cy : Nat → ClassId} {B sz : Nat} {sh : jm_S} {res : (Int × jm_M)} {N : Nat} {m : jm_M} {a0 : Nat} {x1 : Int} (h_x1 : jIn x1) {x2 : Int} (h_x2 : jIn x2) (hyp : f_X12_shelf N sh a0 x1 x2 m = some res) : jCt l D cy B sz sh 1 yX12_shelf cX12_shelf 5 (some .int) [jR B a0, jI x1, jI x2] m (some (jI res.1)) res.2 (jIn res.1) :=
  jc_of (by decide) (fun v h => by simp only [List.mem_cons, List.not_mem_nil, or_false] at h; rcases h with rfl | rfl | rfl <;> first | rfl | exact jR_cat _ _) (Nat.le_of_ble_eq_true rfl) (fun C S L => t_X12_shelf_e C  h_x1 h_x2 S L hyp)
set_option maxHeartbeats 4000000 in
set_option maxRecDepth 100000 in
theorem t_X12_isHeld_e {p : Program} {l : Launch} {e : Env} {s : State} {mi : MethodId} {args : Array Value} {below : List Frame} {meth : Method} {c : Code} {D : va_G} {cy : Nat → ClassId} {B sz : Nat} {sh : jm_S} {res : Int} {m0 : jm_M} (C : jCx p s mi args meth c cX12_isHeld 2 RX12 (some .boolean) D cy) {a0 : Nat} {x1 : Int} (h_x1 : jIn x1) {H : Heap} {locs : List Loc} {ls : Array Slot} (S : jHs D cy B sz sh (jA B sz) s.heap H locs m0) (L : jL ls [some (jR B a0), some (jI x1)]) (hyp : f_X12_isHeld sh a0 x1 m0 = some res) : W p l e (jrm 0 0 0) s mi args below meth c H locs 0 0 (MQ below (jQc D cy B sz sh m0 (some (jI res)) (jIn res)) args s 0 0 (jA B sz)) (F0 mi 0 ls []) := by
  unfold f_X12_isHeld at hyp
  refine jr_aload_n (pc := 0) C L dX12_isHeld_0 rfl rfl ?_
  obtain ⟨v1, hv1, hyp⟩ := jbind hyp
  refine jr_getR (pc := 1) C S lf_X12_7 rfl hv1 dX12_isHeld_1 ?_
  refine jr_iconst (pc := 4) C dX12_isHeld_4 ?_
  obtain ⟨v2, hv2, hyp⟩ := jbind hyp
  have iv2 := jra_in S hv2
  refine jr_ial (pc := 5) C S (show jIn 3 from ⟨by decide, by decide⟩) hv2 dX12_isHeld_5 ?_
  refine jr_iload_n (pc := 6) C L dX12_isHeld_6 rfl rfl ?_
  refine jr_ishr (pc := 7) C dX12_isHeld_7 ?_
  refine jr_iconst (pc := 8) C dX12_isHeld_8 ?_
  refine jr_iand (pc := 9) C dX12_isHeld_9 ?_
  refine jr_iconst (pc := 10) C dX12_isHeld_10 ?_
  refine jr_icmp_ne (pc := 11) C (jIn_and _ _) (show jIn 1 from ⟨by decide, by decide⟩) (tgt := 18) dX12_isHeld_11 (by decide) (fun c3 => ?_) (fun c3 => ?_)
  · have hyp := (if_pos c3).symm.trans hyp
    refine jr_iconst (pc := 14) C dX12_isHeld_14 ?_
    refine jr_goto (pc := 15) C (tgt := 19) dX12_isHeld_15 (by decide) ?_
    cases hyp
    exact jr_zret C S (show jIn 1 from ⟨by decide, by decide⟩) rfl dX12_isHeld_19
  · have hyp := (if_neg c3).symm.trans hyp
    refine jr_iconst (pc := 18) C dX12_isHeld_18 ?_
    cases hyp
    exact jr_zret C S (show jIn 0 from ⟨by decide, by decide⟩) rfl dX12_isHeld_19
theorem c_X12_isHeld {l : Launch} {D : va_G} {cy : Nat → ClassId} {B sz : Nat} {sh : jm_S} {res : Int} {m0 : jm_M} {a0 : Nat} {x1 : Int} (h_x1 : jIn x1) (hyp : f_X12_isHeld sh a0 x1 m0 = some res) : jCt l D cy B sz sh 0 yX12_isHeld cX12_isHeld 2 (some .boolean) [jR B a0, jI x1] m0 (some (jI res)) m0 (jIn res) :=
  jc_of (by decide) (fun v h => by simp only [List.mem_cons, List.not_mem_nil, or_false] at h; rcases h with rfl | rfl <;> first | rfl | exact jR_cat _ _) (Nat.le_of_ble_eq_true rfl) (fun C S L => t_X12_isHeld_e C  h_x1 S L hyp)
set_option maxHeartbeats 4000000 in
set_option maxRecDepth 100000 in
theorem t_X12_setOf_e {p : Program} {l : Launch} {e : Env} {s : State} {mi : MethodId} {args : Array Value} {below : List Frame} {meth : Method} {c : Code} {D : va_G} {cy : Nat → ClassId} {B sz : Nat} {sh : jm_S} {res : Int} {m0 : jm_M} (C : jCx p s mi args meth c cX12_setOf 2 RX12 (some .int) D cy) {a0 : Nat} {x1 : Int} (h_x1 : jIn x1) {H : Heap} {locs : List Loc} {ls : Array Slot} (S : jHs D cy B sz sh (jA B sz) s.heap H locs m0) (L : jL ls [some (jR B a0), some (jI x1)]) (hyp : f_X12_setOf sh a0 x1 m0 = some res) : W p l e (jrm 0 0 0) s mi args below meth c H locs 0 0 (MQ below (jQc D cy B sz sh m0 (some (jI res)) (jIn res)) args s 0 0 (jA B sz)) (F0 mi 0 ls []) := by
  unfold f_X12_setOf at hyp
  refine jr_iload_n (pc := 0) C L dX12_setOf_0 rfl rfl ?_
  refine jr_aload_n (pc := 1) C L dX12_setOf_1 rfl rfl ?_
  obtain ⟨v1, hv1, hyp⟩ := jbind hyp
  refine jr_getR (pc := 2) C S lf_X12_7 rfl hv1 dX12_setOf_2 ?_
  refine jr_iconst (pc := 5) C dX12_setOf_5 ?_
  obtain ⟨v2, hv2, hyp⟩ := jbind hyp
  have iv2 := jra_in S hv2
  refine jr_ial (pc := 6) C S (show jIn 0 from ⟨by decide, by decide⟩) hv2 dX12_setOf_6 ?_
  by_cases c3 : v2 = 0
  · exact absurd ((if_pos c3).symm.trans hyp) (by intro h; cases h)
  have hyp := (if_neg c3).symm.trans hyp
  refine jr_irem (pc := 7) C h_x1 iv2 c3 dX12_setOf_7 ?_
  cases hyp
  exact jr_iret C S (jIn_rem _ h_x1) dX12_setOf_8
theorem c_X12_setOf {l : Launch} {D : va_G} {cy : Nat → ClassId} {B sz : Nat} {sh : jm_S} {res : Int} {m0 : jm_M} {a0 : Nat} {x1 : Int} (h_x1 : jIn x1) (hyp : f_X12_setOf sh a0 x1 m0 = some res) : jCt l D cy B sz sh 0 yX12_setOf cX12_setOf 2 (some .int) [jR B a0, jI x1] m0 (some (jI res)) m0 (jIn res) :=
  jc_of (by decide) (fun v h => by simp only [List.mem_cons, List.not_mem_nil, or_false] at h; rcases h with rfl | rfl <;> first | rfl | exact jR_cat _ _) (Nat.le_of_ble_eq_true rfl) (fun C S L => t_X12_setOf_e C  h_x1 S L hyp)
set_option maxHeartbeats 4000000 in
set_option maxRecDepth 100000 in
theorem t_X12_roomOf_b9 {p : Program} {l : Launch} {e : Env} {s : State} {mi : MethodId} {args : Array Value} {below : List Frame} {meth : Method} {c : Code} {D : va_G} {cy : Nat → ClassId} {B sz : Nat} {sh : jm_S} {res : Int} {N : Nat} {m0 : jm_M} {k9 : Nat → Int → Int → Option Int} (C : jCx p s mi args meth c cX12_roomOf 4 RX12 (some .int) D cy) (K9 : ∀ (a0 : Nat) (x2 : Int) (x3 : Int) , jIn x2 → jIn x3 → ∀ (H : Heap) (locs : List Loc) (ls : Array Slot), jHs D cy B sz sh (jA B sz) s.heap H locs m0 → jL ls [some (jR B a0), none, some (jI x2), some (jI x3)] → k9 a0 x2 x3 = some res → W p l e (jrm 0 0 0) s mi args below meth c H locs 0 0 (MQ below (jQc D cy B sz sh m0 (some (jI res)) (jIn res)) args s 0 0 (jA B sz)) (F0 mi 9 ls [])) {a0 : Nat} {x2 : Int} (h_x2 : jIn x2) {x3 : Int} (h_x3 : jIn x3) {H : Heap} {locs : List Loc} {ls : Array Slot} (S : jHs D cy B sz sh (jA B sz) s.heap H locs m0) (L : jL ls [some (jR B a0), none, some (jI x2), some (jI x3)]) (hyp : f_X12_roomOf_b9 N sh k9 a0 x2 x3 m0 = some res) : W p l e (jrm 0 0 0) s mi args below meth c H locs 0 0 (MQ below (jQc D cy B sz sh m0 (some (jI res)) (jIn res)) args s 0 0 (jA B sz)) (F0 mi 9 ls []) := by
  unfold f_X12_roomOf_b9 at hyp
  refine jr_iload_n (pc := 9) C L dX12_roomOf_9 rfl rfl ?_
  refine jr_bipush (pc := 10) C dX12_roomOf_10 (by decide) ?_
  refine jr_icmp_ge (pc := 12) C h_x3 (show jIn 8 from ⟨by decide, by decide⟩) (tgt := 40) dX12_roomOf_12 (by decide) (fun c1 => ?_) (fun c1 => ?_)
  · have hyp := (if_pos c1).symm.trans hyp
    refine jr_iload_n (pc := 15) C L dX12_roomOf_15 rfl rfl ?_
    refine jr_aload_n (pc := 16) C L dX12_roomOf_16 rfl rfl ?_
    obtain ⟨v2, hv2, hyp⟩ := jbind hyp
    refine jr_getR (pc := 17) C S lf_X12_7 rfl hv2 dX12_roomOf_17 ?_
    refine jr_iconst (pc := 20) C dX12_roomOf_20 ?_
    obtain ⟨v3, hv3, hyp⟩ := jbind hyp
    have iv3 := jra_in S hv3
    refine jr_ial (pc := 21) C S (show jIn 3 from ⟨by decide, by decide⟩) hv3 dX12_roomOf_21 ?_
    refine jr_iload_n (pc := 22) C L dX12_roomOf_22 rfl rfl ?_
    refine jr_ishr (pc := 23) C dX12_roomOf_23 ?_
    refine jr_iconst (pc := 24) C dX12_roomOf_24 ?_
    refine jr_iand (pc := 25) C dX12_roomOf_25 ?_
    refine jr_isub (pc := 26) C dX12_roomOf_26 ?_
    refine jr_istore_n (pc := 27) C L dX12_roomOf_27 rfl (Nat.le_of_ble_eq_true rfl) (fun ls L => ?_)
    have L : jL ls [some (jR B a0), none, some (jI (jw (x2 - (jand (jshr v3 x3) 1)))), some (jI x3)] := L
    refine jr_iload_n (pc := 28) C L dX12_roomOf_28 rfl rfl ?_
    refine jr_aload_n (pc := 29) C L dX12_roomOf_29 rfl rfl ?_
    obtain ⟨v4, hv4, hyp⟩ := jbind hyp
    refine jr_getR (pc := 30) C S lf_X12_7 rfl hv4 dX12_roomOf_30 ?_
    refine jr_iconst (pc := 33) C dX12_roomOf_33 ?_
    obtain ⟨v5, hv5, hyp⟩ := jbind hyp
    have iv5 := jra_in S hv5
    refine jr_ial (pc := 34) C S (show jIn 0 from ⟨by decide, by decide⟩) hv5 dX12_roomOf_34 ?_
    refine jr_iadd (pc := 35) C dX12_roomOf_35 ?_
    refine jr_istore_n (pc := 36) C L dX12_roomOf_36 rfl (Nat.le_of_ble_eq_true rfl) (fun ls L => ?_)
    have L : jL ls [some (jR B a0), none, some (jI (jw (x2 - (jand (jshr v3 x3) 1)))), some (jI (jw (x3 + v5)))] := L
    refine jr_goto (pc := 37) C (tgt := 9) dX12_roomOf_37 (by decide) ?_
    exact K9 a0 (jw (x2 - (jand (jshr v3 x3) 1))) (jw (x3 + v5)) (jIn_w _) (jIn_w _)  _ _ _ S (L.sub (jsub_s (jsub_n (jsub_s (jsub_s jsub_0))))) hyp
  · have hyp := (if_neg c1).symm.trans hyp
    refine jr_iload_n (pc := 40) C L dX12_roomOf_40 rfl rfl ?_
    cases hyp
    exact jr_iret C S h_x2 dX12_roomOf_41
theorem t_X12_roomOf_l9 {p : Program} {l : Launch} {e : Env} {s : State} {mi : MethodId} {args : Array Value} {below : List Frame} {meth : Method} {c : Code} {D : va_G} {cy : Nat → ClassId} {B sz : Nat} {sh : jm_S} {res : Int} {N : Nat} {m0 : jm_M} (C : jCx p s mi args meth c cX12_roomOf 4 RX12 (some .int) D cy) : ∀ (n : Nat) (a0 : Nat) (x2 : Int) (x3 : Int), jIn x2 → jIn x3 → ∀ (H : Heap) (locs : List Loc) (ls : Array Slot), jHs D cy B sz sh (jA B sz) s.heap H locs m0 → jL ls [some (jR B a0), none, some (jI x2), some (jI x3)] → f_X12_roomOf_l9 N sh n a0 x2 x3 m0 = some res → W p l e (jrm 0 0 0) s mi args below meth c H locs 0 0 (MQ below (jQc D cy B sz sh m0 (some (jI res)) (jIn res)) args s 0 0 (jA B sz)) (F0 mi 9 ls []) := by
  intro n
  induction n with
  | zero => intro a0 x2 x3 h_x2 h_x3 H locs ls S L hyp; cases hyp
  | succ n ih => intro a0 x2 x3 h_x2 h_x3 H locs ls S L hyp; exact t_X12_roomOf_b9 (N := N) C  ih h_x2 h_x3 S L hyp
set_option maxHeartbeats 4000000 in
set_option maxRecDepth 100000 in
theorem t_X12_roomOf_e {p : Program} {l : Launch} {e : Env} {s : State} {mi : MethodId} {args : Array Value} {below : List Frame} {meth : Method} {c : Code} {D : va_G} {cy : Nat → ClassId} {B sz : Nat} {sh : jm_S} {res : Int} {N : Nat} {m0 : jm_M} (C : jCx p s mi args meth c cX12_roomOf 4 RX12 (some .int) D cy) {a0 : Nat} {x1 : Int} (h_x1 : jIn x1) {H : Heap} {locs : List Loc} {ls : Array Slot} (S : jHs D cy B sz sh (jA B sz) s.heap H locs m0) (L : jL ls [some (jR B a0), some (jI x1), none, none]) (hyp : f_X12_roomOf N sh a0 x1 m0 = some res) : W p l e (jrm 0 0 0) s mi args below meth c H locs 0 0 (MQ below (jQc D cy B sz sh m0 (some (jI res)) (jIn res)) args s 0 0 (jA B sz)) (F0 mi 0 ls []) := by
  unfold f_X12_roomOf at hyp
  refine jr_aload_n (pc := 0) C L dX12_roomOf_0 rfl rfl ?_
  obtain ⟨v6, hv6, hyp⟩ := jbind hyp
  refine jr_getR (pc := 1) C S lf_X12_7 rfl hv6 dX12_roomOf_1 ?_
  refine jr_iconst (pc := 4) C dX12_roomOf_4 ?_
  obtain ⟨v7, hv7, hyp⟩ := jbind hyp
  have iv7 := jra_in S hv7
  refine jr_ial (pc := 5) C S (show jIn 1 from ⟨by decide, by decide⟩) hv7 dX12_roomOf_5 ?_
  refine jr_istore_n (pc := 6) C L dX12_roomOf_6 rfl (Nat.le_of_ble_eq_true rfl) (fun ls L => ?_)
  have L : jL ls [some (jR B a0), some (jI x1), some (jI v7), none] := L
  refine jr_iload_n (pc := 7) C L dX12_roomOf_7 rfl rfl ?_
  refine jr_istore_n (pc := 8) C L dX12_roomOf_8 rfl (Nat.le_of_ble_eq_true rfl) (fun ls L => ?_)
  have L : jL ls [some (jR B a0), some (jI x1), some (jI v7), some (jI x1)] := L
  exact t_X12_roomOf_l9 C   N a0 v7 x1 iv7 h_x1  _ _ _ S (L.sub (jsub_s (jsub_n (jsub_s (jsub_s jsub_0))))) hyp
theorem c_X12_roomOf {l : Launch} {D : va_G} {cy : Nat → ClassId} {B sz : Nat} {sh : jm_S} {res : Int} {N : Nat} {m0 : jm_M} {a0 : Nat} {x1 : Int} (h_x1 : jIn x1) (hyp : f_X12_roomOf N sh a0 x1 m0 = some res) : jCt l D cy B sz sh 0 yX12_roomOf cX12_roomOf 4 (some .int) [jR B a0, jI x1] m0 (some (jI res)) m0 (jIn res) :=
  jc_of (by decide) (fun v h => by simp only [List.mem_cons, List.not_mem_nil, or_false] at h; rcases h with rfl | rfl <;> first | rfl | exact jR_cat _ _) (Nat.le_of_ble_eq_true rfl) (fun C S L => t_X12_roomOf_e C  h_x1 S L hyp)
set_option maxHeartbeats 4000000 in
set_option maxRecDepth 100000 in
theorem t_X12_say_e {p : Program} {l : Launch} {e : Env} {s : State} {mi : MethodId} {args : Array Value} {below : List Frame} {meth : Method} {c : Code} {D : va_G} {cy : Nat → ClassId} {B sz : Nat} {sh : jm_S} {res : (Int × jm_M)} (C : jCx p s mi args meth c cX12_say 2 RX12 (some .int) D cy) {a0 : Nat} {x1 : Int} (h_x1 : jIn x1) {m : jm_M} {H : Heap} {locs : List Loc} {ls : Array Slot} (S : jHs D cy B sz sh (jA B sz) s.heap H locs m) (L : jL ls [some (jR B a0), some (jI x1)]) (hyp : f_X12_say sh a0 x1 m = some res) : W p l e (jrm 1 0 0) s mi args below meth c H locs 0 0 (MQ below (jQc D cy B sz sh res.2 (some (jI res.1)) (jIn res.1)) args s 0 0 (jA B sz)) (F0 mi 0 ls []) := by
  unfold f_X12_say at hyp
  refine jr_iload_n (pc := 0) C L dX12_say_0 rfl rfl ?_
  refine jr_bipush (pc := 1) C dX12_say_1 (by decide) ?_
  refine jr_bipush (pc := 3) C dX12_say_3 (by decide) ?_
  obtain ⟨q1, hq1, hyp⟩ := jbind hyp
  refine jr_callS_I (pc := 5) C S L (As := [jI x1, jI 33, jI 126]) (rest := []) (c_X12_in (m0 := m) h_x1 (show jIn 33 from ⟨by decide, by decide⟩) (show jIn 126 from ⟨by decide, by decide⟩) hq1) ms_X12_in ml_X12_80 (by decide) rfl rfl rfl (Nat.le_of_ble_eq_true rfl) ⟨Nat.le_refl 0, Nat.le_refl 0⟩ dX12_say_5 (fun p2 H locs S => ?_)
  refine jr_if_ne (pc := 8) C p2 (tgt := 14) dX12_say_8 (by decide) (fun c3 => ?_) (fun c3 => ?_)
  · have hyp := (if_pos c3).symm.trans hyp
    refine jr_bipush (pc := 11) C dX12_say_11 (by decide) ?_
    cases hyp
    exact jr_iret C S (show jIn (-2) from ⟨by decide, by decide⟩) dX12_say_13
  · have hyp := (if_neg c3).symm.trans hyp
    refine jr_aload_n (pc := 14) C L dX12_say_14 rfl rfl ?_
    obtain ⟨v4, hv4, hyp⟩ := jbind hyp
    have iv4 := jrf_in S hv4
    refine jr_getI (pc := 15) C S lf_X12_87 rfl hv4 dX12_say_15 ?_
    refine jr_bipush (pc := 18) C dX12_say_18 (by decide) ?_
    refine jr_icmp_ne (pc := 20) C iv4 (show jIn 30 from ⟨by decide, by decide⟩) (tgt := 26) dX12_say_20 (by decide) (fun c5 => ?_) (fun c5 => ?_)
    · have hyp := (if_pos c5).symm.trans hyp
      refine jr_bipush (pc := 23) C dX12_say_23 (by decide) ?_
      cases hyp
      exact jr_iret C S (show jIn (-4) from ⟨by decide, by decide⟩) dX12_say_25
    · have hyp := (if_neg c5).symm.trans hyp
      refine jr_aload_n (pc := 26) C L dX12_say_26 rfl rfl ?_
      obtain ⟨v6, hv6, hyp⟩ := jbind hyp
      refine jr_getR (pc := 27) C S lf_X12_13 rfl hv6 dX12_say_27 ?_
      refine jr_aload_n (pc := 30) C L dX12_say_30 rfl rfl ?_
      obtain ⟨v7, hv7, hyp⟩ := jbind hyp
      have iv7 := jrf_in S hv7
      refine jr_getI (pc := 31) C S lf_X12_87 rfl hv7 dX12_say_31 ?_
      refine jr_iload_n (pc := 34) C L dX12_say_34 rfl rfl ?_
      obtain ⟨m8, hm8, hyp⟩ := jbind hyp
      refine jr_ias (pc := 35) C S iv7 h_x1 hm8 dX12_say_35 (fun H locs S => ?_)
      refine jr_aload_n (pc := 36) C L dX12_say_36 rfl rfl ?_
      refine jr_dupR (pc := 37) C dX12_say_37 ?_
      obtain ⟨v9, hv9, hyp⟩ := jbind hyp
      have iv9 := jrf_in S hv9
      refine jr_getI (pc := 38) C S lf_X12_87 rfl hv9 dX12_say_38 ?_
      refine jr_iconst (pc := 41) C dX12_say_41 ?_
      refine jr_iadd (pc := 42) C dX12_say_42 ?_
      obtain ⟨m10, hm10, hyp⟩ := jbind hyp
      refine jr_putI (pc := 43) C S lf_X12_87 fp_X12_1 rfl (jIn_w _) hm10 dX12_say_43 (fun H locs S => ?_)
      refine jr_aload_n (pc := 46) C L dX12_say_46 rfl rfl ?_
      obtain ⟨v11, hv11, hyp⟩ := jbind hyp
      have iv11 := jrf_in S hv11
      refine jr_getI (pc := 47) C S lf_X12_87 rfl hv11 dX12_say_47 ?_
      cases hyp
      exact jr_iret C S iv11 dX12_say_50
theorem c_X12_say {l : Launch} {D : va_G} {cy : Nat → ClassId} {B sz : Nat} {sh : jm_S} {res : (Int × jm_M)} {m : jm_M} {a0 : Nat} {x1 : Int} (h_x1 : jIn x1) (hyp : f_X12_say sh a0 x1 m = some res) : jCt l D cy B sz sh 1 yX12_say cX12_say 2 (some .int) [jR B a0, jI x1] m (some (jI res.1)) res.2 (jIn res.1) :=
  jc_of (by decide) (fun v h => by simp only [List.mem_cons, List.not_mem_nil, or_false] at h; rcases h with rfl | rfl <;> first | rfl | exact jR_cat _ _) (Nat.le_of_ble_eq_true rfl) (fun C S L => t_X12_say_e C  h_x1 S L hyp)
set_option maxHeartbeats 4000000 in
set_option maxRecDepth 100000 in
theorem t_X12_wipe_e {p : Program} {l : Launch} {e : Env} {s : State} {mi : MethodId} {args : Array Value} {below : List Frame} {meth : Method} {c : Code} {D : va_G} {cy : Nat → ClassId} {B sz : Nat} {sh : jm_S} {res : (Int × jm_M)} (C : jCx p s mi args meth c cX12_wipe 2 RX12 (some .int) D cy) {a0 : Nat} {m : jm_M} {H : Heap} {locs : List Loc} {ls : Array Slot} (S : jHs D cy B sz sh (jA B sz) s.heap H locs m) (L : jL ls [some (jR B a0), none]) (hyp : f_X12_wipe sh a0 m = some res) : W p l e (jrm 0 0 0) s mi args below meth c H locs 0 0 (MQ below (jQc D cy B sz sh res.2 (some (jI res.1)) (jIn res.1)) args s 0 0 (jA B sz)) (F0 mi 0 ls []) := by
  unfold f_X12_wipe at hyp
  refine jr_aload_n (pc := 0) C L dX12_wipe_0 rfl rfl ?_
  obtain ⟨v1, hv1, hyp⟩ := jbind hyp
  have iv1 := jrf_in S hv1
  refine jr_getI (pc := 1) C S lf_X12_87 rfl hv1 dX12_wipe_1 ?_
  refine jr_istore_n (pc := 4) C L dX12_wipe_4 rfl (Nat.le_of_ble_eq_true rfl) (fun ls L => ?_)
  have L : jL ls [some (jR B a0), some (jI v1)] := L
  refine jr_aload_n (pc := 5) C L dX12_wipe_5 rfl rfl ?_
  refine jr_iconst (pc := 6) C dX12_wipe_6 ?_
  obtain ⟨m2, hm2, hyp⟩ := jbind hyp
  refine jr_putI (pc := 7) C S lf_X12_87 fp_X12_1 rfl (show jIn 0 from ⟨by decide, by decide⟩) hm2 dX12_wipe_7 (fun H locs S => ?_)
  refine jr_iload_n (pc := 10) C L dX12_wipe_10 rfl rfl ?_
  cases hyp
  exact jr_iret C S iv1 dX12_wipe_11
theorem c_X12_wipe {l : Launch} {D : va_G} {cy : Nat → ClassId} {B sz : Nat} {sh : jm_S} {res : (Int × jm_M)} {m : jm_M} {a0 : Nat} (hyp : f_X12_wipe sh a0 m = some res) : jCt l D cy B sz sh 0 yX12_wipe cX12_wipe 2 (some .int) [jR B a0] m (some (jI res.1)) res.2 (jIn res.1) :=
  jc_of (by decide) (fun v h => by rw [List.mem_singleton.mp h]; first | rfl | exact jR_cat _ _) (Nat.le_of_ble_eq_true rfl) (fun C S L => t_X12_wipe_e C   S L hyp)
set_option maxHeartbeats 4000000 in
set_option maxRecDepth 100000 in
theorem t_X12_isLoop_e {p : Program} {l : Launch} {e : Env} {s : State} {mi : MethodId} {args : Array Value} {below : List Frame} {meth : Method} {c : Code} {D : va_G} {cy : Nat → ClassId} {B sz : Nat} {sh : jm_S} {res : Int} {m0 : jm_M} (C : jCx p s mi args meth c cX12_isLoop 1 RX12 (some .boolean) D cy) {x0 : Int} (h_x0 : jIn x0) {H : Heap} {locs : List Loc} {ls : Array Slot} (S : jHs D cy B sz sh (jA B sz) s.heap H locs m0) (L : jL ls [some (jI x0)]) (hyp : f_X12_isLoop x0 = some res) : W p l e (jrm 1 0 0) s mi args below meth c H locs 0 0 (MQ below (jQc D cy B sz sh m0 (some (jI res)) (jIn res)) args s 0 0 (jA B sz)) (F0 mi 0 ls []) := by
  unfold f_X12_isLoop at hyp
  refine jr_iload_n (pc := 0) C L dX12_isLoop_0 rfl rfl ?_
  refine jr_bipush (pc := 1) C dX12_isLoop_1 (by decide) ?_
  refine jr_bipush (pc := 3) C dX12_isLoop_3 (by decide) ?_
  obtain ⟨q1, hq1, hyp⟩ := jbind hyp
  refine jr_callS_I (pc := 5) C S L (As := [jI x0, jI 98, jI 100]) (rest := []) (c_X12_in (m0 := m0) h_x0 (show jIn 98 from ⟨by decide, by decide⟩) (show jIn 100 from ⟨by decide, by decide⟩) hq1) ms_X12_in ml_X12_80 (by decide) rfl rfl rfl (Nat.le_of_ble_eq_true rfl) ⟨Nat.le_refl 0, Nat.le_refl 0⟩ dX12_isLoop_5 (fun p2 H locs S => ?_)
  obtain ⟨z3, hz3, hyp⟩ := jbind hyp
  cases hyp
  exact jr_zret C S (jzb_in hz3) hz3 dX12_isLoop_8
theorem c_X12_isLoop {l : Launch} {D : va_G} {cy : Nat → ClassId} {B sz : Nat} {sh : jm_S} {res : Int} {m0 : jm_M} {x0 : Int} (h_x0 : jIn x0) (hyp : f_X12_isLoop x0 = some res) : jCt l D cy B sz sh 1 yX12_isLoop cX12_isLoop 1 (some .boolean) [jI x0] m0 (some (jI res)) m0 (jIn res) :=
  jc_of (by decide) (fun v h => by rw [List.mem_singleton.mp h]; first | rfl | exact jR_cat _ _) (Nat.le_of_ble_eq_true rfl) (fun C S L => t_X12_isLoop_e C  h_x0 S L hyp)
set_option maxHeartbeats 4000000 in
set_option maxRecDepth 100000 in
theorem t_X12_partsOf_e {p : Program} {l : Launch} {e : Env} {s : State} {mi : MethodId} {args : Array Value} {below : List Frame} {meth : Method} {c : Code} {D : va_G} {cy : Nat → ClassId} {B sz : Nat} {sh : jm_S} {res : Int} {m0 : jm_M} (C : jCx p s mi args meth c cX12_partsOf 1 RX12 (some .int) D cy) {x0 : Int} (h_x0 : jIn x0) {H : Heap} {locs : List Loc} {ls : Array Slot} (S : jHs D cy B sz sh (jA B sz) s.heap H locs m0) (L : jL ls [some (jI x0)]) (hyp : f_X12_partsOf x0 = some res) : W p l e (jrm 2 0 0) s mi args below meth c H locs 0 0 (MQ below (jQc D cy B sz sh m0 (some (jI res)) (jIn res)) args s 0 0 (jA B sz)) (F0 mi 0 ls []) := by
  unfold f_X12_partsOf at hyp
  refine jr_iload_n (pc := 0) C L dX12_partsOf_0 rfl rfl ?_
  refine jr_bipush (pc := 1) C dX12_partsOf_1 (by decide) ?_
  refine jr_bipush (pc := 3) C dX12_partsOf_3 (by decide) ?_
  obtain ⟨q1, hq1, hyp⟩ := jbind hyp
  refine jr_callS_I (pc := 5) C S L (As := [jI x0, jI 48, jI 55]) (rest := []) (c_X12_in (m0 := m0) h_x0 (show jIn 48 from ⟨by decide, by decide⟩) (show jIn 55 from ⟨by decide, by decide⟩) hq1) ms_X12_in ml_X12_80 (by decide) rfl rfl rfl (Nat.le_of_ble_eq_true rfl) ⟨Nat.le_refl 0, Nat.le_refl 0⟩ dX12_partsOf_5 (fun p2 H locs S => ?_)
  refine jr_if_ne (pc := 8) C p2 (tgt := 17) dX12_partsOf_8 (by decide) (fun c3 => ?_) (fun c3 => ?_)
  · have hyp := (if_pos c3).symm.trans hyp
    refine jr_iload_n (pc := 11) C L dX12_partsOf_11 rfl rfl ?_
    refine jr_bipush (pc := 12) C dX12_partsOf_12 (by decide) ?_
    refine jr_icmp_ne (pc := 14) C h_x0 (show jIn 45 from ⟨by decide, by decide⟩) (tgt := 21) dX12_partsOf_14 (by decide) (fun c4 => ?_) (fun c4 => ?_)
    · have hyp := (if_pos c4).symm.trans hyp
      refine jr_iconst (pc := 17) C dX12_partsOf_17 ?_
      refine jr_goto (pc := 18) C (tgt := 50) dX12_partsOf_18 (by decide) ?_
      cases hyp
      exact jr_iret C S (show jIn 0 from ⟨by decide, by decide⟩) dX12_partsOf_50
    · have hyp := (if_neg c4).symm.trans hyp
      refine jr_iload_n (pc := 21) C L dX12_partsOf_21 rfl rfl ?_
      obtain ⟨q5, hq5, hyp⟩ := jbind hyp
      refine jr_callS_I (pc := 22) C S L (As := [jI x0]) (rest := []) (c_X12_isLoop (m0 := m0) h_x0 hq5) ms_X12_isLoop ml_X12_91 (by decide) rfl rfl rfl (Nat.le_of_ble_eq_true rfl) ⟨Nat.le_refl 0, Nat.le_refl 0⟩ dX12_partsOf_22 (fun p6 H locs S => ?_)
      refine jr_if_eq (pc := 25) C p6 (tgt := 32) dX12_partsOf_25 (by decide) (fun c7 => ?_) (fun c7 => ?_)
      · have hyp := (if_pos c7).symm.trans hyp
        refine jr_iload_n (pc := 32) C L dX12_partsOf_32 rfl rfl ?_
        refine jr_bipush (pc := 33) C dX12_partsOf_33 (by decide) ?_
        refine jr_icmp_eq (pc := 35) C h_x0 (show jIn 59 from ⟨by decide, by decide⟩) (tgt := 44) dX12_partsOf_35 (by decide) (fun c8 => ?_) (fun c8 => ?_)
        · have hyp := (if_pos c8).symm.trans hyp
          refine jr_iconst (pc := 44) C dX12_partsOf_44 ?_
          refine jr_goto (pc := 45) C (tgt := 50) dX12_partsOf_45 (by decide) ?_
          cases hyp
          exact jr_iret C S (show jIn 2 from ⟨by decide, by decide⟩) dX12_partsOf_50
        · have hyp := (if_neg c8).symm.trans hyp
          refine jr_iload_n (pc := 38) C L dX12_partsOf_38 rfl rfl ?_
          refine jr_bipush (pc := 39) C dX12_partsOf_39 (by decide) ?_
          refine jr_icmp_ne (pc := 41) C h_x0 (show jIn 63 from ⟨by decide, by decide⟩) (tgt := 48) dX12_partsOf_41 (by decide) (fun c9 => ?_) (fun c9 => ?_)
          · have hyp := (if_pos c9).symm.trans hyp
            refine jr_iconst (pc := 44) C dX12_partsOf_44 ?_
            refine jr_goto (pc := 45) C (tgt := 50) dX12_partsOf_45 (by decide) ?_
            cases hyp
            exact jr_iret C S (show jIn 2 from ⟨by decide, by decide⟩) dX12_partsOf_50
          · have hyp := (if_neg c9).symm.trans hyp
            refine jr_bipush (pc := 48) C dX12_partsOf_48 (by decide) ?_
            cases hyp
            exact jr_iret C S (show jIn (-6) from ⟨by decide, by decide⟩) dX12_partsOf_50
      · have hyp := (if_neg c7).symm.trans hyp
        refine jr_iconst (pc := 28) C dX12_partsOf_28 ?_
        refine jr_goto (pc := 29) C (tgt := 50) dX12_partsOf_29 (by decide) ?_
        cases hyp
        exact jr_iret C S (show jIn 1 from ⟨by decide, by decide⟩) dX12_partsOf_50
  · have hyp := (if_neg c3).symm.trans hyp
    refine jr_iconst (pc := 17) C dX12_partsOf_17 ?_
    refine jr_goto (pc := 18) C (tgt := 50) dX12_partsOf_18 (by decide) ?_
    cases hyp
    exact jr_iret C S (show jIn 0 from ⟨by decide, by decide⟩) dX12_partsOf_50
theorem c_X12_partsOf {l : Launch} {D : va_G} {cy : Nat → ClassId} {B sz : Nat} {sh : jm_S} {res : Int} {m0 : jm_M} {x0 : Int} (h_x0 : jIn x0) (hyp : f_X12_partsOf x0 = some res) : jCt l D cy B sz sh 2 yX12_partsOf cX12_partsOf 1 (some .int) [jI x0] m0 (some (jI res)) m0 (jIn res) :=
  jc_of (by decide) (fun v h => by rw [List.mem_singleton.mp h]; first | rfl | exact jR_cat _ _) (Nat.le_of_ble_eq_true rfl) (fun C S L => t_X12_partsOf_e C  h_x0 S L hyp)
set_option maxHeartbeats 4000000 in
set_option maxRecDepth 100000 in
theorem t_X12_timesOf_e {p : Program} {l : Launch} {e : Env} {s : State} {mi : MethodId} {args : Array Value} {below : List Frame} {meth : Method} {c : Code} {D : va_G} {cy : Nat → ClassId} {B sz : Nat} {sh : jm_S} {res : Int} {m0 : jm_M} (C : jCx p s mi args meth c cX12_timesOf 1 RX12 (some .int) D cy) {x0 : Int} (h_x0 : jIn x0) {H : Heap} {locs : List Loc} {ls : Array Slot} (S : jHs D cy B sz sh (jA B sz) s.heap H locs m0) (L : jL ls [some (jI x0)]) (hyp : f_X12_timesOf x0 = some res) : W p l e (jrm 0 0 0) s mi args below meth c H locs 0 0 (MQ below (jQc D cy B sz sh m0 (some (jI res)) (jIn res)) args s 0 0 (jA B sz)) (F0 mi 0 ls []) := by
  unfold f_X12_timesOf at hyp
  refine jr_iload_n (pc := 0) C L dX12_timesOf_0 rfl rfl ?_
  refine jr_bipush (pc := 1) C dX12_timesOf_1 (by decide) ?_
  refine jr_isub (pc := 3) C dX12_timesOf_3 ?_
  refine jr_iconst (pc := 4) C dX12_timesOf_4 ?_
  refine jr_iadd (pc := 5) C dX12_timesOf_5 ?_
  cases hyp
  exact jr_iret C S (jIn_w _) dX12_timesOf_6
theorem c_X12_timesOf {l : Launch} {D : va_G} {cy : Nat → ClassId} {B sz : Nat} {sh : jm_S} {res : Int} {m0 : jm_M} {x0 : Int} (h_x0 : jIn x0) (hyp : f_X12_timesOf x0 = some res) : jCt l D cy B sz sh 0 yX12_timesOf cX12_timesOf 1 (some .int) [jI x0] m0 (some (jI res)) m0 (jIn res) :=
  jc_of (by decide) (fun v h => by rw [List.mem_singleton.mp h]; first | rfl | exact jR_cat _ _) (Nat.le_of_ble_eq_true rfl) (fun C S L => t_X12_timesOf_e C  h_x0 S L hyp)
set_option maxHeartbeats 4000000 in
set_option maxRecDepth 100000 in
theorem t_X12_faultOf_b155 {p : Program} {l : Launch} {e : Env} {s : State} {mi : MethodId} {args : Array Value} {below : List Frame} {meth : Method} {c : Code} {D : va_G} {cy : Nat → ClassId} {B sz : Nat} {sh : jm_S} {res : (Int × jm_M)} {N : Nat} {k4 : Nat → Int → Int → jm_M → Option (Int × jm_M)} (C : jCx p s mi args meth c cX12_faultOf 5 RX12 (some .int) D cy) (K4 : ∀ (a0 : Nat) (x1 : Int) (x2 : Int) , jIn x1 → jIn x2 → ∀ (m : jm_M) (H : Heap) (locs : List Loc) (ls : Array Slot), jHs D cy B sz sh (jA B sz) s.heap H locs m → jL ls [some (jR B a0), some (jI x1), some (jI x2), none, none] → k4 a0 x1 x2 m = some res → W p l e (jrm 3 0 0) s mi args below meth c H locs 0 0 (MQ below (jQc D cy B sz sh res.2 (some (jI res.1)) (jIn res.1)) args s 0 0 (jA B sz)) (F0 mi 4 ls [])) {a0 : Nat} {x1 : Int} (h_x1 : jIn x1) {x2 : Int} (h_x2 : jIn x2) {m : jm_M} {H : Heap} {locs : List Loc} {ls : Array Slot} (S : jHs D cy B sz sh (jA B sz) s.heap H locs m) (L : jL ls [some (jR B a0), some (jI x1), some (jI x2), none, none]) (hyp : f_X12_faultOf_b155 N sh k4 a0 x1 x2 m = some res) : W p l e (jrm 3 0 0) s mi args below meth c H locs 0 0 (MQ below (jQc D cy B sz sh res.2 (some (jI res.1)) (jIn res.1)) args s 0 0 (jA B sz)) (F0 mi 155 ls []) := by
  unfold f_X12_faultOf_b155 at hyp
  refine jr_iinc (pc := 155) C L dX12_faultOf_155 rfl (Nat.le_of_ble_eq_true rfl) (fun ls L => ?_)
  have L : jL ls [some (jR B a0), some (jI x1), some (jI (jw (x2 + 1))), none, none] := L
  refine jr_goto (pc := 158) C (tgt := 4) dX12_faultOf_158 (by decide) ?_
  exact K4 a0 x1 (jw (x2 + 1)) h_x1 (jIn_w _) m _ _ _ S (L.sub (jsub_s (jsub_s (jsub_s (jsub_n (jsub_n jsub_0)))))) hyp
set_option maxHeartbeats 4000000 in
set_option maxRecDepth 100000 in
theorem t_X12_faultOf_b127 {p : Program} {l : Launch} {e : Env} {s : State} {mi : MethodId} {args : Array Value} {below : List Frame} {meth : Method} {c : Code} {D : va_G} {cy : Nat → ClassId} {B sz : Nat} {sh : jm_S} {res : (Int × jm_M)} {N : Nat} {k4 : Nat → Int → Int → jm_M → Option (Int × jm_M)} {k65 : Nat → Int → Int → Int → jm_M → Option (Int × jm_M)} (C : jCx p s mi args meth c cX12_faultOf 5 RX12 (some .int) D cy) (K4 : ∀ (a0 : Nat) (x1 : Int) (x2 : Int) , jIn x1 → jIn x2 → ∀ (m : jm_M) (H : Heap) (locs : List Loc) (ls : Array Slot), jHs D cy B sz sh (jA B sz) s.heap H locs m → jL ls [some (jR B a0), some (jI x1), some (jI x2), none, none] → k4 a0 x1 x2 m = some res → W p l e (jrm 3 0 0) s mi args below meth c H locs 0 0 (MQ below (jQc D cy B sz sh res.2 (some (jI res.1)) (jIn res.1)) args s 0 0 (jA B sz)) (F0 mi 4 ls [])) (K65 : ∀ (a0 : Nat) (x1 : Int) (x2 : Int) (x4 : Int) , jIn x1 → jIn x2 → jIn x4 → ∀ (m : jm_M) (H : Heap) (locs : List Loc) (ls : Array Slot), jHs D cy B sz sh (jA B sz) s.heap H locs m → jL ls [some (jR B a0), some (jI x1), some (jI x2), none, some (jI x4)] → k65 a0 x1 x2 x4 m = some res → W p l e (jrm 3 0 0) s mi args below meth c H locs 0 0 (MQ below (jQc D cy B sz sh res.2 (some (jI res.1)) (jIn res.1)) args s 0 0 (jA B sz)) (F0 mi 65 ls [])) {a0 : Nat} {x1 : Int} (h_x1 : jIn x1) {x2 : Int} (h_x2 : jIn x2) {s0 : Int} (h_s0 : jIn s0) {m : jm_M} {H : Heap} {locs : List Loc} {ls : Array Slot} (S : jHs D cy B sz sh (jA B sz) s.heap H locs m) (L : jL ls [some (jR B a0), some (jI x1), some (jI x2), none, none]) (hyp : f_X12_faultOf_b127 N sh k4 k65 a0 x1 x2 s0 m = some res) : W p l e (jrm 3 0 0) s mi args below meth c H locs 0 0 (MQ below (jQc D cy B sz sh res.2 (some (jI res.1)) (jIn res.1)) args s 0 0 (jA B sz)) (F0 mi 127 ls [jI s0]) := by
  unfold f_X12_faultOf_b127 at hyp
  refine jr_istore (pc := 127) C L dX12_faultOf_127 (Nat.le_of_ble_eq_true rfl) (fun ls L => ?_)
  have L : jL ls [some (jR B a0), some (jI x1), some (jI x2), none, some (jI s0)] := L
  refine jr_goto (pc := 129) C (tgt := 65) dX12_faultOf_129 (by decide) ?_
  exact K65 a0 x1 x2 s0 h_x1 h_x2 h_s0 m _ _ _ S (L.sub (jsub_s (jsub_s (jsub_s (jsub_n (jsub_s jsub_0)))))) hyp
set_option maxHeartbeats 4000000 in
set_option maxRecDepth 100000 in
theorem t_X12_faultOf_b126 {p : Program} {l : Launch} {e : Env} {s : State} {mi : MethodId} {args : Array Value} {below : List Frame} {meth : Method} {c : Code} {D : va_G} {cy : Nat → ClassId} {B sz : Nat} {sh : jm_S} {res : (Int × jm_M)} {N : Nat} {k4 : Nat → Int → Int → jm_M → Option (Int × jm_M)} {k65 : Nat → Int → Int → Int → jm_M → Option (Int × jm_M)} (C : jCx p s mi args meth c cX12_faultOf 5 RX12 (some .int) D cy) (K4 : ∀ (a0 : Nat) (x1 : Int) (x2 : Int) , jIn x1 → jIn x2 → ∀ (m : jm_M) (H : Heap) (locs : List Loc) (ls : Array Slot), jHs D cy B sz sh (jA B sz) s.heap H locs m → jL ls [some (jR B a0), some (jI x1), some (jI x2), none, none] → k4 a0 x1 x2 m = some res → W p l e (jrm 3 0 0) s mi args below meth c H locs 0 0 (MQ below (jQc D cy B sz sh res.2 (some (jI res.1)) (jIn res.1)) args s 0 0 (jA B sz)) (F0 mi 4 ls [])) (K65 : ∀ (a0 : Nat) (x1 : Int) (x2 : Int) (x4 : Int) , jIn x1 → jIn x2 → jIn x4 → ∀ (m : jm_M) (H : Heap) (locs : List Loc) (ls : Array Slot), jHs D cy B sz sh (jA B sz) s.heap H locs m → jL ls [some (jR B a0), some (jI x1), some (jI x2), none, some (jI x4)] → k65 a0 x1 x2 x4 m = some res → W p l e (jrm 3 0 0) s mi args below meth c H locs 0 0 (MQ below (jQc D cy B sz sh res.2 (some (jI res.1)) (jIn res.1)) args s 0 0 (jA B sz)) (F0 mi 65 ls [])) {a0 : Nat} {x1 : Int} (h_x1 : jIn x1) {x2 : Int} (h_x2 : jIn x2) {m : jm_M} {H : Heap} {locs : List Loc} {ls : Array Slot} (S : jHs D cy B sz sh (jA B sz) s.heap H locs m) (L : jL ls [some (jR B a0), some (jI x1), some (jI x2), none, none]) (hyp : f_X12_faultOf_b126 N sh k4 k65 a0 x1 x2 m = some res) : W p l e (jrm 3 0 0) s mi args below meth c H locs 0 0 (MQ below (jQc D cy B sz sh res.2 (some (jI res.1)) (jIn res.1)) args s 0 0 (jA B sz)) (F0 mi 126 ls []) := by
  unfold f_X12_faultOf_b126 at hyp
  refine jr_iconst (pc := 126) C dX12_faultOf_126 ?_
  exact t_X12_faultOf_b127 C  K4 K65 h_x1 h_x2 (show jIn 0 from ⟨by decide, by decide⟩) S (L.sub (jsub_s (jsub_s (jsub_s (jsub_n (jsub_n jsub_0)))))) hyp
set_option maxHeartbeats 4000000 in
set_option maxRecDepth 100000 in
theorem t_X12_faultOf_b111 {p : Program} {l : Launch} {e : Env} {s : State} {mi : MethodId} {args : Array Value} {below : List Frame} {meth : Method} {c : Code} {D : va_G} {cy : Nat → ClassId} {B sz : Nat} {sh : jm_S} {res : (Int × jm_M)} {N : Nat} {k4 : Nat → Int → Int → jm_M → Option (Int × jm_M)} {k65 : Nat → Int → Int → Int → jm_M → Option (Int × jm_M)} (C : jCx p s mi args meth c cX12_faultOf 5 RX12 (some .int) D cy) (K4 : ∀ (a0 : Nat) (x1 : Int) (x2 : Int) , jIn x1 → jIn x2 → ∀ (m : jm_M) (H : Heap) (locs : List Loc) (ls : Array Slot), jHs D cy B sz sh (jA B sz) s.heap H locs m → jL ls [some (jR B a0), some (jI x1), some (jI x2), none, none] → k4 a0 x1 x2 m = some res → W p l e (jrm 3 0 0) s mi args below meth c H locs 0 0 (MQ below (jQc D cy B sz sh res.2 (some (jI res.1)) (jIn res.1)) args s 0 0 (jA B sz)) (F0 mi 4 ls [])) (K65 : ∀ (a0 : Nat) (x1 : Int) (x2 : Int) (x4 : Int) , jIn x1 → jIn x2 → jIn x4 → ∀ (m : jm_M) (H : Heap) (locs : List Loc) (ls : Array Slot), jHs D cy B sz sh (jA B sz) s.heap H locs m → jL ls [some (jR B a0), some (jI x1), some (jI x2), none, some (jI x4)] → k65 a0 x1 x2 x4 m = some res → W p l e (jrm 3 0 0) s mi args below meth c H locs 0 0 (MQ below (jQc D cy B sz sh res.2 (some (jI res.1)) (jIn res.1)) args s 0 0 (jA B sz)) (F0 mi 65 ls [])) {a0 : Nat} {x2 : Int} (h_x2 : jIn x2) {x4 : Int} (h_x4 : jIn x4) {s0 : Int} (h_s0 : jIn s0) {s1 : Int} (h_s1 : jIn s1) {m : jm_M} {H : Heap} {locs : List Loc} {ls : Array Slot} (S : jHs D cy B sz sh (jA B sz) s.heap H locs m) (L : jL ls [some (jR B a0), none, some (jI x2), none, some (jI x4)]) (hyp : f_X12_faultOf_b111 N sh k4 k65 a0 x2 x4 s0 s1 m = some res) : W p l e (jrm 3 0 0) s mi args below meth c H locs 0 0 (MQ below (jQc D cy B sz sh res.2 (some (jI res.1)) (jIn res.1)) args s 0 0 (jA B sz)) (F0 mi 111 ls [jI s1, jI s0]) := by
  unfold f_X12_faultOf_b111 at hyp
  refine jr_isub (pc := 111) C dX12_faultOf_111 ?_
  refine jr_istore_n (pc := 112) C L dX12_faultOf_112 rfl (Nat.le_of_ble_eq_true rfl) (fun ls L => ?_)
  have L : jL ls [some (jR B a0), some (jI (jw (s0 - s1))), some (jI x2), none, some (jI x4)] := L
  refine jr_iload (pc := 113) C L dX12_faultOf_113 rfl ?_
  refine jr_if_eq (pc := 115) C h_x4 (tgt := 126) dX12_faultOf_115 (by decide) (fun c1 => ?_) (fun c1 => ?_)
  · have hyp := (if_pos c1).symm.trans hyp
    exact t_X12_faultOf_b126 C  K4 K65 (jIn_w _) h_x2 S (L.sub (jsub_s (jsub_s (jsub_s (jsub_n (jsub_n jsub_0)))))) hyp
  · have hyp := (if_neg c1).symm.trans hyp
    refine jr_iload_n (pc := 118) C L dX12_faultOf_118 rfl rfl ?_
    refine jr_if_le (pc := 119) C (jIn_w _) (tgt := 126) dX12_faultOf_119 (by decide) (fun c2 => ?_) (fun c2 => ?_)
    · have hyp := (if_pos c2).symm.trans hyp
      refine jr_iconst (pc := 122) C dX12_faultOf_122 ?_
      refine jr_goto (pc := 123) C (tgt := 127) dX12_faultOf_123 (by decide) ?_
      exact t_X12_faultOf_b127 C  K4 K65 (jIn_w _) h_x2 (show jIn 1 from ⟨by decide, by decide⟩) S (L.sub (jsub_s (jsub_s (jsub_s (jsub_n (jsub_n jsub_0)))))) hyp
    · have hyp := (if_neg c2).symm.trans hyp
      exact t_X12_faultOf_b126 C  K4 K65 (jIn_w _) h_x2 S (L.sub (jsub_s (jsub_s (jsub_s (jsub_n (jsub_n jsub_0)))))) hyp
set_option maxHeartbeats 4000000 in
set_option maxRecDepth 100000 in
theorem t_X12_faultOf_b98 {p : Program} {l : Launch} {e : Env} {s : State} {mi : MethodId} {args : Array Value} {below : List Frame} {meth : Method} {c : Code} {D : va_G} {cy : Nat → ClassId} {B sz : Nat} {sh : jm_S} {res : (Int × jm_M)} {N : Nat} {k4 : Nat → Int → Int → jm_M → Option (Int × jm_M)} {k65 : Nat → Int → Int → Int → jm_M → Option (Int × jm_M)} (C : jCx p s mi args meth c cX12_faultOf 5 RX12 (some .int) D cy) (K4 : ∀ (a0 : Nat) (x1 : Int) (x2 : Int) , jIn x1 → jIn x2 → ∀ (m : jm_M) (H : Heap) (locs : List Loc) (ls : Array Slot), jHs D cy B sz sh (jA B sz) s.heap H locs m → jL ls [some (jR B a0), some (jI x1), some (jI x2), none, none] → k4 a0 x1 x2 m = some res → W p l e (jrm 3 0 0) s mi args below meth c H locs 0 0 (MQ below (jQc D cy B sz sh res.2 (some (jI res.1)) (jIn res.1)) args s 0 0 (jA B sz)) (F0 mi 4 ls [])) (K65 : ∀ (a0 : Nat) (x1 : Int) (x2 : Int) (x4 : Int) , jIn x1 → jIn x2 → jIn x4 → ∀ (m : jm_M) (H : Heap) (locs : List Loc) (ls : Array Slot), jHs D cy B sz sh (jA B sz) s.heap H locs m → jL ls [some (jR B a0), some (jI x1), some (jI x2), none, some (jI x4)] → k65 a0 x1 x2 x4 m = some res → W p l e (jrm 3 0 0) s mi args below meth c H locs 0 0 (MQ below (jQc D cy B sz sh res.2 (some (jI res.1)) (jIn res.1)) args s 0 0 (jA B sz)) (F0 mi 65 ls [])) {a0 : Nat} {x1 : Int} (h_x1 : jIn x1) {x2 : Int} (h_x2 : jIn x2) {s0 : Int} (h_s0 : jIn s0) {m : jm_M} {H : Heap} {locs : List Loc} {ls : Array Slot} (S : jHs D cy B sz sh (jA B sz) s.heap H locs m) (L : jL ls [some (jR B a0), some (jI x1), some (jI x2), none, none]) (hyp : f_X12_faultOf_b98 N sh k4 k65 a0 x1 x2 s0 m = some res) : W p l e (jrm 3 0 0) s mi args below meth c H locs 0 0 (MQ below (jQc D cy B sz sh res.2 (some (jI res.1)) (jIn res.1)) args s 0 0 (jA B sz)) (F0 mi 98 ls [jI s0]) := by
  unfold f_X12_faultOf_b98 at hyp
  refine jr_istore (pc := 98) C L dX12_faultOf_98 (Nat.le_of_ble_eq_true rfl) (fun ls L => ?_)
  have L : jL ls [some (jR B a0), some (jI x1), some (jI x2), none, some (jI s0)] := L
  refine jr_iload_n (pc := 100) C L dX12_faultOf_100 rfl rfl ?_
  refine jr_iload (pc := 101) C L dX12_faultOf_101 rfl ?_
  refine jr_if_eq (pc := 103) C h_s0 (tgt := 110) dX12_faultOf_103 (by decide) (fun c3 => ?_) (fun c3 => ?_)
  · have hyp := (if_pos c3).symm.trans hyp
    refine jr_iconst (pc := 110) C dX12_faultOf_110 ?_
    exact t_X12_faultOf_b111 C  K4 K65 h_x2 h_s0 h_x1 (show jIn 0 from ⟨by decide, by decide⟩) S (L.sub (jsub_s (jsub_n (jsub_s (jsub_n (jsub_s jsub_0)))))) hyp
  · have hyp := (if_neg c3).symm.trans hyp
    refine jr_iconst (pc := 106) C dX12_faultOf_106 ?_
    refine jr_goto (pc := 107) C (tgt := 111) dX12_faultOf_107 (by decide) ?_
    exact t_X12_faultOf_b111 C  K4 K65 h_x2 h_s0 h_x1 (show jIn 1 from ⟨by decide, by decide⟩) S (L.sub (jsub_s (jsub_n (jsub_s (jsub_n (jsub_s jsub_0)))))) hyp
set_option maxHeartbeats 4000000 in
set_option maxRecDepth 100000 in
theorem t_X12_faultOf_b65 {p : Program} {l : Launch} {e : Env} {s : State} {mi : MethodId} {args : Array Value} {below : List Frame} {meth : Method} {c : Code} {D : va_G} {cy : Nat → ClassId} {B sz : Nat} {sh : jm_S} {res : (Int × jm_M)} {N : Nat} {k4 : Nat → Int → Int → jm_M → Option (Int × jm_M)} {k65 : Nat → Int → Int → Int → jm_M → Option (Int × jm_M)} (C : jCx p s mi args meth c cX12_faultOf 5 RX12 (some .int) D cy) (K4 : ∀ (a0 : Nat) (x1 : Int) (x2 : Int) , jIn x1 → jIn x2 → ∀ (m : jm_M) (H : Heap) (locs : List Loc) (ls : Array Slot), jHs D cy B sz sh (jA B sz) s.heap H locs m → jL ls [some (jR B a0), some (jI x1), some (jI x2), none, none] → k4 a0 x1 x2 m = some res → W p l e (jrm 3 0 0) s mi args below meth c H locs 0 0 (MQ below (jQc D cy B sz sh res.2 (some (jI res.1)) (jIn res.1)) args s 0 0 (jA B sz)) (F0 mi 4 ls [])) (K65 : ∀ (a0 : Nat) (x1 : Int) (x2 : Int) (x4 : Int) , jIn x1 → jIn x2 → jIn x4 → ∀ (m : jm_M) (H : Heap) (locs : List Loc) (ls : Array Slot), jHs D cy B sz sh (jA B sz) s.heap H locs m → jL ls [some (jR B a0), some (jI x1), some (jI x2), none, some (jI x4)] → k65 a0 x1 x2 x4 m = some res → W p l e (jrm 3 0 0) s mi args below meth c H locs 0 0 (MQ below (jQc D cy B sz sh res.2 (some (jI res.1)) (jIn res.1)) args s 0 0 (jA B sz)) (F0 mi 65 ls [])) {a0 : Nat} {x1 : Int} (h_x1 : jIn x1) {x2 : Int} (h_x2 : jIn x2) {x4 : Int} (h_x4 : jIn x4) {m : jm_M} {H : Heap} {locs : List Loc} {ls : Array Slot} (S : jHs D cy B sz sh (jA B sz) s.heap H locs m) (L : jL ls [some (jR B a0), some (jI x1), some (jI x2), none, some (jI x4)]) (hyp : f_X12_faultOf_b65 N sh k4 k65 a0 x1 x2 x4 m = some res) : W p l e (jrm 3 0 0) s mi args below meth c H locs 0 0 (MQ below (jQc D cy B sz sh res.2 (some (jI res.1)) (jIn res.1)) args s 0 0 (jA B sz)) (F0 mi 65 ls []) := by
  unfold f_X12_faultOf_b65 at hyp
  refine jr_iload (pc := 65) C L dX12_faultOf_65 rfl ?_
  refine jr_if_eq (pc := 67) C h_x4 (tgt := 132) dX12_faultOf_67 (by decide) (fun c4 => ?_) (fun c4 => ?_)
  · have hyp := (if_pos c4).symm.trans hyp
    refine jr_iload_n (pc := 132) C L dX12_faultOf_132 rfl rfl ?_
    refine jr_if_ne (pc := 133) C h_x1 (tgt := 155) dX12_faultOf_133 (by decide) (fun c5 => ?_) (fun c5 => ?_)
    · have hyp := (if_pos c5).symm.trans hyp
      refine jr_iload_n (pc := 136) C L dX12_faultOf_136 rfl rfl ?_
      refine jr_iconst (pc := 137) C dX12_faultOf_137 ?_
      refine jr_iadd (pc := 138) C dX12_faultOf_138 ?_
      refine jr_aload_n (pc := 139) C L dX12_faultOf_139 rfl rfl ?_
      obtain ⟨v6, hv6, hyp⟩ := jbind hyp
      have iv6 := jrf_in S hv6
      refine jr_getI (pc := 140) C S lf_X12_87 rfl hv6 dX12_faultOf_140 ?_
      refine jr_icmp_ne (pc := 143) C (jIn_w _) iv6 (tgt := 151) dX12_faultOf_143 (by decide) (fun c7 => ?_) (fun c7 => ?_)
      · have hyp := (if_pos c7).symm.trans hyp
        refine jr_bipush (pc := 146) C dX12_faultOf_146 (by decide) ?_
        refine jr_goto (pc := 148) C (tgt := 154) dX12_faultOf_148 (by decide) ?_
        cases hyp
        exact jr_iret C S (show jIn (-6) from ⟨by decide, by decide⟩) dX12_faultOf_154
      · have hyp := (if_neg c7).symm.trans hyp
        refine jr_iload_n (pc := 151) C L dX12_faultOf_151 rfl rfl ?_
        refine jr_iconst (pc := 152) C dX12_faultOf_152 ?_
        refine jr_iadd (pc := 153) C dX12_faultOf_153 ?_
        cases hyp
        exact jr_iret C S (jIn_w _) dX12_faultOf_154
    · have hyp := (if_neg c5).symm.trans hyp
      exact t_X12_faultOf_b155 C  K4 h_x1 h_x2 S (L.sub (jsub_s (jsub_s (jsub_s (jsub_n (jsub_n jsub_0)))))) hyp
  · have hyp := (if_neg c4).symm.trans hyp
    refine jr_aload_n (pc := 70) C L dX12_faultOf_70 rfl rfl ?_
    obtain ⟨v8, hv8, hyp⟩ := jbind hyp
    refine jr_getR (pc := 71) C S lf_X12_31 rfl hv8 dX12_faultOf_71 ?_
    refine jr_iload_n (pc := 74) C L dX12_faultOf_74 rfl rfl ?_
    refine jr_iconst (pc := 75) C dX12_faultOf_75 ?_
    refine jr_isub (pc := 76) C dX12_faultOf_76 ?_
    refine jr_dup2 (pc := 77) C dX12_faultOf_77 ?_
    obtain ⟨v9, hv9, hyp⟩ := jbind hyp
    have iv9 := jra_in S hv9
    refine jr_ial (pc := 78) C S (jIn_w _) hv9 dX12_faultOf_78 ?_
    refine jr_iconst (pc := 79) C dX12_faultOf_79 ?_
    refine jr_isub (pc := 80) C dX12_faultOf_80 ?_
    obtain ⟨m10, hm10, hyp⟩ := jbind hyp
    refine jr_ias (pc := 81) C S (jIn_w _) (jIn_w _) hm10 dX12_faultOf_81 (fun H locs S => ?_)
    refine jr_aload_n (pc := 82) C L dX12_faultOf_82 rfl rfl ?_
    obtain ⟨v11, hv11, hyp⟩ := jbind hyp
    refine jr_getR (pc := 83) C S lf_X12_31 rfl hv11 dX12_faultOf_83 ?_
    refine jr_iload_n (pc := 86) C L dX12_faultOf_86 rfl rfl ?_
    refine jr_iconst (pc := 87) C dX12_faultOf_87 ?_
    refine jr_isub (pc := 88) C dX12_faultOf_88 ?_
    obtain ⟨v12, hv12, hyp⟩ := jbind hyp
    have iv12 := jra_in S hv12
    refine jr_ial (pc := 89) C S (jIn_w _) hv12 dX12_faultOf_89 ?_
    refine jr_if_ne (pc := 90) C iv12 (tgt := 97) dX12_faultOf_90 (by decide) (fun c13 => ?_) (fun c13 => ?_)
    · have hyp := (if_pos c13).symm.trans hyp
      refine jr_iconst (pc := 93) C dX12_faultOf_93 ?_
      refine jr_goto (pc := 94) C (tgt := 98) dX12_faultOf_94 (by decide) ?_
      exact t_X12_faultOf_b98 C  K4 K65 h_x1 h_x2 (show jIn 1 from ⟨by decide, by decide⟩) S (L.sub (jsub_s (jsub_s (jsub_s (jsub_n (jsub_n jsub_0)))))) hyp
    · have hyp := (if_neg c13).symm.trans hyp
      refine jr_iconst (pc := 97) C dX12_faultOf_97 ?_
      exact t_X12_faultOf_b98 C  K4 K65 h_x1 h_x2 (show jIn 0 from ⟨by decide, by decide⟩) S (L.sub (jsub_s (jsub_s (jsub_s (jsub_n (jsub_n jsub_0)))))) hyp
theorem t_X12_faultOf_l65 {p : Program} {l : Launch} {e : Env} {s : State} {mi : MethodId} {args : Array Value} {below : List Frame} {meth : Method} {c : Code} {D : va_G} {cy : Nat → ClassId} {B sz : Nat} {sh : jm_S} {res : (Int × jm_M)} {N : Nat} {k4 : Nat → Int → Int → jm_M → Option (Int × jm_M)} (C : jCx p s mi args meth c cX12_faultOf 5 RX12 (some .int) D cy) (K4 : ∀ (a0 : Nat) (x1 : Int) (x2 : Int) , jIn x1 → jIn x2 → ∀ (m : jm_M) (H : Heap) (locs : List Loc) (ls : Array Slot), jHs D cy B sz sh (jA B sz) s.heap H locs m → jL ls [some (jR B a0), some (jI x1), some (jI x2), none, none] → k4 a0 x1 x2 m = some res → W p l e (jrm 3 0 0) s mi args below meth c H locs 0 0 (MQ below (jQc D cy B sz sh res.2 (some (jI res.1)) (jIn res.1)) args s 0 0 (jA B sz)) (F0 mi 4 ls [])) : ∀ (n : Nat) (a0 : Nat) (x1 : Int) (x2 : Int) (x4 : Int), jIn x1 → jIn x2 → jIn x4 → ∀ (m : jm_M) (H : Heap) (locs : List Loc) (ls : Array Slot), jHs D cy B sz sh (jA B sz) s.heap H locs m → jL ls [some (jR B a0), some (jI x1), some (jI x2), none, some (jI x4)] → f_X12_faultOf_l65 N sh k4 n a0 x1 x2 x4 m = some res → W p l e (jrm 3 0 0) s mi args below meth c H locs 0 0 (MQ below (jQc D cy B sz sh res.2 (some (jI res.1)) (jIn res.1)) args s 0 0 (jA B sz)) (F0 mi 65 ls []) := by
  intro n
  induction n with
  | zero => intro a0 x1 x2 x4 h_x1 h_x2 h_x4 m H locs ls S L hyp; cases hyp
  | succ n ih => intro a0 x1 x2 x4 h_x1 h_x2 h_x4 m H locs ls S L hyp; exact t_X12_faultOf_b65 (N := N) C  K4 ih h_x1 h_x2 h_x4 S L hyp
set_option maxHeartbeats 4000000 in
set_option maxRecDepth 100000 in
theorem t_X12_faultOf_b63 {p : Program} {l : Launch} {e : Env} {s : State} {mi : MethodId} {args : Array Value} {below : List Frame} {meth : Method} {c : Code} {D : va_G} {cy : Nat → ClassId} {B sz : Nat} {sh : jm_S} {res : (Int × jm_M)} {N : Nat} {k4 : Nat → Int → Int → jm_M → Option (Int × jm_M)} (C : jCx p s mi args meth c cX12_faultOf 5 RX12 (some .int) D cy) (K4 : ∀ (a0 : Nat) (x1 : Int) (x2 : Int) , jIn x1 → jIn x2 → ∀ (m : jm_M) (H : Heap) (locs : List Loc) (ls : Array Slot), jHs D cy B sz sh (jA B sz) s.heap H locs m → jL ls [some (jR B a0), some (jI x1), some (jI x2), none, none] → k4 a0 x1 x2 m = some res → W p l e (jrm 3 0 0) s mi args below meth c H locs 0 0 (MQ below (jQc D cy B sz sh res.2 (some (jI res.1)) (jIn res.1)) args s 0 0 (jA B sz)) (F0 mi 4 ls [])) {a0 : Nat} {x1 : Int} (h_x1 : jIn x1) {x2 : Int} (h_x2 : jIn x2) {s0 : Int} (h_s0 : jIn s0) {m : jm_M} {H : Heap} {locs : List Loc} {ls : Array Slot} (S : jHs D cy B sz sh (jA B sz) s.heap H locs m) (L : jL ls [some (jR B a0), some (jI x1), some (jI x2), none, none]) (hyp : f_X12_faultOf_b63 N sh k4 a0 x1 x2 s0 m = some res) : W p l e (jrm 3 0 0) s mi args below meth c H locs 0 0 (MQ below (jQc D cy B sz sh res.2 (some (jI res.1)) (jIn res.1)) args s 0 0 (jA B sz)) (F0 mi 63 ls [jI s0]) := by
  unfold f_X12_faultOf_b63 at hyp
  refine jr_istore (pc := 63) C L dX12_faultOf_63 (Nat.le_of_ble_eq_true rfl) (fun ls L => ?_)
  have L : jL ls [some (jR B a0), some (jI x1), some (jI x2), none, some (jI s0)] := L
  exact t_X12_faultOf_l65 C  K4 N a0 x1 x2 s0 h_x1 h_x2 h_s0 m _ _ _ S (L.sub (jsub_s (jsub_s (jsub_s (jsub_n (jsub_s jsub_0)))))) hyp
set_option maxHeartbeats 4000000 in
set_option maxRecDepth 100000 in
theorem t_X12_faultOf_b37 {p : Program} {l : Launch} {e : Env} {s : State} {mi : MethodId} {args : Array Value} {below : List Frame} {meth : Method} {c : Code} {D : va_G} {cy : Nat → ClassId} {B sz : Nat} {sh : jm_S} {res : (Int × jm_M)} {N : Nat} {k4 : Nat → Int → Int → jm_M → Option (Int × jm_M)} (C : jCx p s mi args meth c cX12_faultOf 5 RX12 (some .int) D cy) (K4 : ∀ (a0 : Nat) (x1 : Int) (x2 : Int) , jIn x1 → jIn x2 → ∀ (m : jm_M) (H : Heap) (locs : List Loc) (ls : Array Slot), jHs D cy B sz sh (jA B sz) s.heap H locs m → jL ls [some (jR B a0), some (jI x1), some (jI x2), none, none] → k4 a0 x1 x2 m = some res → W p l e (jrm 3 0 0) s mi args below meth c H locs 0 0 (MQ below (jQc D cy B sz sh res.2 (some (jI res.1)) (jIn res.1)) args s 0 0 (jA B sz)) (F0 mi 4 ls [])) {a0 : Nat} {x1 : Int} (h_x1 : jIn x1) {x2 : Int} (h_x2 : jIn x2) {x3 : Int} (h_x3 : jIn x3) {m : jm_M} {H : Heap} {locs : List Loc} {ls : Array Slot} (S : jHs D cy B sz sh (jA B sz) s.heap H locs m) (L : jL ls [some (jR B a0), some (jI x1), some (jI x2), some (jI x3), none]) (hyp : f_X12_faultOf_b37 N sh k4 a0 x1 x2 x3 m = some res) : W p l e (jrm 3 0 0) s mi args below meth c H locs 0 0 (MQ below (jQc D cy B sz sh res.2 (some (jI res.1)) (jIn res.1)) args s 0 0 (jA B sz)) (F0 mi 37 ls []) := by
  unfold f_X12_faultOf_b37 at hyp
  refine jr_iload_n (pc := 37) C L dX12_faultOf_37 rfl rfl ?_
  refine jr_if_le (pc := 38) C h_x3 (tgt := 54) dX12_faultOf_38 (by decide) (fun c14 => ?_) (fun c14 => ?_)
  · have hyp := (if_pos c14).symm.trans hyp
    refine jr_aload_n (pc := 41) C L dX12_faultOf_41 rfl rfl ?_
    obtain ⟨v15, hv15, hyp⟩ := jbind hyp
    refine jr_getR (pc := 42) C S lf_X12_31 rfl hv15 dX12_faultOf_42 ?_
    refine jr_iload_n (pc := 45) C L dX12_faultOf_45 rfl rfl ?_
    refine jr_iload_n (pc := 46) C L dX12_faultOf_46 rfl rfl ?_
    obtain ⟨m16, hm16, hyp⟩ := jbind hyp
    refine jr_ias (pc := 47) C S h_x1 h_x3 hm16 dX12_faultOf_47 (fun H locs S => ?_)
    refine jr_iinc (pc := 48) C L dX12_faultOf_48 rfl (Nat.le_of_ble_eq_true rfl) (fun ls L => ?_)
    have L : jL ls [some (jR B a0), some (jI (jw (x1 + 1))), some (jI x2), some (jI x3), none] := L
    refine jr_goto (pc := 51) C (tgt := 155) dX12_faultOf_51 (by decide) ?_
    exact t_X12_faultOf_b155 C  K4 (jIn_w _) h_x2 S (L.sub (jsub_s (jsub_s (jsub_s (jsub_n (jsub_n jsub_0)))))) hyp
  · have hyp := (if_neg c14).symm.trans hyp
    refine jr_iload_n (pc := 54) C L dX12_faultOf_54 rfl rfl ?_
    refine jr_if_le (pc := 55) C h_x1 (tgt := 62) dX12_faultOf_55 (by decide) (fun c17 => ?_) (fun c17 => ?_)
    · have hyp := (if_pos c17).symm.trans hyp
      refine jr_iconst (pc := 58) C dX12_faultOf_58 ?_
      refine jr_goto (pc := 59) C (tgt := 63) dX12_faultOf_59 (by decide) ?_
      exact t_X12_faultOf_b63 C  K4 h_x1 h_x2 (show jIn 1 from ⟨by decide, by decide⟩) S (L.sub (jsub_s (jsub_s (jsub_s (jsub_n (jsub_n jsub_0)))))) hyp
    · have hyp := (if_neg c17).symm.trans hyp
      refine jr_iconst (pc := 62) C dX12_faultOf_62 ?_
      exact t_X12_faultOf_b63 C  K4 h_x1 h_x2 (show jIn 0 from ⟨by decide, by decide⟩) S (L.sub (jsub_s (jsub_s (jsub_s (jsub_n (jsub_n jsub_0)))))) hyp
set_option maxHeartbeats 4000000 in
set_option maxRecDepth 100000 in
theorem t_X12_faultOf_b4 {p : Program} {l : Launch} {e : Env} {s : State} {mi : MethodId} {args : Array Value} {below : List Frame} {meth : Method} {c : Code} {D : va_G} {cy : Nat → ClassId} {B sz : Nat} {sh : jm_S} {res : (Int × jm_M)} {N : Nat} {k4 : Nat → Int → Int → jm_M → Option (Int × jm_M)} (C : jCx p s mi args meth c cX12_faultOf 5 RX12 (some .int) D cy) (K4 : ∀ (a0 : Nat) (x1 : Int) (x2 : Int) , jIn x1 → jIn x2 → ∀ (m : jm_M) (H : Heap) (locs : List Loc) (ls : Array Slot), jHs D cy B sz sh (jA B sz) s.heap H locs m → jL ls [some (jR B a0), some (jI x1), some (jI x2), none, none] → k4 a0 x1 x2 m = some res → W p l e (jrm 3 0 0) s mi args below meth c H locs 0 0 (MQ below (jQc D cy B sz sh res.2 (some (jI res.1)) (jIn res.1)) args s 0 0 (jA B sz)) (F0 mi 4 ls [])) {a0 : Nat} {x1 : Int} (h_x1 : jIn x1) {x2 : Int} (h_x2 : jIn x2) {m : jm_M} {H : Heap} {locs : List Loc} {ls : Array Slot} (S : jHs D cy B sz sh (jA B sz) s.heap H locs m) (L : jL ls [some (jR B a0), some (jI x1), some (jI x2), none, none]) (hyp : f_X12_faultOf_b4 N sh k4 a0 x1 x2 m = some res) : W p l e (jrm 3 0 0) s mi args below meth c H locs 0 0 (MQ below (jQc D cy B sz sh res.2 (some (jI res.1)) (jIn res.1)) args s 0 0 (jA B sz)) (F0 mi 4 ls []) := by
  unfold f_X12_faultOf_b4 at hyp
  refine jr_iload_n (pc := 4) C L dX12_faultOf_4 rfl rfl ?_
  refine jr_aload_n (pc := 5) C L dX12_faultOf_5 rfl rfl ?_
  obtain ⟨v18, hv18, hyp⟩ := jbind hyp
  have iv18 := jrf_in S hv18
  refine jr_getI (pc := 6) C S lf_X12_87 rfl hv18 dX12_faultOf_6 ?_
  refine jr_icmp_ge (pc := 9) C h_x2 iv18 (tgt := 161) dX12_faultOf_9 (by decide) (fun c19 => ?_) (fun c19 => ?_)
  · have hyp := (if_pos c19).symm.trans hyp
    refine jr_aload_n (pc := 12) C L dX12_faultOf_12 rfl rfl ?_
    obtain ⟨v20, hv20, hyp⟩ := jbind hyp
    refine jr_getR (pc := 13) C S lf_X12_13 rfl hv20 dX12_faultOf_13 ?_
    refine jr_iload_n (pc := 16) C L dX12_faultOf_16 rfl rfl ?_
    obtain ⟨v21, hv21, hyp⟩ := jbind hyp
    have iv21 := jra_in S hv21
    refine jr_ial (pc := 17) C S h_x2 hv21 dX12_faultOf_17 ?_
    obtain ⟨q22, hq22, hyp⟩ := jbind hyp
    refine jr_callS_I (pc := 18) C S L (As := [jI v21]) (rest := []) (c_X12_partsOf (m0 := m) iv21 hq22) ms_X12_partsOf ml_X12_95 (by decide) rfl rfl rfl (Nat.le_of_ble_eq_true rfl) ⟨Nat.le_refl 0, Nat.le_refl 0⟩ dX12_faultOf_18 (fun p23 H locs S => ?_)
    refine jr_istore_n (pc := 21) C L dX12_faultOf_21 rfl (Nat.le_of_ble_eq_true rfl) (fun ls L => ?_)
    have L : jL ls [some (jR B a0), some (jI x1), some (jI x2), some (jI q22), none] := L
    refine jr_iload_n (pc := 22) C L dX12_faultOf_22 rfl rfl ?_
    refine jr_if_lt (pc := 23) C p23 (tgt := 35) dX12_faultOf_23 (by decide) (fun c24 => ?_) (fun c24 => ?_)
    · have hyp := (if_pos c24).symm.trans hyp
      refine jr_iload_n (pc := 35) C L dX12_faultOf_35 rfl rfl ?_
      cases hyp
      exact jr_iret C S h_x2 dX12_faultOf_36
    · have hyp := (if_neg c24).symm.trans hyp
      refine jr_iload_n (pc := 26) C L dX12_faultOf_26 rfl rfl ?_
      refine jr_if_le (pc := 27) C p23 (tgt := 37) dX12_faultOf_27 (by decide) (fun c25 => ?_) (fun c25 => ?_)
      · have hyp := (if_pos c25).symm.trans hyp
        refine jr_iload_n (pc := 30) C L dX12_faultOf_30 rfl rfl ?_
        refine jr_iconst (pc := 31) C dX12_faultOf_31 ?_
        refine jr_icmp_ne (pc := 32) C h_x1 (show jIn 4 from ⟨by decide, by decide⟩) (tgt := 37) dX12_faultOf_32 (by decide) (fun c26 => ?_) (fun c26 => ?_)
        · have hyp := (if_pos c26).symm.trans hyp
          refine jr_iload_n (pc := 35) C L dX12_faultOf_35 rfl rfl ?_
          cases hyp
          exact jr_iret C S h_x2 dX12_faultOf_36
        · have hyp := (if_neg c26).symm.trans hyp
          exact t_X12_faultOf_b37 C  K4 h_x1 h_x2 p23 S (L.sub (jsub_s (jsub_s (jsub_s (jsub_s (jsub_n jsub_0)))))) hyp
      · have hyp := (if_neg c25).symm.trans hyp
        exact t_X12_faultOf_b37 C  K4 h_x1 h_x2 p23 S (L.sub (jsub_s (jsub_s (jsub_s (jsub_s (jsub_n jsub_0)))))) hyp
  · have hyp := (if_neg c19).symm.trans hyp
    refine jr_aload_n (pc := 161) C L dX12_faultOf_161 rfl rfl ?_
    obtain ⟨v27, hv27, hyp⟩ := jbind hyp
    have iv27 := jrf_in S hv27
    refine jr_getI (pc := 162) C S lf_X12_87 rfl hv27 dX12_faultOf_162 ?_
    cases hyp
    exact jr_iret C S iv27 dX12_faultOf_165
theorem t_X12_faultOf_l4 {p : Program} {l : Launch} {e : Env} {s : State} {mi : MethodId} {args : Array Value} {below : List Frame} {meth : Method} {c : Code} {D : va_G} {cy : Nat → ClassId} {B sz : Nat} {sh : jm_S} {res : (Int × jm_M)} {N : Nat} (C : jCx p s mi args meth c cX12_faultOf 5 RX12 (some .int) D cy) : ∀ (n : Nat) (a0 : Nat) (x1 : Int) (x2 : Int), jIn x1 → jIn x2 → ∀ (m : jm_M) (H : Heap) (locs : List Loc) (ls : Array Slot), jHs D cy B sz sh (jA B sz) s.heap H locs m → jL ls [some (jR B a0), some (jI x1), some (jI x2), none, none] → f_X12_faultOf_l4 N sh n a0 x1 x2 m = some res → W p l e (jrm 3 0 0) s mi args below meth c H locs 0 0 (MQ below (jQc D cy B sz sh res.2 (some (jI res.1)) (jIn res.1)) args s 0 0 (jA B sz)) (F0 mi 4 ls []) := by
  intro n
  induction n with
  | zero => intro a0 x1 x2 h_x1 h_x2 m H locs ls S L hyp; cases hyp
  | succ n ih => intro a0 x1 x2 h_x1 h_x2 m H locs ls S L hyp; exact t_X12_faultOf_b4 (N := N) C  ih h_x1 h_x2 S L hyp
set_option maxHeartbeats 4000000 in
set_option maxRecDepth 100000 in
theorem t_X12_faultOf_e {p : Program} {l : Launch} {e : Env} {s : State} {mi : MethodId} {args : Array Value} {below : List Frame} {meth : Method} {c : Code} {D : va_G} {cy : Nat → ClassId} {B sz : Nat} {sh : jm_S} {res : (Int × jm_M)} {N : Nat} (C : jCx p s mi args meth c cX12_faultOf 5 RX12 (some .int) D cy) {a0 : Nat} {m : jm_M} {H : Heap} {locs : List Loc} {ls : Array Slot} (S : jHs D cy B sz sh (jA B sz) s.heap H locs m) (L : jL ls [some (jR B a0), none, none, none, none]) (hyp : f_X12_faultOf N sh a0 m = some res) : W p l e (jrm 3 0 0) s mi args below meth c H locs 0 0 (MQ below (jQc D cy B sz sh res.2 (some (jI res.1)) (jIn res.1)) args s 0 0 (jA B sz)) (F0 mi 0 ls []) := by
  unfold f_X12_faultOf at hyp
  refine jr_iconst (pc := 0) C dX12_faultOf_0 ?_
  refine jr_istore_n (pc := 1) C L dX12_faultOf_1 rfl (Nat.le_of_ble_eq_true rfl) (fun ls L => ?_)
  have L : jL ls [some (jR B a0), some (jI 0), none, none, none] := L
  refine jr_iconst (pc := 2) C dX12_faultOf_2 ?_
  refine jr_istore_n (pc := 3) C L dX12_faultOf_3 rfl (Nat.le_of_ble_eq_true rfl) (fun ls L => ?_)
  have L : jL ls [some (jR B a0), some (jI 0), some (jI 0), none, none] := L
  exact t_X12_faultOf_l4 C   N a0 0 0 (show jIn 0 from ⟨by decide, by decide⟩) (show jIn 0 from ⟨by decide, by decide⟩) m _ _ _ S (L.sub (jsub_s (jsub_s (jsub_s (jsub_n (jsub_n jsub_0)))))) hyp
theorem c_X12_faultOf {l : Launch} {D : va_G} {cy : Nat → ClassId} {B sz : Nat} {sh : jm_S} {res : (Int × jm_M)} {N : Nat} {m : jm_M} {a0 : Nat} (hyp : f_X12_faultOf N sh a0 m = some res) : jCt l D cy B sz sh 3 yX12_faultOf cX12_faultOf 5 (some .int) [jR B a0] m (some (jI res.1)) res.2 (jIn res.1) :=
  jc_of (by decide) (fun v h => by rw [List.mem_singleton.mp h]; first | rfl | exact jR_cat _ _) (Nat.le_of_ble_eq_true rfl) (fun C S L => t_X12_faultOf_e C   S L hyp)
set_option maxHeartbeats 4000000 in
set_option maxRecDepth 100000 in
theorem t_X12_fault_e {p : Program} {l : Launch} {e : Env} {s : State} {mi : MethodId} {args : Array Value} {below : List Frame} {meth : Method} {c : Code} {D : va_G} {cy : Nat → ClassId} {B sz : Nat} {sh : jm_S} {res : (Int × jm_M)} {N : Nat} (C : jCx p s mi args meth c cX12_fault 1 RX12 (some .int) D cy) {a0 : Nat} {m : jm_M} {H : Heap} {locs : List Loc} {ls : Array Slot} (S : jHs D cy B sz sh (jA B sz) s.heap H locs m) (L : jL ls [some (jR B a0)]) (hyp : f_X12_fault N sh a0 m = some res) : W p l e (jrm 4 0 0) s mi args below meth c H locs 0 0 (MQ below (jQc D cy B sz sh res.2 (some (jI res.1)) (jIn res.1)) args s 0 0 (jA B sz)) (F0 mi 0 ls []) := by
  unfold f_X12_fault at hyp
  refine jr_aload_n (pc := 0) C L dX12_fault_0 rfl rfl ?_
  obtain ⟨u1, hu1, hyp⟩ := jbind hyp
  obtain ⟨q2, hq2, hyp⟩ := jbind hyp
  refine jr_callV_I (pc := 1) C S L (As := []) (rest := []) (c_X12_faultOf  hq2) mv_X12_faultOf ml_X12_99 rfl (jck_spec hu1) (by decide) rfl rfl rfl (Nat.le_of_ble_eq_true rfl) ⟨Nat.le_refl 0, Nat.le_refl 0⟩ dX12_fault_1 (fun p3 H locs S => ?_)
  cases hyp
  exact jr_iret C S p3 dX12_fault_4
theorem c_X12_fault {l : Launch} {D : va_G} {cy : Nat → ClassId} {B sz : Nat} {sh : jm_S} {res : (Int × jm_M)} {N : Nat} {m : jm_M} {a0 : Nat} (hyp : f_X12_fault N sh a0 m = some res) : jCt l D cy B sz sh 4 yX12_fault cX12_fault 1 (some .int) [jR B a0] m (some (jI res.1)) res.2 (jIn res.1) :=
  jc_of (by decide) (fun v h => by rw [List.mem_singleton.mp h]; first | rfl | exact jR_cat _ _) (Nat.le_of_ble_eq_true rfl) (fun C S L => t_X12_fault_e C   S L hyp)
set_option maxHeartbeats 4000000 in
set_option maxRecDepth 100000 in
theorem t_X12_laySizes_b26 {p : Program} {l : Launch} {e : Env} {s : State} {mi : MethodId} {args : Array Value} {below : List Frame} {meth : Method} {c : Code} {D : va_G} {cy : Nat → ClassId} {B sz : Nat} {sh : jm_S} {res : jm_M} {N : Nat} {k9 : Nat → Int → Int → jm_M → Option jm_M} {k26 : Nat → Int → Int → Int → Int → Int → jm_M → Option jm_M} (C : jCx p s mi args meth c cX12_laySizes 6 RX12 none D cy) (K9 : ∀ (a0 : Nat) (x1 : Int) (x2 : Int) , jIn x1 → jIn x2 → ∀ (m : jm_M) (H : Heap) (locs : List Loc) (ls : Array Slot), jHs D cy B sz sh (jA B sz) s.heap H locs m → jL ls [some (jR B a0), some (jI x1), some (jI x2), none, none, none] → k9 a0 x1 x2 m = some res → W p l e (jrm 3 0 0) s mi args below meth c H locs 0 0 (MQ below (jQc D cy B sz sh res none True) args s 0 0 (jA B sz)) (F0 mi 9 ls [])) (K26 : ∀ (a0 : Nat) (x1 : Int) (x2 : Int) (x3 : Int) (x4 : Int) (x5 : Int) , jIn x1 → jIn x2 → jIn x3 → jIn x4 → jIn x5 → ∀ (m : jm_M) (H : Heap) (locs : List Loc) (ls : Array Slot), jHs D cy B sz sh (jA B sz) s.heap H locs m → jL ls [some (jR B a0), some (jI x1), some (jI x2), some (jI x3), some (jI x4), some (jI x5)] → k26 a0 x1 x2 x3 x4 x5 m = some res → W p l e (jrm 3 0 0) s mi args below meth c H locs 0 0 (MQ below (jQc D cy B sz sh res none True) args s 0 0 (jA B sz)) (F0 mi 26 ls [])) {a0 : Nat} {x1 : Int} (h_x1 : jIn x1) {x2 : Int} (h_x2 : jIn x2) {x3 : Int} (h_x3 : jIn x3) {x4 : Int} (h_x4 : jIn x4) {x5 : Int} (h_x5 : jIn x5) {m : jm_M} {H : Heap} {locs : List Loc} {ls : Array Slot} (S : jHs D cy B sz sh (jA B sz) s.heap H locs m) (L : jL ls [some (jR B a0), some (jI x1), some (jI x2), some (jI x3), some (jI x4), some (jI x5)]) (hyp : f_X12_laySizes_b26 N sh k9 k26 a0 x1 x2 x3 x4 x5 m = some res) : W p l e (jrm 3 0 0) s mi args below meth c H locs 0 0 (MQ below (jQc D cy B sz sh res none True) args s 0 0 (jA B sz)) (F0 mi 26 ls []) := by
  unfold f_X12_laySizes_b26 at hyp
  refine jr_iload (pc := 26) C L dX12_laySizes_26 rfl ?_
  refine jr_aload_n (pc := 28) C L dX12_laySizes_28 rfl rfl ?_
  obtain ⟨v1, hv1, hyp⟩ := jbind hyp
  refine jr_getR (pc := 29) C S lf_X12_19 rfl hv1 dX12_laySizes_29 ?_
  refine jr_iload_n (pc := 32) C L dX12_laySizes_32 rfl rfl ?_
  obtain ⟨v2, hv2, hyp⟩ := jbind hyp
  have iv2 := jra_in S hv2
  refine jr_ial (pc := 33) C S h_x3 hv2 dX12_laySizes_33 ?_
  obtain ⟨q3, hq3, hyp⟩ := jbind hyp
  refine jr_callS_I (pc := 34) C S L (As := [jI v2]) (rest := [jI x5]) (c_X12_partsOf (m0 := m) iv2 hq3) ms_X12_partsOf ml_X12_95 (by decide) rfl rfl rfl (Nat.le_of_ble_eq_true rfl) ⟨Nat.le_refl 0, Nat.le_refl 0⟩ dX12_laySizes_34 (fun p4 H locs S => ?_)
  refine jr_icmp_ge (pc := 37) C h_x5 p4 (tgt := 60) dX12_laySizes_37 (by decide) (fun c5 => ?_) (fun c5 => ?_)
  · have hyp := (if_pos c5).symm.trans hyp
    refine jr_iload (pc := 40) C L dX12_laySizes_40 rfl ?_
    refine jr_aload_n (pc := 42) C L dX12_laySizes_42 rfl rfl ?_
    obtain ⟨v6, hv6, hyp⟩ := jbind hyp
    refine jr_getR (pc := 43) C S lf_X12_22 rfl hv6 dX12_laySizes_43 ?_
    refine jr_iload_n (pc := 46) C L dX12_laySizes_46 rfl rfl ?_
    refine jr_iload (pc := 47) C L dX12_laySizes_47 rfl ?_
    refine jr_iadd (pc := 49) C dX12_laySizes_49 ?_
    obtain ⟨v7, hv7, hyp⟩ := jbind hyp
    have iv7 := jra_in S hv7
    refine jr_ial (pc := 50) C S (jIn_w _) hv7 dX12_laySizes_50 ?_
    refine jr_iadd (pc := 51) C dX12_laySizes_51 ?_
    refine jr_istore (pc := 52) C L dX12_laySizes_52 (Nat.le_of_ble_eq_true rfl) (fun ls L => ?_)
    have L : jL ls [some (jR B a0), some (jI x1), some (jI x2), some (jI x3), some (jI (jw (x4 + v7))), some (jI x5)] := L
    refine jr_iinc (pc := 54) C L dX12_laySizes_54 rfl (Nat.le_of_ble_eq_true rfl) (fun ls L => ?_)
    have L : jL ls [some (jR B a0), some (jI x1), some (jI x2), some (jI x3), some (jI (jw (x4 + v7))), some (jI (jw (x5 + 1)))] := L
    refine jr_goto (pc := 57) C (tgt := 26) dX12_laySizes_57 (by decide) ?_
    exact K26 a0 x1 x2 x3 (jw (x4 + v7)) (jw (x5 + 1)) h_x1 h_x2 h_x3 (jIn_w _) (jIn_w _) m _ _ _ S (L.sub (jsub_s (jsub_s (jsub_s (jsub_s (jsub_s (jsub_s jsub_0))))))) hyp
  · have hyp := (if_neg c5).symm.trans hyp
    refine jr_aload_n (pc := 60) C L dX12_laySizes_60 rfl rfl ?_
    obtain ⟨v8, hv8, hyp⟩ := jbind hyp
    refine jr_getR (pc := 61) C S lf_X12_22 rfl hv8 dX12_laySizes_61 ?_
    refine jr_iload_n (pc := 64) C L dX12_laySizes_64 rfl rfl ?_
    refine jr_iload (pc := 65) C L dX12_laySizes_65 rfl ?_
    obtain ⟨m9, hm9, hyp⟩ := jbind hyp
    refine jr_ias (pc := 67) C S h_x3 h_x4 hm9 dX12_laySizes_67 (fun H locs S => ?_)
    refine jr_iinc (pc := 68) C L dX12_laySizes_68 rfl (Nat.le_of_ble_eq_true rfl) (fun ls L => ?_)
    have L : jL ls [some (jR B a0), some (jI x1), some (jI (jw (x2 + (-1)))), some (jI x3), some (jI x4), some (jI x5)] := L
    refine jr_goto (pc := 71) C (tgt := 9) dX12_laySizes_71 (by decide) ?_
    exact K9 a0 x1 (jw (x2 + (-1))) h_x1 (jIn_w _) m9 _ _ _ S (L.sub (jsub_s (jsub_s (jsub_s (jsub_n (jsub_n (jsub_n jsub_0))))))) hyp
theorem t_X12_laySizes_l26 {p : Program} {l : Launch} {e : Env} {s : State} {mi : MethodId} {args : Array Value} {below : List Frame} {meth : Method} {c : Code} {D : va_G} {cy : Nat → ClassId} {B sz : Nat} {sh : jm_S} {res : jm_M} {N : Nat} {k9 : Nat → Int → Int → jm_M → Option jm_M} (C : jCx p s mi args meth c cX12_laySizes 6 RX12 none D cy) (K9 : ∀ (a0 : Nat) (x1 : Int) (x2 : Int) , jIn x1 → jIn x2 → ∀ (m : jm_M) (H : Heap) (locs : List Loc) (ls : Array Slot), jHs D cy B sz sh (jA B sz) s.heap H locs m → jL ls [some (jR B a0), some (jI x1), some (jI x2), none, none, none] → k9 a0 x1 x2 m = some res → W p l e (jrm 3 0 0) s mi args below meth c H locs 0 0 (MQ below (jQc D cy B sz sh res none True) args s 0 0 (jA B sz)) (F0 mi 9 ls [])) : ∀ (n : Nat) (a0 : Nat) (x1 : Int) (x2 : Int) (x3 : Int) (x4 : Int) (x5 : Int), jIn x1 → jIn x2 → jIn x3 → jIn x4 → jIn x5 → ∀ (m : jm_M) (H : Heap) (locs : List Loc) (ls : Array Slot), jHs D cy B sz sh (jA B sz) s.heap H locs m → jL ls [some (jR B a0), some (jI x1), some (jI x2), some (jI x3), some (jI x4), some (jI x5)] → f_X12_laySizes_l26 N sh k9 n a0 x1 x2 x3 x4 x5 m = some res → W p l e (jrm 3 0 0) s mi args below meth c H locs 0 0 (MQ below (jQc D cy B sz sh res none True) args s 0 0 (jA B sz)) (F0 mi 26 ls []) := by
  intro n
  induction n with
  | zero => intro a0 x1 x2 x3 x4 x5 h_x1 h_x2 h_x3 h_x4 h_x5 m H locs ls S L hyp; cases hyp
  | succ n ih => intro a0 x1 x2 x3 x4 x5 h_x1 h_x2 h_x3 h_x4 h_x5 m H locs ls S L hyp; exact t_X12_laySizes_b26 (N := N) C  K9 ih h_x1 h_x2 h_x3 h_x4 h_x5 S L hyp
set_option maxHeartbeats 4000000 in
set_option maxRecDepth 100000 in
theorem t_X12_laySizes_b9 {p : Program} {l : Launch} {e : Env} {s : State} {mi : MethodId} {args : Array Value} {below : List Frame} {meth : Method} {c : Code} {D : va_G} {cy : Nat → ClassId} {B sz : Nat} {sh : jm_S} {res : jm_M} {N : Nat} {k9 : Nat → Int → Int → jm_M → Option jm_M} (C : jCx p s mi args meth c cX12_laySizes 6 RX12 none D cy) (K9 : ∀ (a0 : Nat) (x1 : Int) (x2 : Int) , jIn x1 → jIn x2 → ∀ (m : jm_M) (H : Heap) (locs : List Loc) (ls : Array Slot), jHs D cy B sz sh (jA B sz) s.heap H locs m → jL ls [some (jR B a0), some (jI x1), some (jI x2), none, none, none] → k9 a0 x1 x2 m = some res → W p l e (jrm 3 0 0) s mi args below meth c H locs 0 0 (MQ below (jQc D cy B sz sh res none True) args s 0 0 (jA B sz)) (F0 mi 9 ls [])) {a0 : Nat} {x1 : Int} (h_x1 : jIn x1) {x2 : Int} (h_x2 : jIn x2) {m : jm_M} {H : Heap} {locs : List Loc} {ls : Array Slot} (S : jHs D cy B sz sh (jA B sz) s.heap H locs m) (L : jL ls [some (jR B a0), some (jI x1), some (jI x2), none, none, none]) (hyp : f_X12_laySizes_b9 N sh k9 a0 x1 x2 m = some res) : W p l e (jrm 3 0 0) s mi args below meth c H locs 0 0 (MQ below (jQc D cy B sz sh res none True) args s 0 0 (jA B sz)) (F0 mi 9 ls []) := by
  unfold f_X12_laySizes_b9 at hyp
  refine jr_iload_n (pc := 9) C L dX12_laySizes_9 rfl rfl ?_
  refine jr_if_lt (pc := 10) C h_x2 (tgt := 74) dX12_laySizes_10 (by decide) (fun c10 => ?_) (fun c10 => ?_)
  · have hyp := (if_pos c10).symm.trans hyp
    cases hyp
    exact jr_vret C S trivial dX12_laySizes_74
  · have hyp := (if_neg c10).symm.trans hyp
    refine jr_bipush (pc := 13) C dX12_laySizes_13 (by decide) ?_
    refine jr_iload_n (pc := 15) C L dX12_laySizes_15 rfl rfl ?_
    refine jr_imul (pc := 16) C dX12_laySizes_16 ?_
    refine jr_iload_n (pc := 17) C L dX12_laySizes_17 rfl rfl ?_
    refine jr_iadd (pc := 18) C dX12_laySizes_18 ?_
    refine jr_istore_n (pc := 19) C L dX12_laySizes_19 rfl (Nat.le_of_ble_eq_true rfl) (fun ls L => ?_)
    have L : jL ls [some (jR B a0), some (jI x1), some (jI x2), some (jI (jw ((jw (30 * x1)) + x2))), none, none] := L
    refine jr_iconst (pc := 20) C dX12_laySizes_20 ?_
    refine jr_istore (pc := 21) C L dX12_laySizes_21 (Nat.le_of_ble_eq_true rfl) (fun ls L => ?_)
    have L : jL ls [some (jR B a0), some (jI x1), some (jI x2), some (jI (jw ((jw (30 * x1)) + x2))), some (jI 1), none] := L
    refine jr_iconst (pc := 23) C dX12_laySizes_23 ?_
    refine jr_istore (pc := 24) C L dX12_laySizes_24 (Nat.le_of_ble_eq_true rfl) (fun ls L => ?_)
    have L : jL ls [some (jR B a0), some (jI x1), some (jI x2), some (jI (jw ((jw (30 * x1)) + x2))), some (jI 1), some (jI 0)] := L
    exact t_X12_laySizes_l26 C  K9 N a0 x1 x2 (jw ((jw (30 * x1)) + x2)) 1 0 h_x1 h_x2 (jIn_w _) (show jIn 1 from ⟨by decide, by decide⟩) (show jIn 0 from ⟨by decide, by decide⟩) m _ _ _ S (L.sub (jsub_s (jsub_s (jsub_s (jsub_s (jsub_s (jsub_s jsub_0))))))) hyp
theorem t_X12_laySizes_l9 {p : Program} {l : Launch} {e : Env} {s : State} {mi : MethodId} {args : Array Value} {below : List Frame} {meth : Method} {c : Code} {D : va_G} {cy : Nat → ClassId} {B sz : Nat} {sh : jm_S} {res : jm_M} {N : Nat} (C : jCx p s mi args meth c cX12_laySizes 6 RX12 none D cy) : ∀ (n : Nat) (a0 : Nat) (x1 : Int) (x2 : Int), jIn x1 → jIn x2 → ∀ (m : jm_M) (H : Heap) (locs : List Loc) (ls : Array Slot), jHs D cy B sz sh (jA B sz) s.heap H locs m → jL ls [some (jR B a0), some (jI x1), some (jI x2), none, none, none] → f_X12_laySizes_l9 N sh n a0 x1 x2 m = some res → W p l e (jrm 3 0 0) s mi args below meth c H locs 0 0 (MQ below (jQc D cy B sz sh res none True) args s 0 0 (jA B sz)) (F0 mi 9 ls []) := by
  intro n
  induction n with
  | zero => intro a0 x1 x2 h_x1 h_x2 m H locs ls S L hyp; cases hyp
  | succ n ih => intro a0 x1 x2 h_x1 h_x2 m H locs ls S L hyp; exact t_X12_laySizes_b9 (N := N) C  ih h_x1 h_x2 S L hyp
set_option maxHeartbeats 4000000 in
set_option maxRecDepth 100000 in
theorem t_X12_laySizes_e {p : Program} {l : Launch} {e : Env} {s : State} {mi : MethodId} {args : Array Value} {below : List Frame} {meth : Method} {c : Code} {D : va_G} {cy : Nat → ClassId} {B sz : Nat} {sh : jm_S} {res : jm_M} {N : Nat} (C : jCx p s mi args meth c cX12_laySizes 6 RX12 none D cy) {a0 : Nat} {x1 : Int} (h_x1 : jIn x1) {m : jm_M} {H : Heap} {locs : List Loc} {ls : Array Slot} (S : jHs D cy B sz sh (jA B sz) s.heap H locs m) (L : jL ls [some (jR B a0), some (jI x1), none, none, none, none]) (hyp : f_X12_laySizes N sh a0 x1 m = some res) : W p l e (jrm 3 0 0) s mi args below meth c H locs 0 0 (MQ below (jQc D cy B sz sh res none True) args s 0 0 (jA B sz)) (F0 mi 0 ls []) := by
  unfold f_X12_laySizes at hyp
  refine jr_aload_n (pc := 0) C L dX12_laySizes_0 rfl rfl ?_
  obtain ⟨v11, hv11, hyp⟩ := jbind hyp
  refine jr_getR (pc := 1) C S lf_X12_16 rfl hv11 dX12_laySizes_1 ?_
  refine jr_iload_n (pc := 4) C L dX12_laySizes_4 rfl rfl ?_
  obtain ⟨v12, hv12, hyp⟩ := jbind hyp
  have iv12 := jra_in S hv12
  refine jr_ial (pc := 5) C S h_x1 hv12 dX12_laySizes_5 ?_
  refine jr_iconst (pc := 6) C dX12_laySizes_6 ?_
  refine jr_isub (pc := 7) C dX12_laySizes_7 ?_
  refine jr_istore_n (pc := 8) C L dX12_laySizes_8 rfl (Nat.le_of_ble_eq_true rfl) (fun ls L => ?_)
  have L : jL ls [some (jR B a0), some (jI x1), some (jI (jw (v12 - 1))), none, none, none] := L
  exact t_X12_laySizes_l9 C   N a0 x1 (jw (v12 - 1)) h_x1 (jIn_w _) m _ _ _ S (L.sub (jsub_s (jsub_s (jsub_s (jsub_n (jsub_n (jsub_n jsub_0))))))) hyp
theorem c_X12_laySizes {l : Launch} {D : va_G} {cy : Nat → ClassId} {B sz : Nat} {sh : jm_S} {res : jm_M} {N : Nat} {m : jm_M} {a0 : Nat} {x1 : Int} (h_x1 : jIn x1) (hyp : f_X12_laySizes N sh a0 x1 m = some res) : jCt l D cy B sz sh 3 yX12_laySizes cX12_laySizes 6 none [jR B a0, jI x1] m none res True :=
  jc_of (by decide) (fun v h => by simp only [List.mem_cons, List.not_mem_nil, or_false] at h; rcases h with rfl | rfl <;> first | rfl | exact jR_cat _ _) (Nat.le_of_ble_eq_true rfl) (fun C S L => t_X12_laySizes_e C  h_x1 S L hyp)
