set_option maxHeartbeats 4000000 in
set_option maxRecDepth 100000 in
theorem t_X12_most_b70 {p : Program} {l : Launch} {e : Env} {s : State} {mi : MethodId} {args : Array Value} {below : List Frame} {meth : Method} {c : Code} {D : va_G} {cy : Nat → ClassId} {B sz : Nat} {sh : jm_S} {res : (Int × jm_M)} {N : Nat} {k45 : Nat → Int → Int → Int → jm_M → Option (Int × jm_M)} (C : jCx p s mi args meth c cX12_most 5 RX12 (some .int) D cy) (K45 : ∀ (a0 : Nat) (x2 : Int) (x3 : Int) (x4 : Int) , jIn x2 → jIn x3 → jIn x4 → ∀ (m : jm_M) (H : Heap) (locs : List Loc) (ls : Array Slot), jHs D cy B sz sh (jA B sz) s.heap H locs m → jL ls [some (jR B a0), none, some (jI x2), some (jI x3), some (jI x4)] → k45 a0 x2 x3 x4 m = some res → W p l e (jrm 6 0 0) s mi args below meth c H locs 0 0 (MQ below (jQc D cy B sz sh res.2 (some (jI res.1)) (jIn res.1)) args s 0 0 (jA B sz)) (F0 mi 45 ls [])) {a0 : Nat} {x2 : Int} (h_x2 : jIn x2) {x4 : Int} (h_x4 : jIn x4) {s0 : Int} (h_s0 : jIn s0) {s1 : Int} (h_s1 : jIn s1) {m : jm_M} {H : Heap} {locs : List Loc} {ls : Array Slot} (S : jHs D cy B sz sh (jA B sz) s.heap H locs m) (L : jL ls [some (jR B a0), none, some (jI x2), none, some (jI x4)]) (hyp : f_X12_most_b70 N sh k45 a0 x2 x4 s0 s1 m = some res) : W p l e (jrm 6 0 0) s mi args below meth c H locs 0 0 (MQ below (jQc D cy B sz sh res.2 (some (jI res.1)) (jIn res.1)) args s 0 0 (jA B sz)) (F0 mi 70 ls [jI s1, jI s0]) := by
  unfold f_X12_most_b70 at hyp
  refine jr_iadd (pc := 70) C dX12_most_70 ?_
  refine jr_istore_n (pc := 71) C L dX12_most_71 rfl (Nat.le_of_ble_eq_true rfl) (fun ls L => ?_)
  have L : jL ls [some (jR B a0), none, some (jI x2), some (jI (jw (s0 + s1))), some (jI x4)] := L
  refine jr_iinc (pc := 72) C L dX12_most_72 rfl (Nat.le_of_ble_eq_true rfl) (fun ls L => ?_)
  have L : jL ls [some (jR B a0), none, some (jI x2), some (jI (jw (s0 + s1))), some (jI (jw (x4 + 1)))] := L
  refine jr_goto (pc := 75) C (tgt := 45) dX12_most_75 (by decide) ?_
  exact K45 a0 x2 (jw (s0 + s1)) (jw (x4 + 1)) h_x2 (jIn_w _) (jIn_w _) m _ _ _ S (L.sub (jsub_s (jsub_n (jsub_s (jsub_s (jsub_s jsub_0)))))) hyp
set_option maxHeartbeats 4000000 in
set_option maxRecDepth 100000 in
theorem t_X12_most_b45 {p : Program} {l : Launch} {e : Env} {s : State} {mi : MethodId} {args : Array Value} {below : List Frame} {meth : Method} {c : Code} {D : va_G} {cy : Nat → ClassId} {B sz : Nat} {sh : jm_S} {res : (Int × jm_M)} {N : Nat} {k45 : Nat → Int → Int → Int → jm_M → Option (Int × jm_M)} (C : jCx p s mi args meth c cX12_most 5 RX12 (some .int) D cy) (K45 : ∀ (a0 : Nat) (x2 : Int) (x3 : Int) (x4 : Int) , jIn x2 → jIn x3 → jIn x4 → ∀ (m : jm_M) (H : Heap) (locs : List Loc) (ls : Array Slot), jHs D cy B sz sh (jA B sz) s.heap H locs m → jL ls [some (jR B a0), none, some (jI x2), some (jI x3), some (jI x4)] → k45 a0 x2 x3 x4 m = some res → W p l e (jrm 6 0 0) s mi args below meth c H locs 0 0 (MQ below (jQc D cy B sz sh res.2 (some (jI res.1)) (jIn res.1)) args s 0 0 (jA B sz)) (F0 mi 45 ls [])) {a0 : Nat} {x2 : Int} (h_x2 : jIn x2) {x3 : Int} (h_x3 : jIn x3) {x4 : Int} (h_x4 : jIn x4) {m : jm_M} {H : Heap} {locs : List Loc} {ls : Array Slot} (S : jHs D cy B sz sh (jA B sz) s.heap H locs m) (L : jL ls [some (jR B a0), none, some (jI x2), some (jI x3), some (jI x4)]) (hyp : f_X12_most_b45 N sh k45 a0 x2 x3 x4 m = some res) : W p l e (jrm 6 0 0) s mi args below meth c H locs 0 0 (MQ below (jQc D cy B sz sh res.2 (some (jI res.1)) (jIn res.1)) args s 0 0 (jA B sz)) (F0 mi 45 ls []) := by
  unfold f_X12_most_b45 at hyp
  refine jr_iload (pc := 45) C L dX12_most_45 rfl ?_
  refine jr_aload_n (pc := 47) C L dX12_most_47 rfl rfl ?_
  obtain ⟨v1, hv1, hyp⟩ := jbind hyp
  have iv1 := jrf_in S hv1
  refine jr_getI (pc := 48) C S lf_X12_147 rfl hv1 dX12_most_48 ?_
  refine jr_icmp_ge (pc := 51) C h_x4 iv1 (tgt := 78) dX12_most_51 (by decide) (fun c2 => ?_) (fun c2 => ?_)
  · have hyp := (if_pos c2).symm.trans hyp
    refine jr_iload_n (pc := 54) C L dX12_most_54 rfl rfl ?_
    refine jr_aload_n (pc := 55) C L dX12_most_55 rfl rfl ?_
    obtain ⟨v3, hv3, hyp⟩ := jbind hyp
    refine jr_getR (pc := 56) C S lf_X12_34 rfl hv3 dX12_most_56 ?_
    refine jr_iload (pc := 59) C L dX12_most_59 rfl ?_
    obtain ⟨v4, hv4, hyp⟩ := jbind hyp
    have iv4 := jra_in S hv4
    refine jr_ial (pc := 61) C S h_x4 hv4 dX12_most_61 ?_
    refine jr_if_lt (pc := 62) C iv4 (tgt := 69) dX12_most_62 (by decide) (fun c5 => ?_) (fun c5 => ?_)
    · have hyp := (if_pos c5).symm.trans hyp
      refine jr_iconst (pc := 69) C dX12_most_69 ?_
      exact t_X12_most_b70 C  K45 h_x2 h_x4 h_x3 (show jIn 0 from ⟨by decide, by decide⟩) S (L.sub (jsub_s (jsub_n (jsub_s (jsub_n (jsub_s jsub_0)))))) hyp
    · have hyp := (if_neg c5).symm.trans hyp
      refine jr_iconst (pc := 65) C dX12_most_65 ?_
      refine jr_goto (pc := 66) C (tgt := 70) dX12_most_66 (by decide) ?_
      exact t_X12_most_b70 C  K45 h_x2 h_x4 h_x3 (show jIn 1 from ⟨by decide, by decide⟩) S (L.sub (jsub_s (jsub_n (jsub_s (jsub_n (jsub_s jsub_0)))))) hyp
  · have hyp := (if_neg c2).symm.trans hyp
    refine jr_iload_n (pc := 78) C L dX12_most_78 rfl rfl ?_
    refine jr_iconst (pc := 79) C dX12_most_79 ?_
    refine jr_icmp_ne (pc := 80) C h_x2 (show jIn 2 from ⟨by decide, by decide⟩) (tgt := 87) dX12_most_80 (by decide) (fun c6 => ?_) (fun c6 => ?_)
    · have hyp := (if_pos c6).symm.trans hyp
      refine jr_iload_n (pc := 83) C L dX12_most_83 rfl rfl ?_
      refine jr_goto (pc := 84) C (tgt := 91) dX12_most_84 (by decide) ?_
      cases hyp
      exact jr_iret C S h_x3 dX12_most_91
    · have hyp := (if_neg c6).symm.trans hyp
      refine jr_aload_n (pc := 87) C L dX12_most_87 rfl rfl ?_
      obtain ⟨u7, hu7, hyp⟩ := jbind hyp
      obtain ⟨q8, hq8, hyp⟩ := jbind hyp
      refine jr_callV_I (pc := 88) C S L (As := []) (rest := []) (c_X12_bestOf (m0 := m)  hq8) mv_X12_bestOf ml_X12_207 rfl (jck_spec hu7) (by decide) rfl rfl rfl (Nat.le_of_ble_eq_true rfl) ⟨Nat.le_refl 0, Nat.le_refl 0⟩ dX12_most_88 (fun p9 H locs S => ?_)
      cases hyp
      exact jr_iret C S p9 dX12_most_91
theorem t_X12_most_l45 {p : Program} {l : Launch} {e : Env} {s : State} {mi : MethodId} {args : Array Value} {below : List Frame} {meth : Method} {c : Code} {D : va_G} {cy : Nat → ClassId} {B sz : Nat} {sh : jm_S} {res : (Int × jm_M)} {N : Nat} (C : jCx p s mi args meth c cX12_most 5 RX12 (some .int) D cy) : ∀ (n : Nat) (a0 : Nat) (x2 : Int) (x3 : Int) (x4 : Int), jIn x2 → jIn x3 → jIn x4 → ∀ (m : jm_M) (H : Heap) (locs : List Loc) (ls : Array Slot), jHs D cy B sz sh (jA B sz) s.heap H locs m → jL ls [some (jR B a0), none, some (jI x2), some (jI x3), some (jI x4)] → f_X12_most_l45 N sh n a0 x2 x3 x4 m = some res → W p l e (jrm 6 0 0) s mi args below meth c H locs 0 0 (MQ below (jQc D cy B sz sh res.2 (some (jI res.1)) (jIn res.1)) args s 0 0 (jA B sz)) (F0 mi 45 ls []) := by
  intro n
  induction n with
  | zero => intro a0 x2 x3 x4 h_x2 h_x3 h_x4 m H locs ls S L hyp; cases hyp
  | succ n ih => intro a0 x2 x3 x4 h_x2 h_x3 h_x4 m H locs ls S L hyp; exact t_X12_most_b45 (N := N) C  ih h_x2 h_x3 h_x4 S L hyp
set_option maxHeartbeats 4000000 in
set_option maxRecDepth 100000 in
theorem t_X12_most_b37 {p : Program} {l : Launch} {e : Env} {s : State} {mi : MethodId} {args : Array Value} {below : List Frame} {meth : Method} {c : Code} {D : va_G} {cy : Nat → ClassId} {B sz : Nat} {sh : jm_S} {res : (Int × jm_M)} {N : Nat} (C : jCx p s mi args meth c cX12_most 5 RX12 (some .int) D cy) {a0 : Nat} {x2 : Int} (h_x2 : jIn x2) {r0 : Nat} {s1 : Int} (h_s1 : jIn s1) {s2 : Int} (h_s2 : jIn s2) {m : jm_M} {H : Heap} {locs : List Loc} {ls : Array Slot} (S : jHs D cy B sz sh (jA B sz) s.heap H locs m) (L : jL ls [some (jR B a0), none, some (jI x2), none, none]) (hyp : f_X12_most_b37 N sh a0 x2 r0 s1 s2 m = some res) : W p l e (jrm 6 0 0) s mi args below meth c H locs 0 0 (MQ below (jQc D cy B sz sh res.2 (some (jI res.1)) (jIn res.1)) args s 0 0 (jA B sz)) (F0 mi 37 ls [jI s2, jI s1, jR B r0]) := by
  unfold f_X12_most_b37 at hyp
  obtain ⟨u10, hu10, hyp⟩ := jbind hyp
  obtain ⟨q11, hq11, hyp⟩ := jbind hyp
  refine jr_callV_N (pc := 37) C S L (As := [jI s1, jI s2]) (rest := []) (c_X12_work h_s1 h_s2 hq11) mv_X12_work ml_X12_203 rfl (jck_spec hu10) (by decide) rfl rfl rfl (Nat.le_of_ble_eq_true rfl) ⟨Nat.le_refl 0, Nat.le_refl 0⟩ dX12_most_37 (fun p12 H locs S => ?_)
  refine jr_iconst (pc := 40) C dX12_most_40 ?_
  refine jr_istore_n (pc := 41) C L dX12_most_41 rfl (Nat.le_of_ble_eq_true rfl) (fun ls L => ?_)
  have L : jL ls [some (jR B a0), none, some (jI x2), some (jI 0), none] := L
  refine jr_iconst (pc := 42) C dX12_most_42 ?_
  refine jr_istore (pc := 43) C L dX12_most_43 (Nat.le_of_ble_eq_true rfl) (fun ls L => ?_)
  have L : jL ls [some (jR B a0), none, some (jI x2), some (jI 0), some (jI 0)] := L
  exact t_X12_most_l45 C   N a0 x2 0 0 h_x2 (show jIn 0 from ⟨by decide, by decide⟩) (show jIn 0 from ⟨by decide, by decide⟩) q11 _ _ _ S (L.sub (jsub_s (jsub_n (jsub_s (jsub_s (jsub_s jsub_0)))))) hyp
set_option maxHeartbeats 4000000 in
set_option maxRecDepth 100000 in
theorem t_X12_most_e {p : Program} {l : Launch} {e : Env} {s : State} {mi : MethodId} {args : Array Value} {below : List Frame} {meth : Method} {c : Code} {D : va_G} {cy : Nat → ClassId} {B sz : Nat} {sh : jm_S} {res : (Int × jm_M)} {N : Nat} (C : jCx p s mi args meth c cX12_most 5 RX12 (some .int) D cy) {a0 : Nat} {x1 : Int} (h_x1 : jIn x1) {x2 : Int} (h_x2 : jIn x2) {m : jm_M} {H : Heap} {locs : List Loc} {ls : Array Slot} (S : jHs D cy B sz sh (jA B sz) s.heap H locs m) (L : jL ls [some (jR B a0), some (jI x1), some (jI x2), none, none]) (hyp : f_X12_most N sh a0 x1 x2 m = some res) : W p l e (jrm 6 0 0) s mi args below meth c H locs 0 0 (MQ below (jQc D cy B sz sh res.2 (some (jI res.1)) (jIn res.1)) args s 0 0 (jA B sz)) (F0 mi 0 ls []) := by
  unfold f_X12_most at hyp
  refine jr_iload_n (pc := 0) C L dX12_most_0 rfl rfl ?_
  obtain ⟨q13, hq13, hyp⟩ := jbind hyp
  refine jr_callS_I (pc := 1) C S L (As := [jI x1]) (rest := []) (c_X12_isProgram (m0 := m) h_x1 hq13) ms_X12_isProgram ml_X12_103 (by decide) rfl rfl rfl (Nat.le_of_ble_eq_true rfl) ⟨Nat.le_refl 0, Nat.le_refl 0⟩ dX12_most_1 (fun p14 H locs S => ?_)
  refine jr_if_ne (pc := 4) C p14 (tgt := 9) dX12_most_4 (by decide) (fun c15 => ?_) (fun c15 => ?_)
  · have hyp := (if_pos c15).symm.trans hyp
    refine jr_iconst (pc := 7) C dX12_most_7 ?_
    cases hyp
    exact jr_iret C S (show jIn (-1) from ⟨by decide, by decide⟩) dX12_most_8
  · have hyp := (if_neg c15).symm.trans hyp
    refine jr_iload_n (pc := 9) C L dX12_most_9 rfl rfl ?_
    refine jr_iconst (pc := 10) C dX12_most_10 ?_
    refine jr_iconst (pc := 11) C dX12_most_11 ?_
    obtain ⟨q16, hq16, hyp⟩ := jbind hyp
    refine jr_callS_I (pc := 12) C S L (As := [jI x2, jI 0, jI 2]) (rest := []) (c_X12_in (m0 := m) h_x2 (show jIn 0 from ⟨by decide, by decide⟩) (show jIn 2 from ⟨by decide, by decide⟩) hq16) ms_X12_in ml_X12_80 (by decide) rfl rfl rfl (Nat.le_of_ble_eq_true rfl) ⟨Nat.le_refl 0, Nat.le_refl 0⟩ dX12_most_12 (fun p17 H locs S => ?_)
    refine jr_if_ne (pc := 15) C p17 (tgt := 21) dX12_most_15 (by decide) (fun c18 => ?_) (fun c18 => ?_)
    · have hyp := (if_pos c18).symm.trans hyp
      refine jr_bipush (pc := 18) C dX12_most_18 (by decide) ?_
      cases hyp
      exact jr_iret C S (show jIn (-2) from ⟨by decide, by decide⟩) dX12_most_20
    · have hyp := (if_neg c18).symm.trans hyp
      refine jr_aload_n (pc := 21) C L dX12_most_21 rfl rfl ?_
      refine jr_iconst (pc := 22) C dX12_most_22 ?_
      obtain ⟨m19, hm19, hyp⟩ := jbind hyp
      refine jr_putI (pc := 23) C S lf_X12_159 fp_X12_20 rfl (show jIn 0 from ⟨by decide, by decide⟩) hm19 dX12_most_23 (fun H locs S => ?_)
      refine jr_aload_n (pc := 26) C L dX12_most_26 rfl rfl ?_
      refine jr_iload_n (pc := 27) C L dX12_most_27 rfl rfl ?_
      refine jr_iload_n (pc := 28) C L dX12_most_28 rfl rfl ?_
      refine jr_if_ne (pc := 29) C h_x2 (tgt := 36) dX12_most_29 (by decide) (fun c20 => ?_) (fun c20 => ?_)
      · have hyp := (if_pos c20).symm.trans hyp
        refine jr_iconst (pc := 32) C dX12_most_32 ?_
        refine jr_goto (pc := 33) C (tgt := 37) dX12_most_33 (by decide) ?_
        exact t_X12_most_b37 C   h_x2 h_x1 (show jIn 1 from ⟨by decide, by decide⟩) S (L.sub (jsub_s (jsub_n (jsub_s (jsub_n (jsub_n jsub_0)))))) hyp
      · have hyp := (if_neg c20).symm.trans hyp
        refine jr_iconst (pc := 36) C dX12_most_36 ?_
        exact t_X12_most_b37 C   h_x2 h_x1 (show jIn 0 from ⟨by decide, by decide⟩) S (L.sub (jsub_s (jsub_n (jsub_s (jsub_n (jsub_n jsub_0)))))) hyp
theorem c_X12_most {l : Launch} {D : va_G} {cy : Nat → ClassId} {B sz : Nat} {sh : jm_S} {res : (Int × jm_M)} {N : Nat} {m : jm_M} {a0 : Nat} {x1 : Int} (h_x1 : jIn x1) {x2 : Int} (h_x2 : jIn x2) (hyp : f_X12_most N sh a0 x1 x2 m = some res) : jCt l D cy B sz sh 6 yX12_most cX12_most 5 (some .int) [jR B a0, jI x1, jI x2] m (some (jI res.1)) res.2 (jIn res.1) :=
  jc_of (by decide) (fun v h => by simp only [List.mem_cons, List.not_mem_nil, or_false] at h; rcases h with rfl | rfl | rfl <;> first | rfl | exact jR_cat _ _) (Nat.le_of_ble_eq_true rfl) (fun C S L => t_X12_most_e C  h_x1 h_x2 S L hyp)
set_option maxHeartbeats 4000000 in
set_option maxRecDepth 100000 in
theorem t_X12_layRow_b73 {p : Program} {l : Launch} {e : Env} {s : State} {mi : MethodId} {args : Array Value} {below : List Frame} {meth : Method} {c : Code} {D : va_G} {cy : Nat → ClassId} {B sz : Nat} {sh : jm_S} {res : (Int × jm_M)} {N : Nat} {k14 : Nat → Int → Int → Int → Int → jm_M → Option (Int × jm_M)} {k34 : Nat → Int → Int → Int → Int → Int → jm_M → Option (Int × jm_M)} (C : jCx p s mi args meth c cX12_layRow 7 RX12 (some .int) D cy) (K14 : ∀ (a0 : Nat) (x1 : Int) (x2 : Int) (x3 : Int) (x4 : Int) , jIn x1 → jIn x2 → jIn x3 → jIn x4 → ∀ (m : jm_M) (H : Heap) (locs : List Loc) (ls : Array Slot), jHs D cy B sz sh (jA B sz) s.heap H locs m → jL ls [some (jR B a0), some (jI x1), some (jI x2), some (jI x3), some (jI x4), none, none] → k14 a0 x1 x2 x3 x4 m = some res → W p l e (jrm 7 0 0) s mi args below meth c H locs 0 0 (MQ below (jQc D cy B sz sh res.2 (some (jI res.1)) (jIn res.1)) args s 0 0 (jA B sz)) (F0 mi 14 ls [])) (K34 : ∀ (a0 : Nat) (x1 : Int) (x2 : Int) (x3 : Int) (x5 : Int) (x6 : Int) , jIn x1 → jIn x2 → jIn x3 → jIn x5 → jIn x6 → ∀ (m : jm_M) (H : Heap) (locs : List Loc) (ls : Array Slot), jHs D cy B sz sh (jA B sz) s.heap H locs m → jL ls [some (jR B a0), some (jI x1), some (jI x2), some (jI x3), none, some (jI x5), some (jI x6)] → k34 a0 x1 x2 x3 x5 x6 m = some res → W p l e (jrm 7 0 0) s mi args below meth c H locs 0 0 (MQ below (jQc D cy B sz sh res.2 (some (jI res.1)) (jIn res.1)) args s 0 0 (jA B sz)) (F0 mi 34 ls [])) {a0 : Nat} {x1 : Int} (h_x1 : jIn x1) {x2 : Int} (h_x2 : jIn x2) {x3 : Int} (h_x3 : jIn x3) {x5 : Int} (h_x5 : jIn x5) {s0 : Int} (h_s0 : jIn s0) {m : jm_M} {H : Heap} {locs : List Loc} {ls : Array Slot} (S : jHs D cy B sz sh (jA B sz) s.heap H locs m) (L : jL ls [some (jR B a0), some (jI x1), some (jI x2), some (jI x3), none, some (jI x5), none]) (hyp : f_X12_layRow_b73 N sh k14 k34 a0 x1 x2 x3 x5 s0 m = some res) : W p l e (jrm 7 0 0) s mi args below meth c H locs 0 0 (MQ below (jQc D cy B sz sh res.2 (some (jI res.1)) (jIn res.1)) args s 0 0 (jA B sz)) (F0 mi 73 ls [jI s0]) := by
  unfold f_X12_layRow_b73 at hyp
  refine jr_istore (pc := 73) C L dX12_layRow_73 (Nat.le_of_ble_eq_true rfl) (fun ls L => ?_)
  have L : jL ls [some (jR B a0), some (jI x1), some (jI x2), some (jI x3), none, some (jI x5), some (jI s0)] := L
  refine jr_iinc (pc := 75) C L dX12_layRow_75 rfl (Nat.le_of_ble_eq_true rfl) (fun ls L => ?_)
  have L : jL ls [some (jR B a0), some (jI x1), some (jI x2), some (jI x3), none, some (jI (jw (x5 + 1))), some (jI s0)] := L
  refine jr_goto (pc := 78) C (tgt := 34) dX12_layRow_78 (by decide) ?_
  exact K34 a0 x1 x2 x3 (jw (x5 + 1)) s0 h_x1 h_x2 h_x3 (jIn_w _) h_s0 m _ _ _ S (L.sub (jsub_s (jsub_s (jsub_s (jsub_s (jsub_n (jsub_s (jsub_s jsub_0)))))))) hyp
set_option maxHeartbeats 4000000 in
set_option maxRecDepth 100000 in
theorem t_X12_layRow_b34 {p : Program} {l : Launch} {e : Env} {s : State} {mi : MethodId} {args : Array Value} {below : List Frame} {meth : Method} {c : Code} {D : va_G} {cy : Nat → ClassId} {B sz : Nat} {sh : jm_S} {res : (Int × jm_M)} {N : Nat} {k14 : Nat → Int → Int → Int → Int → jm_M → Option (Int × jm_M)} {k34 : Nat → Int → Int → Int → Int → Int → jm_M → Option (Int × jm_M)} (C : jCx p s mi args meth c cX12_layRow 7 RX12 (some .int) D cy) (K14 : ∀ (a0 : Nat) (x1 : Int) (x2 : Int) (x3 : Int) (x4 : Int) , jIn x1 → jIn x2 → jIn x3 → jIn x4 → ∀ (m : jm_M) (H : Heap) (locs : List Loc) (ls : Array Slot), jHs D cy B sz sh (jA B sz) s.heap H locs m → jL ls [some (jR B a0), some (jI x1), some (jI x2), some (jI x3), some (jI x4), none, none] → k14 a0 x1 x2 x3 x4 m = some res → W p l e (jrm 7 0 0) s mi args below meth c H locs 0 0 (MQ below (jQc D cy B sz sh res.2 (some (jI res.1)) (jIn res.1)) args s 0 0 (jA B sz)) (F0 mi 14 ls [])) (K34 : ∀ (a0 : Nat) (x1 : Int) (x2 : Int) (x3 : Int) (x5 : Int) (x6 : Int) , jIn x1 → jIn x2 → jIn x3 → jIn x5 → jIn x6 → ∀ (m : jm_M) (H : Heap) (locs : List Loc) (ls : Array Slot), jHs D cy B sz sh (jA B sz) s.heap H locs m → jL ls [some (jR B a0), some (jI x1), some (jI x2), some (jI x3), none, some (jI x5), some (jI x6)] → k34 a0 x1 x2 x3 x5 x6 m = some res → W p l e (jrm 7 0 0) s mi args below meth c H locs 0 0 (MQ below (jQc D cy B sz sh res.2 (some (jI res.1)) (jIn res.1)) args s 0 0 (jA B sz)) (F0 mi 34 ls [])) {a0 : Nat} {x1 : Int} (h_x1 : jIn x1) {x2 : Int} (h_x2 : jIn x2) {x3 : Int} (h_x3 : jIn x3) {x5 : Int} (h_x5 : jIn x5) {x6 : Int} (h_x6 : jIn x6) {m : jm_M} {H : Heap} {locs : List Loc} {ls : Array Slot} (S : jHs D cy B sz sh (jA B sz) s.heap H locs m) (L : jL ls [some (jR B a0), some (jI x1), some (jI x2), some (jI x3), none, some (jI x5), some (jI x6)]) (hyp : f_X12_layRow_b34 N sh k14 k34 a0 x1 x2 x3 x5 x6 m = some res) : W p l e (jrm 7 0 0) s mi args below meth c H locs 0 0 (MQ below (jQc D cy B sz sh res.2 (some (jI res.1)) (jIn res.1)) args s 0 0 (jA B sz)) (F0 mi 34 ls []) := by
  unfold f_X12_layRow_b34 at hyp
  refine jr_iload (pc := 34) C L dX12_layRow_34 rfl ?_
  refine jr_if_ne (pc := 36) C h_x6 (tgt := 81) dX12_layRow_36 (by decide) (fun c1 => ?_) (fun c1 => ?_)
  · have hyp := (if_pos c1).symm.trans hyp
    refine jr_aload_n (pc := 39) C L dX12_layRow_39 rfl rfl ?_
    obtain ⟨v2, hv2, hyp⟩ := jbind hyp
    refine jr_getR (pc := 40) C S lf_X12_52 rfl hv2 dX12_layRow_40 ?_
    refine jr_iload_n (pc := 43) C L dX12_layRow_43 rfl rfl ?_
    refine jr_iload (pc := 44) C L dX12_layRow_44 rfl ?_
    obtain ⟨m3, hm3, hyp⟩ := jbind hyp
    refine jr_ias (pc := 46) C S h_x3 h_x5 hm3 dX12_layRow_46 (fun H locs S => ?_)
    refine jr_aload_n (pc := 47) C L dX12_layRow_47 rfl rfl ?_
    refine jr_iload_n (pc := 48) C L dX12_layRow_48 rfl rfl ?_
    refine jr_iconst (pc := 49) C dX12_layRow_49 ?_
    refine jr_iadd (pc := 50) C dX12_layRow_50 ?_
    obtain ⟨m4, hm4, hyp⟩ := jbind hyp
    refine jr_putI (pc := 51) C S lf_X12_159 fp_X12_20 rfl (jIn_w _) hm4 dX12_layRow_51 (fun H locs S => ?_)
    refine jr_aload_n (pc := 54) C L dX12_layRow_54 rfl rfl ?_
    refine jr_iload_n (pc := 55) C L dX12_layRow_55 rfl rfl ?_
    refine jr_iconst (pc := 56) C dX12_layRow_56 ?_
    obtain ⟨u5, hu5, hyp⟩ := jbind hyp
    obtain ⟨q6, hq6, hyp⟩ := jbind hyp
    refine jr_callV_N (pc := 57) C S L (As := [jI x1, jI 1]) (rest := []) (c_X12_work h_x1 (show jIn 1 from ⟨by decide, by decide⟩) hq6) mv_X12_work ml_X12_203 rfl (jck_spec hu5) (by decide) rfl rfl rfl (Nat.le_of_ble_eq_true rfl) ⟨Nat.le_refl 0, Nat.le_refl 0⟩ dX12_layRow_57 (fun p7 H locs S => ?_)
    refine jr_aload_n (pc := 60) C L dX12_layRow_60 rfl rfl ?_
    obtain ⟨u8, hu8, hyp⟩ := jbind hyp
    obtain ⟨q9, hq9, hyp⟩ := jbind hyp
    refine jr_callV_I (pc := 61) C S L (As := []) (rest := []) (c_X12_bestOf (m0 := q6)  hq9) mv_X12_bestOf ml_X12_207 rfl (jck_spec hu8) (by decide) rfl rfl rfl (Nat.le_of_ble_eq_true rfl) ⟨Nat.le_refl 0, Nat.le_refl 0⟩ dX12_layRow_61 (fun p10 H locs S => ?_)
    refine jr_iload_n (pc := 64) C L dX12_layRow_64 rfl rfl ?_
    refine jr_icmp_ne (pc := 65) C p10 h_x2 (tgt := 72) dX12_layRow_65 (by decide) (fun c11 => ?_) (fun c11 => ?_)
    · have hyp := (if_pos c11).symm.trans hyp
      refine jr_iconst (pc := 68) C dX12_layRow_68 ?_
      refine jr_goto (pc := 69) C (tgt := 73) dX12_layRow_69 (by decide) ?_
      exact t_X12_layRow_b73 C  K14 K34 h_x1 h_x2 h_x3 h_x5 (show jIn 1 from ⟨by decide, by decide⟩) S (L.sub (jsub_s (jsub_s (jsub_s (jsub_s (jsub_n (jsub_s (jsub_n jsub_0)))))))) hyp
    · have hyp := (if_neg c11).symm.trans hyp
      refine jr_iconst (pc := 72) C dX12_layRow_72 ?_
      exact t_X12_layRow_b73 C  K14 K34 h_x1 h_x2 h_x3 h_x5 (show jIn 0 from ⟨by decide, by decide⟩) S (L.sub (jsub_s (jsub_s (jsub_s (jsub_s (jsub_n (jsub_s (jsub_n jsub_0)))))))) hyp
  · have hyp := (if_neg c1).symm.trans hyp
    refine jr_iinc (pc := 81) C L dX12_layRow_81 rfl (Nat.le_of_ble_eq_true rfl) (fun ls L => ?_)
    have L : jL ls [some (jR B a0), some (jI x1), some (jI x2), some (jI (jw (x3 + 1))), none, some (jI x5), some (jI x6)] := L
    refine jr_aload_n (pc := 84) C L dX12_layRow_84 rfl rfl ?_
    obtain ⟨v12, hv12, hyp⟩ := jbind hyp
    have iv12 := jrf_in S hv12
    refine jr_getI (pc := 85) C S lf_X12_162 rfl hv12 dX12_layRow_85 ?_
    refine jr_istore (pc := 88) C L dX12_layRow_88 (Nat.le_of_ble_eq_true rfl) (fun ls L => ?_)
    have L : jL ls [some (jR B a0), some (jI x1), some (jI x2), some (jI (jw (x3 + 1))), some (jI v12), some (jI x5), some (jI x6)] := L
    refine jr_goto (pc := 90) C (tgt := 14) dX12_layRow_90 (by decide) ?_
    exact K14 a0 x1 x2 (jw (x3 + 1)) v12 h_x1 h_x2 (jIn_w _) iv12 m _ _ _ S (L.sub (jsub_s (jsub_s (jsub_s (jsub_s (jsub_s (jsub_n (jsub_n jsub_0)))))))) hyp
theorem t_X12_layRow_l34 {p : Program} {l : Launch} {e : Env} {s : State} {mi : MethodId} {args : Array Value} {below : List Frame} {meth : Method} {c : Code} {D : va_G} {cy : Nat → ClassId} {B sz : Nat} {sh : jm_S} {res : (Int × jm_M)} {N : Nat} {k14 : Nat → Int → Int → Int → Int → jm_M → Option (Int × jm_M)} (C : jCx p s mi args meth c cX12_layRow 7 RX12 (some .int) D cy) (K14 : ∀ (a0 : Nat) (x1 : Int) (x2 : Int) (x3 : Int) (x4 : Int) , jIn x1 → jIn x2 → jIn x3 → jIn x4 → ∀ (m : jm_M) (H : Heap) (locs : List Loc) (ls : Array Slot), jHs D cy B sz sh (jA B sz) s.heap H locs m → jL ls [some (jR B a0), some (jI x1), some (jI x2), some (jI x3), some (jI x4), none, none] → k14 a0 x1 x2 x3 x4 m = some res → W p l e (jrm 7 0 0) s mi args below meth c H locs 0 0 (MQ below (jQc D cy B sz sh res.2 (some (jI res.1)) (jIn res.1)) args s 0 0 (jA B sz)) (F0 mi 14 ls [])) : ∀ (n : Nat) (a0 : Nat) (x1 : Int) (x2 : Int) (x3 : Int) (x5 : Int) (x6 : Int), jIn x1 → jIn x2 → jIn x3 → jIn x5 → jIn x6 → ∀ (m : jm_M) (H : Heap) (locs : List Loc) (ls : Array Slot), jHs D cy B sz sh (jA B sz) s.heap H locs m → jL ls [some (jR B a0), some (jI x1), some (jI x2), some (jI x3), none, some (jI x5), some (jI x6)] → f_X12_layRow_l34 N sh k14 n a0 x1 x2 x3 x5 x6 m = some res → W p l e (jrm 7 0 0) s mi args below meth c H locs 0 0 (MQ below (jQc D cy B sz sh res.2 (some (jI res.1)) (jIn res.1)) args s 0 0 (jA B sz)) (F0 mi 34 ls []) := by
  intro n
  induction n with
  | zero => intro a0 x1 x2 x3 x5 x6 h_x1 h_x2 h_x3 h_x5 h_x6 m H locs ls S L hyp; cases hyp
  | succ n ih => intro a0 x1 x2 x3 x5 x6 h_x1 h_x2 h_x3 h_x5 h_x6 m H locs ls S L hyp; exact t_X12_layRow_b34 (N := N) C  K14 ih h_x1 h_x2 h_x3 h_x5 h_x6 S L hyp
set_option maxHeartbeats 4000000 in
set_option maxRecDepth 100000 in
theorem t_X12_layRow_b14 {p : Program} {l : Launch} {e : Env} {s : State} {mi : MethodId} {args : Array Value} {below : List Frame} {meth : Method} {c : Code} {D : va_G} {cy : Nat → ClassId} {B sz : Nat} {sh : jm_S} {res : (Int × jm_M)} {N : Nat} {k14 : Nat → Int → Int → Int → Int → jm_M → Option (Int × jm_M)} (C : jCx p s mi args meth c cX12_layRow 7 RX12 (some .int) D cy) (K14 : ∀ (a0 : Nat) (x1 : Int) (x2 : Int) (x3 : Int) (x4 : Int) , jIn x1 → jIn x2 → jIn x3 → jIn x4 → ∀ (m : jm_M) (H : Heap) (locs : List Loc) (ls : Array Slot), jHs D cy B sz sh (jA B sz) s.heap H locs m → jL ls [some (jR B a0), some (jI x1), some (jI x2), some (jI x3), some (jI x4), none, none] → k14 a0 x1 x2 x3 x4 m = some res → W p l e (jrm 7 0 0) s mi args below meth c H locs 0 0 (MQ below (jQc D cy B sz sh res.2 (some (jI res.1)) (jIn res.1)) args s 0 0 (jA B sz)) (F0 mi 14 ls [])) {a0 : Nat} {x1 : Int} (h_x1 : jIn x1) {x2 : Int} (h_x2 : jIn x2) {x3 : Int} (h_x3 : jIn x3) {x4 : Int} (h_x4 : jIn x4) {m : jm_M} {H : Heap} {locs : List Loc} {ls : Array Slot} (S : jHs D cy B sz sh (jA B sz) s.heap H locs m) (L : jL ls [some (jR B a0), some (jI x1), some (jI x2), some (jI x3), some (jI x4), none, none]) (hyp : f_X12_layRow_b14 N sh k14 a0 x1 x2 x3 x4 m = some res) : W p l e (jrm 7 0 0) s mi args below meth c H locs 0 0 (MQ below (jQc D cy B sz sh res.2 (some (jI res.1)) (jIn res.1)) args s 0 0 (jA B sz)) (F0 mi 14 ls []) := by
  unfold f_X12_layRow_b14 at hyp
  refine jr_iload (pc := 14) C L dX12_layRow_14 rfl ?_
  refine jr_if_le (pc := 16) C h_x4 (tgt := 93) dX12_layRow_16 (by decide) (fun c13 => ?_) (fun c13 => ?_)
  · have hyp := (if_pos c13).symm.trans hyp
    refine jr_iload_n (pc := 19) C L dX12_layRow_19 rfl rfl ?_
    refine jr_bipush (pc := 20) C dX12_layRow_20 (by decide) ?_
    refine jr_icmp_ne (pc := 22) C h_x3 (show jIn 20 from ⟨by decide, by decide⟩) (tgt := 28) dX12_layRow_22 (by decide) (fun c14 => ?_) (fun c14 => ?_)
    · have hyp := (if_pos c14).symm.trans hyp
      refine jr_bipush (pc := 25) C dX12_layRow_25 (by decide) ?_
      cases hyp
      exact jr_iret C S (show jIn (-6) from ⟨by decide, by decide⟩) dX12_layRow_27
    · have hyp := (if_neg c14).symm.trans hyp
      refine jr_iconst (pc := 28) C dX12_layRow_28 ?_
      refine jr_istore (pc := 29) C L dX12_layRow_29 (Nat.le_of_ble_eq_true rfl) (fun ls L => ?_)
      have L : jL ls [some (jR B a0), some (jI x1), some (jI x2), some (jI x3), some (jI x4), some (jI 0), none] := L
      refine jr_iconst (pc := 31) C dX12_layRow_31 ?_
      refine jr_istore (pc := 32) C L dX12_layRow_32 (Nat.le_of_ble_eq_true rfl) (fun ls L => ?_)
      have L : jL ls [some (jR B a0), some (jI x1), some (jI x2), some (jI x3), some (jI x4), some (jI 0), some (jI 0)] := L
      exact t_X12_layRow_l34 C  K14 N a0 x1 x2 x3 0 0 h_x1 h_x2 h_x3 (show jIn 0 from ⟨by decide, by decide⟩) (show jIn 0 from ⟨by decide, by decide⟩) m _ _ _ S (L.sub (jsub_s (jsub_s (jsub_s (jsub_s (jsub_n (jsub_s (jsub_s jsub_0)))))))) hyp
  · have hyp := (if_neg c13).symm.trans hyp
    refine jr_iload_n (pc := 93) C L dX12_layRow_93 rfl rfl ?_
    cases hyp
    exact jr_iret C S h_x3 dX12_layRow_94
theorem t_X12_layRow_l14 {p : Program} {l : Launch} {e : Env} {s : State} {mi : MethodId} {args : Array Value} {below : List Frame} {meth : Method} {c : Code} {D : va_G} {cy : Nat → ClassId} {B sz : Nat} {sh : jm_S} {res : (Int × jm_M)} {N : Nat} (C : jCx p s mi args meth c cX12_layRow 7 RX12 (some .int) D cy) : ∀ (n : Nat) (a0 : Nat) (x1 : Int) (x2 : Int) (x3 : Int) (x4 : Int), jIn x1 → jIn x2 → jIn x3 → jIn x4 → ∀ (m : jm_M) (H : Heap) (locs : List Loc) (ls : Array Slot), jHs D cy B sz sh (jA B sz) s.heap H locs m → jL ls [some (jR B a0), some (jI x1), some (jI x2), some (jI x3), some (jI x4), none, none] → f_X12_layRow_l14 N sh n a0 x1 x2 x3 x4 m = some res → W p l e (jrm 7 0 0) s mi args below meth c H locs 0 0 (MQ below (jQc D cy B sz sh res.2 (some (jI res.1)) (jIn res.1)) args s 0 0 (jA B sz)) (F0 mi 14 ls []) := by
  intro n
  induction n with
  | zero => intro a0 x1 x2 x3 x4 h_x1 h_x2 h_x3 h_x4 m H locs ls S L hyp; cases hyp
  | succ n ih => intro a0 x1 x2 x3 x4 h_x1 h_x2 h_x3 h_x4 m H locs ls S L hyp; exact t_X12_layRow_b14 (N := N) C  ih h_x1 h_x2 h_x3 h_x4 S L hyp
set_option maxHeartbeats 4000000 in
set_option maxRecDepth 100000 in
theorem t_X12_layRow_e {p : Program} {l : Launch} {e : Env} {s : State} {mi : MethodId} {args : Array Value} {below : List Frame} {meth : Method} {c : Code} {D : va_G} {cy : Nat → ClassId} {B sz : Nat} {sh : jm_S} {res : (Int × jm_M)} {N : Nat} (C : jCx p s mi args meth c cX12_layRow 7 RX12 (some .int) D cy) {a0 : Nat} {x1 : Int} (h_x1 : jIn x1) {m : jm_M} {H : Heap} {locs : List Loc} {ls : Array Slot} (S : jHs D cy B sz sh (jA B sz) s.heap H locs m) (L : jL ls [some (jR B a0), some (jI x1), none, none, none, none, none]) (hyp : f_X12_layRow N sh a0 x1 m = some res) : W p l e (jrm 7 0 0) s mi args below meth c H locs 0 0 (MQ below (jQc D cy B sz sh res.2 (some (jI res.1)) (jIn res.1)) args s 0 0 (jA B sz)) (F0 mi 0 ls []) := by
  unfold f_X12_layRow at hyp
  refine jr_aload_n (pc := 0) C L dX12_layRow_0 rfl rfl ?_
  refine jr_iload_n (pc := 1) C L dX12_layRow_1 rfl rfl ?_
  obtain ⟨u15, hu15, hyp⟩ := jbind hyp
  obtain ⟨q16, hq16, hyp⟩ := jbind hyp
  refine jr_callV_I (pc := 2) C S L (As := [jI x1]) (rest := []) (c_X12_worstOf h_x1 hq16) mv_X12_worstOf ml_X12_222 rfl (jck_spec hu15) (by decide) rfl rfl rfl (Nat.le_of_ble_eq_true rfl) ⟨Nat.le_refl 0, Nat.le_refl 0⟩ dX12_layRow_2 (fun p17 H locs S => ?_)
  refine jr_istore_n (pc := 5) C L dX12_layRow_5 rfl (Nat.le_of_ble_eq_true rfl) (fun ls L => ?_)
  have L : jL ls [some (jR B a0), some (jI x1), some (jI q16.1), none, none, none, none] := L
  refine jr_iconst (pc := 6) C dX12_layRow_6 ?_
  refine jr_istore_n (pc := 7) C L dX12_layRow_7 rfl (Nat.le_of_ble_eq_true rfl) (fun ls L => ?_)
  have L : jL ls [some (jR B a0), some (jI x1), some (jI q16.1), some (jI 0), none, none, none] := L
  refine jr_aload_n (pc := 8) C L dX12_layRow_8 rfl rfl ?_
  obtain ⟨v18, hv18, hyp⟩ := jbind hyp
  have iv18 := jrf_in S hv18
  refine jr_getI (pc := 9) C S lf_X12_162 rfl hv18 dX12_layRow_9 ?_
  refine jr_istore (pc := 12) C L dX12_layRow_12 (Nat.le_of_ble_eq_true rfl) (fun ls L => ?_)
  have L : jL ls [some (jR B a0), some (jI x1), some (jI q16.1), some (jI 0), some (jI v18), none, none] := L
  exact t_X12_layRow_l14 C   N a0 x1 q16.1 0 v18 h_x1 p17 (show jIn 0 from ⟨by decide, by decide⟩) iv18 q16.2 _ _ _ S (L.sub (jsub_s (jsub_s (jsub_s (jsub_s (jsub_s (jsub_n (jsub_n jsub_0)))))))) hyp
theorem c_X12_layRow {l : Launch} {D : va_G} {cy : Nat → ClassId} {B sz : Nat} {sh : jm_S} {res : (Int × jm_M)} {N : Nat} {m : jm_M} {a0 : Nat} {x1 : Int} (h_x1 : jIn x1) (hyp : f_X12_layRow N sh a0 x1 m = some res) : jCt l D cy B sz sh 7 yX12_layRow cX12_layRow 7 (some .int) [jR B a0, jI x1] m (some (jI res.1)) res.2 (jIn res.1) :=
  jc_of (by decide) (fun v h => by simp only [List.mem_cons, List.not_mem_nil, or_false] at h; rcases h with rfl | rfl <;> first | rfl | exact jR_cat _ _) (Nat.le_of_ble_eq_true rfl) (fun C S L => t_X12_layRow_e C  h_x1 S L hyp)
set_option maxHeartbeats 4000000 in
set_option maxRecDepth 100000 in
theorem t_X12_row_e {p : Program} {l : Launch} {e : Env} {s : State} {mi : MethodId} {args : Array Value} {below : List Frame} {meth : Method} {c : Code} {D : va_G} {cy : Nat → ClassId} {B sz : Nat} {sh : jm_S} {res : (Int × jm_M)} {N : Nat} (C : jCx p s mi args meth c cX12_row 4 RX12 (some .int) D cy) {a0 : Nat} {x1 : Int} (h_x1 : jIn x1) {x2 : Int} (h_x2 : jIn x2) {m : jm_M} {H : Heap} {locs : List Loc} {ls : Array Slot} (S : jHs D cy B sz sh (jA B sz) s.heap H locs m) (L : jL ls [some (jR B a0), some (jI x1), some (jI x2), none]) (hyp : f_X12_row N sh a0 x1 x2 m = some res) : W p l e (jrm 8 0 0) s mi args below meth c H locs 0 0 (MQ below (jQc D cy B sz sh res.2 (some (jI res.1)) (jIn res.1)) args s 0 0 (jA B sz)) (F0 mi 0 ls []) := by
  unfold f_X12_row at hyp
  refine jr_iload_n (pc := 0) C L dX12_row_0 rfl rfl ?_
  obtain ⟨q1, hq1, hyp⟩ := jbind hyp
  refine jr_callS_I (pc := 1) C S L (As := [jI x1]) (rest := []) (c_X12_isProgram (m0 := m) h_x1 hq1) ms_X12_isProgram ml_X12_103 (by decide) rfl rfl rfl (Nat.le_of_ble_eq_true rfl) ⟨Nat.le_refl 0, Nat.le_refl 0⟩ dX12_row_1 (fun p2 H locs S => ?_)
  refine jr_if_ne (pc := 4) C p2 (tgt := 9) dX12_row_4 (by decide) (fun c3 => ?_) (fun c3 => ?_)
  · have hyp := (if_pos c3).symm.trans hyp
    refine jr_iconst (pc := 7) C dX12_row_7 ?_
    cases hyp
    exact jr_iret C S (show jIn (-1) from ⟨by decide, by decide⟩) dX12_row_8
  · have hyp := (if_neg c3).symm.trans hyp
    refine jr_aload_n (pc := 9) C L dX12_row_9 rfl rfl ?_
    refine jr_iload_n (pc := 10) C L dX12_row_10 rfl rfl ?_
    obtain ⟨u4, hu4, hyp⟩ := jbind hyp
    obtain ⟨q5, hq5, hyp⟩ := jbind hyp
    refine jr_callV_I (pc := 11) C S L (As := [jI x1]) (rest := []) (c_X12_layRow h_x1 hq5) mv_X12_layRow ml_X12_225 rfl (jck_spec hu4) (by decide) rfl rfl rfl (Nat.le_of_ble_eq_true rfl) ⟨Nat.le_refl 0, Nat.le_refl 0⟩ dX12_row_11 (fun p6 H locs S => ?_)
    refine jr_istore_n (pc := 14) C L dX12_row_14 rfl (Nat.le_of_ble_eq_true rfl) (fun ls L => ?_)
    have L : jL ls [some (jR B a0), some (jI x1), some (jI x2), some (jI q5.1)] := L
    refine jr_iload_n (pc := 15) C L dX12_row_15 rfl rfl ?_
    refine jr_if_ge (pc := 16) C p6 (tgt := 24) dX12_row_16 (by decide) (fun c7 => ?_) (fun c7 => ?_)
    · have hyp := (if_pos c7).symm.trans hyp
      refine jr_bipush (pc := 19) C dX12_row_19 (by decide) ?_
      refine jr_goto (pc := 21) C (tgt := 55) dX12_row_21 (by decide) ?_
      cases hyp
      exact jr_iret C S (show jIn (-3) from ⟨by decide, by decide⟩) dX12_row_55
    · have hyp := (if_neg c7).symm.trans hyp
      refine jr_iload_n (pc := 24) C L dX12_row_24 rfl rfl ?_
      refine jr_iconst (pc := 25) C dX12_row_25 ?_
      refine jr_icmp_ne (pc := 26) C h_x2 (show jIn (-1) from ⟨by decide, by decide⟩) (tgt := 33) dX12_row_26 (by decide) (fun c8 => ?_) (fun c8 => ?_)
      · have hyp := (if_pos c8).symm.trans hyp
        refine jr_iload_n (pc := 29) C L dX12_row_29 rfl rfl ?_
        refine jr_goto (pc := 30) C (tgt := 55) dX12_row_30 (by decide) ?_
        cases hyp
        exact jr_iret C S p6 dX12_row_55
      · have hyp := (if_neg c8).symm.trans hyp
        refine jr_iload_n (pc := 33) C L dX12_row_33 rfl rfl ?_
        refine jr_iconst (pc := 34) C dX12_row_34 ?_
        refine jr_iload_n (pc := 35) C L dX12_row_35 rfl rfl ?_
        refine jr_iconst (pc := 36) C dX12_row_36 ?_
        refine jr_isub (pc := 37) C dX12_row_37 ?_
        obtain ⟨q9, hq9, hyp⟩ := jbind hyp
        refine jr_callS_I (pc := 38) C S L (As := [jI x2, jI 0, jI (jw (q5.1 - 1))]) (rest := []) (c_X12_in (m0 := q5.2) h_x2 (show jIn 0 from ⟨by decide, by decide⟩) (jIn_w _) hq9) ms_X12_in ml_X12_80 (by decide) rfl rfl rfl (Nat.le_of_ble_eq_true rfl) ⟨Nat.le_refl 0, Nat.le_refl 0⟩ dX12_row_38 (fun p10 H locs S => ?_)
        refine jr_if_eq (pc := 41) C p10 (tgt := 53) dX12_row_41 (by decide) (fun c11 => ?_) (fun c11 => ?_)
        · have hyp := (if_pos c11).symm.trans hyp
          refine jr_bipush (pc := 53) C dX12_row_53 (by decide) ?_
          cases hyp
          exact jr_iret C S (show jIn (-6) from ⟨by decide, by decide⟩) dX12_row_55
        · have hyp := (if_neg c11).symm.trans hyp
          refine jr_aload_n (pc := 44) C L dX12_row_44 rfl rfl ?_
          obtain ⟨v12, hv12, hyp⟩ := jbind hyp
          refine jr_getR (pc := 45) C S lf_X12_52 rfl hv12 dX12_row_45 ?_
          refine jr_iload_n (pc := 48) C L dX12_row_48 rfl rfl ?_
          obtain ⟨v13, hv13, hyp⟩ := jbind hyp
          have iv13 := jra_in S hv13
          refine jr_ial (pc := 49) C S h_x2 hv13 dX12_row_49 ?_
          refine jr_goto (pc := 50) C (tgt := 55) dX12_row_50 (by decide) ?_
          cases hyp
          exact jr_iret C S iv13 dX12_row_55
theorem c_X12_row {l : Launch} {D : va_G} {cy : Nat → ClassId} {B sz : Nat} {sh : jm_S} {res : (Int × jm_M)} {N : Nat} {m : jm_M} {a0 : Nat} {x1 : Int} (h_x1 : jIn x1) {x2 : Int} (h_x2 : jIn x2) (hyp : f_X12_row N sh a0 x1 x2 m = some res) : jCt l D cy B sz sh 8 yX12_row cX12_row 4 (some .int) [jR B a0, jI x1, jI x2] m (some (jI res.1)) res.2 (jIn res.1) :=
  jc_of (by decide) (fun v h => by simp only [List.mem_cons, List.not_mem_nil, or_false] at h; rcases h with rfl | rfl | rfl <;> first | rfl | exact jR_cat _ _) (Nat.le_of_ble_eq_true rfl) (fun C S L => t_X12_row_e C  h_x1 h_x2 S L hyp)
set_option maxHeartbeats 4000000 in
set_option maxRecDepth 100000 in
theorem t_X12_fetchAges_b143 {p : Program} {l : Launch} {e : Env} {s : State} {mi : MethodId} {args : Array Value} {below : List Frame} {meth : Method} {c : Code} {D : va_G} {cy : Nat → ClassId} {B sz : Nat} {sh : jm_S} {res : jm_M} {N : Nat} {k47 : Nat → Int → Int → Int → Int → Int → jm_M → Option jm_M} (C : jCx p s mi args meth c cX12_fetchAges 7 RX12 none D cy) (K47 : ∀ (a0 : Nat) (x1 : Int) (x3 : Int) (x4 : Int) (x5 : Int) (x6 : Int) , jIn x1 → jIn x3 → jIn x4 → jIn x5 → jIn x6 → ∀ (m : jm_M) (H : Heap) (locs : List Loc) (ls : Array Slot), jHs D cy B sz sh (jA B sz) s.heap H locs m → jL ls [some (jR B a0), some (jI x1), none, some (jI x3), some (jI x4), some (jI x5), some (jI x6)] → k47 a0 x1 x3 x4 x5 x6 m = some res → W p l e (jrm 1 0 0) s mi args below meth c H locs 0 0 (MQ below (jQc D cy B sz sh res none True) args s 0 0 (jA B sz)) (F0 mi 47 ls [])) {a0 : Nat} {x1 : Int} (h_x1 : jIn x1) {x3 : Int} (h_x3 : jIn x3) {x4 : Int} (h_x4 : jIn x4) {x5 : Int} (h_x5 : jIn x5) {x6 : Int} (h_x6 : jIn x6) {m : jm_M} {H : Heap} {locs : List Loc} {ls : Array Slot} (S : jHs D cy B sz sh (jA B sz) s.heap H locs m) (L : jL ls [some (jR B a0), some (jI x1), none, some (jI x3), some (jI x4), some (jI x5), some (jI x6)]) (hyp : f_X12_fetchAges_b143 N sh k47 a0 x1 x3 x4 x5 x6 m = some res) : W p l e (jrm 1 0 0) s mi args below meth c H locs 0 0 (MQ below (jQc D cy B sz sh res none True) args s 0 0 (jA B sz)) (F0 mi 143 ls []) := by
  unfold f_X12_fetchAges_b143 at hyp
  refine jr_iload (pc := 143) C L dX12_fetchAges_143 rfl ?_
  refine jr_aload_n (pc := 145) C L dX12_fetchAges_145 rfl rfl ?_
  obtain ⟨v1, hv1, hyp⟩ := jbind hyp
  refine jr_getR (pc := 146) C S lf_X12_7 rfl hv1 dX12_fetchAges_146 ?_
  refine jr_iconst (pc := 149) C dX12_fetchAges_149 ?_
  obtain ⟨v2, hv2, hyp⟩ := jbind hyp
  have iv2 := jra_in S hv2
  refine jr_ial (pc := 150) C S (show jIn 0 from ⟨by decide, by decide⟩) hv2 dX12_fetchAges_150 ?_
  refine jr_iadd (pc := 151) C dX12_fetchAges_151 ?_
  refine jr_istore (pc := 152) C L dX12_fetchAges_152 (Nat.le_of_ble_eq_true rfl) (fun ls L => ?_)
  have L : jL ls [some (jR B a0), some (jI x1), none, some (jI x3), some (jI x4), some (jI x5), some (jI (jw (x6 + v2)))] := L
  refine jr_goto (pc := 154) C (tgt := 47) dX12_fetchAges_154 (by decide) ?_
  exact K47 a0 x1 x3 x4 x5 (jw (x6 + v2)) h_x1 h_x3 h_x4 h_x5 (jIn_w _) m _ _ _ S (L.sub (jsub_s (jsub_s (jsub_n (jsub_s (jsub_s (jsub_s (jsub_s jsub_0)))))))) hyp
set_option maxHeartbeats 4000000 in
set_option maxRecDepth 100000 in
theorem t_X12_fetchAges_b141 {p : Program} {l : Launch} {e : Env} {s : State} {mi : MethodId} {args : Array Value} {below : List Frame} {meth : Method} {c : Code} {D : va_G} {cy : Nat → ClassId} {B sz : Nat} {sh : jm_S} {res : jm_M} {N : Nat} {k47 : Nat → Int → Int → Int → Int → Int → jm_M → Option jm_M} (C : jCx p s mi args meth c cX12_fetchAges 7 RX12 none D cy) (K47 : ∀ (a0 : Nat) (x1 : Int) (x3 : Int) (x4 : Int) (x5 : Int) (x6 : Int) , jIn x1 → jIn x3 → jIn x4 → jIn x5 → jIn x6 → ∀ (m : jm_M) (H : Heap) (locs : List Loc) (ls : Array Slot), jHs D cy B sz sh (jA B sz) s.heap H locs m → jL ls [some (jR B a0), some (jI x1), none, some (jI x3), some (jI x4), some (jI x5), some (jI x6)] → k47 a0 x1 x3 x4 x5 x6 m = some res → W p l e (jrm 1 0 0) s mi args below meth c H locs 0 0 (MQ below (jQc D cy B sz sh res none True) args s 0 0 (jA B sz)) (F0 mi 47 ls [])) {a0 : Nat} {x1 : Int} (h_x1 : jIn x1) {x3 : Int} (h_x3 : jIn x3) {x4 : Int} (h_x4 : jIn x4) {x5 : Int} (h_x5 : jIn x5) {x6 : Int} (h_x6 : jIn x6) {r0 : Nat} {s1 : Int} (h_s1 : jIn s1) {s2 : Int} (h_s2 : jIn s2) {s3 : Int} (h_s3 : jIn s3) {m : jm_M} {H : Heap} {locs : List Loc} {ls : Array Slot} (S : jHs D cy B sz sh (jA B sz) s.heap H locs m) (L : jL ls [some (jR B a0), some (jI x1), none, some (jI x3), some (jI x4), some (jI x5), some (jI x6)]) (hyp : f_X12_fetchAges_b141 N sh k47 a0 x1 x3 x4 x5 x6 r0 s1 s2 s3 m = some res) : W p l e (jrm 1 0 0) s mi args below meth c H locs 0 0 (MQ below (jQc D cy B sz sh res none True) args s 0 0 (jA B sz)) (F0 mi 141 ls [jI s3, jI s2, jI s1, jR B r0]) := by
  unfold f_X12_fetchAges_b141 at hyp
  refine jr_iadd (pc := 141) C dX12_fetchAges_141 ?_
  obtain ⟨m3, hm3, hyp⟩ := jbind hyp
  refine jr_ias (pc := 142) C S h_s1 (jIn_w _) hm3 dX12_fetchAges_142 (fun H locs S => ?_)
  exact t_X12_fetchAges_b143 C  K47 h_x1 h_x3 h_x4 h_x5 h_x6 S (L.sub (jsub_s (jsub_s (jsub_n (jsub_s (jsub_s (jsub_s (jsub_s jsub_0)))))))) hyp
set_option maxHeartbeats 4000000 in
set_option maxRecDepth 100000 in
theorem t_X12_fetchAges_b140 {p : Program} {l : Launch} {e : Env} {s : State} {mi : MethodId} {args : Array Value} {below : List Frame} {meth : Method} {c : Code} {D : va_G} {cy : Nat → ClassId} {B sz : Nat} {sh : jm_S} {res : jm_M} {N : Nat} {k47 : Nat → Int → Int → Int → Int → Int → jm_M → Option jm_M} (C : jCx p s mi args meth c cX12_fetchAges 7 RX12 none D cy) (K47 : ∀ (a0 : Nat) (x1 : Int) (x3 : Int) (x4 : Int) (x5 : Int) (x6 : Int) , jIn x1 → jIn x3 → jIn x4 → jIn x5 → jIn x6 → ∀ (m : jm_M) (H : Heap) (locs : List Loc) (ls : Array Slot), jHs D cy B sz sh (jA B sz) s.heap H locs m → jL ls [some (jR B a0), some (jI x1), none, some (jI x3), some (jI x4), some (jI x5), some (jI x6)] → k47 a0 x1 x3 x4 x5 x6 m = some res → W p l e (jrm 1 0 0) s mi args below meth c H locs 0 0 (MQ below (jQc D cy B sz sh res none True) args s 0 0 (jA B sz)) (F0 mi 47 ls [])) {a0 : Nat} {x1 : Int} (h_x1 : jIn x1) {x3 : Int} (h_x3 : jIn x3) {x4 : Int} (h_x4 : jIn x4) {x5 : Int} (h_x5 : jIn x5) {x6 : Int} (h_x6 : jIn x6) {r0 : Nat} {s1 : Int} (h_s1 : jIn s1) {s2 : Int} (h_s2 : jIn s2) {m : jm_M} {H : Heap} {locs : List Loc} {ls : Array Slot} (S : jHs D cy B sz sh (jA B sz) s.heap H locs m) (L : jL ls [some (jR B a0), some (jI x1), none, some (jI x3), some (jI x4), some (jI x5), some (jI x6)]) (hyp : f_X12_fetchAges_b140 N sh k47 a0 x1 x3 x4 x5 x6 r0 s1 s2 m = some res) : W p l e (jrm 1 0 0) s mi args below meth c H locs 0 0 (MQ below (jQc D cy B sz sh res none True) args s 0 0 (jA B sz)) (F0 mi 140 ls [jI s2, jI s1, jR B r0]) := by
  unfold f_X12_fetchAges_b140 at hyp
  refine jr_iconst (pc := 140) C dX12_fetchAges_140 ?_
  exact t_X12_fetchAges_b141 C  K47 h_x1 h_x3 h_x4 h_x5 h_x6 h_s1 h_s2 (show jIn 0 from ⟨by decide, by decide⟩) S (L.sub (jsub_s (jsub_s (jsub_n (jsub_s (jsub_s (jsub_s (jsub_s jsub_0)))))))) hyp
set_option maxHeartbeats 4000000 in
set_option maxRecDepth 100000 in
theorem t_X12_fetchAges_b94 {p : Program} {l : Launch} {e : Env} {s : State} {mi : MethodId} {args : Array Value} {below : List Frame} {meth : Method} {c : Code} {D : va_G} {cy : Nat → ClassId} {B sz : Nat} {sh : jm_S} {res : jm_M} {N : Nat} {k47 : Nat → Int → Int → Int → Int → Int → jm_M → Option jm_M} (C : jCx p s mi args meth c cX12_fetchAges 7 RX12 none D cy) (K47 : ∀ (a0 : Nat) (x1 : Int) (x3 : Int) (x4 : Int) (x5 : Int) (x6 : Int) , jIn x1 → jIn x3 → jIn x4 → jIn x5 → jIn x6 → ∀ (m : jm_M) (H : Heap) (locs : List Loc) (ls : Array Slot), jHs D cy B sz sh (jA B sz) s.heap H locs m → jL ls [some (jR B a0), some (jI x1), none, some (jI x3), some (jI x4), some (jI x5), some (jI x6)] → k47 a0 x1 x3 x4 x5 x6 m = some res → W p l e (jrm 1 0 0) s mi args below meth c H locs 0 0 (MQ below (jQc D cy B sz sh res none True) args s 0 0 (jA B sz)) (F0 mi 47 ls [])) {a0 : Nat} {x1 : Int} (h_x1 : jIn x1) {x3 : Int} (h_x3 : jIn x3) {x4 : Int} (h_x4 : jIn x4) {x5 : Int} (h_x5 : jIn x5) {x6 : Int} (h_x6 : jIn x6) {r0 : Nat} {s1 : Int} (h_s1 : jIn s1) {s2 : Int} (h_s2 : jIn s2) {s3 : Int} (h_s3 : jIn s3) {m : jm_M} {H : Heap} {locs : List Loc} {ls : Array Slot} (S : jHs D cy B sz sh (jA B sz) s.heap H locs m) (L : jL ls [some (jR B a0), some (jI x1), none, some (jI x3), some (jI x4), some (jI x5), some (jI x6)]) (hyp : f_X12_fetchAges_b94 N sh k47 a0 x1 x3 x4 x5 x6 r0 s1 s2 s3 m = some res) : W p l e (jrm 1 0 0) s mi args below meth c H locs 0 0 (MQ below (jQc D cy B sz sh res none True) args s 0 0 (jA B sz)) (F0 mi 94 ls [jI s3, jI s2, jI s1, jR B r0]) := by
  unfold f_X12_fetchAges_b94 at hyp
  refine jr_iadd (pc := 94) C dX12_fetchAges_94 ?_
  obtain ⟨m4, hm4, hyp⟩ := jbind hyp
  refine jr_ias (pc := 95) C S h_s1 (jIn_w _) hm4 dX12_fetchAges_95 (fun H locs S => ?_)
  refine jr_aload_n (pc := 96) C L dX12_fetchAges_96 rfl rfl ?_
  obtain ⟨v5, hv5, hyp⟩ := jbind hyp
  refine jr_getR (pc := 97) C S lf_X12_58 rfl hv5 dX12_fetchAges_97 ?_
  refine jr_bipush (pc := 100) C dX12_fetchAges_100 (by decide) ?_
  refine jr_iload (pc := 102) C L dX12_fetchAges_102 rfl ?_
  refine jr_iadd (pc := 104) C dX12_fetchAges_104 ?_
  refine jr_dup2 (pc := 105) C dX12_fetchAges_105 ?_
  obtain ⟨v6, hv6, hyp⟩ := jbind hyp
  have iv6 := jra_in S hv6
  refine jr_ial (pc := 106) C S (jIn_w _) hv6 dX12_fetchAges_106 ?_
  refine jr_aload_n (pc := 107) C L dX12_fetchAges_107 rfl rfl ?_
  obtain ⟨v7, hv7, hyp⟩ := jbind hyp
  refine jr_getR (pc := 108) C S lf_X12_58 rfl hv7 dX12_fetchAges_108 ?_
  refine jr_bipush (pc := 111) C dX12_fetchAges_111 (by decide) ?_
  refine jr_iload (pc := 113) C L dX12_fetchAges_113 rfl ?_
  refine jr_iadd (pc := 115) C dX12_fetchAges_115 ?_
  obtain ⟨v8, hv8, hyp⟩ := jbind hyp
  have iv8 := jra_in S hv8
  refine jr_ial (pc := 116) C S (jIn_w _) hv8 dX12_fetchAges_116 ?_
  refine jr_iload (pc := 117) C L dX12_fetchAges_117 rfl ?_
  refine jr_icmp_gt (pc := 119) C iv8 h_x5 (tgt := 140) dX12_fetchAges_119 (by decide) (fun c9 => ?_) (fun c9 => ?_)
  · have hyp := (if_pos c9).symm.trans hyp
    exact t_X12_fetchAges_b140 C  K47 h_x1 h_x3 h_x4 h_x5 h_x6 (jIn_w _) iv6 S (L.sub (jsub_s (jsub_s (jsub_n (jsub_s (jsub_s (jsub_s (jsub_s jsub_0)))))))) hyp
  · have hyp := (if_neg c9).symm.trans hyp
    refine jr_aload_n (pc := 122) C L dX12_fetchAges_122 rfl rfl ?_
    obtain ⟨v10, hv10, hyp⟩ := jbind hyp
    refine jr_getR (pc := 123) C S lf_X12_58 rfl hv10 dX12_fetchAges_123 ?_
    refine jr_bipush (pc := 126) C dX12_fetchAges_126 (by decide) ?_
    refine jr_iload (pc := 128) C L dX12_fetchAges_128 rfl ?_
    refine jr_iadd (pc := 130) C dX12_fetchAges_130 ?_
    obtain ⟨v11, hv11, hyp⟩ := jbind hyp
    have iv11 := jra_in S hv11
    refine jr_ial (pc := 131) C S (jIn_w _) hv11 dX12_fetchAges_131 ?_
    refine jr_iload_n (pc := 132) C L dX12_fetchAges_132 rfl rfl ?_
    refine jr_icmp_ge (pc := 133) C iv11 h_x3 (tgt := 140) dX12_fetchAges_133 (by decide) (fun c12 => ?_) (fun c12 => ?_)
    · have hyp := (if_pos c12).symm.trans hyp
      refine jr_iconst (pc := 136) C dX12_fetchAges_136 ?_
      refine jr_goto (pc := 137) C (tgt := 141) dX12_fetchAges_137 (by decide) ?_
      exact t_X12_fetchAges_b141 C  K47 h_x1 h_x3 h_x4 h_x5 h_x6 (jIn_w _) iv6 (show jIn 1 from ⟨by decide, by decide⟩) S (L.sub (jsub_s (jsub_s (jsub_n (jsub_s (jsub_s (jsub_s (jsub_s jsub_0)))))))) hyp
    · have hyp := (if_neg c12).symm.trans hyp
      exact t_X12_fetchAges_b140 C  K47 h_x1 h_x3 h_x4 h_x5 h_x6 (jIn_w _) iv6 S (L.sub (jsub_s (jsub_s (jsub_n (jsub_s (jsub_s (jsub_s (jsub_s jsub_0)))))))) hyp
set_option maxHeartbeats 4000000 in
set_option maxRecDepth 100000 in
theorem t_X12_fetchAges_b47 {p : Program} {l : Launch} {e : Env} {s : State} {mi : MethodId} {args : Array Value} {below : List Frame} {meth : Method} {c : Code} {D : va_G} {cy : Nat → ClassId} {B sz : Nat} {sh : jm_S} {res : jm_M} {N : Nat} {k47 : Nat → Int → Int → Int → Int → Int → jm_M → Option jm_M} (C : jCx p s mi args meth c cX12_fetchAges 7 RX12 none D cy) (K47 : ∀ (a0 : Nat) (x1 : Int) (x3 : Int) (x4 : Int) (x5 : Int) (x6 : Int) , jIn x1 → jIn x3 → jIn x4 → jIn x5 → jIn x6 → ∀ (m : jm_M) (H : Heap) (locs : List Loc) (ls : Array Slot), jHs D cy B sz sh (jA B sz) s.heap H locs m → jL ls [some (jR B a0), some (jI x1), none, some (jI x3), some (jI x4), some (jI x5), some (jI x6)] → k47 a0 x1 x3 x4 x5 x6 m = some res → W p l e (jrm 1 0 0) s mi args below meth c H locs 0 0 (MQ below (jQc D cy B sz sh res none True) args s 0 0 (jA B sz)) (F0 mi 47 ls [])) {a0 : Nat} {x1 : Int} (h_x1 : jIn x1) {x3 : Int} (h_x3 : jIn x3) {x4 : Int} (h_x4 : jIn x4) {x5 : Int} (h_x5 : jIn x5) {x6 : Int} (h_x6 : jIn x6) {m : jm_M} {H : Heap} {locs : List Loc} {ls : Array Slot} (S : jHs D cy B sz sh (jA B sz) s.heap H locs m) (L : jL ls [some (jR B a0), some (jI x1), none, some (jI x3), some (jI x4), some (jI x5), some (jI x6)]) (hyp : f_X12_fetchAges_b47 N sh k47 a0 x1 x3 x4 x5 x6 m = some res) : W p l e (jrm 1 0 0) s mi args below meth c H locs 0 0 (MQ below (jQc D cy B sz sh res none True) args s 0 0 (jA B sz)) (F0 mi 47 ls []) := by
  unfold f_X12_fetchAges_b47 at hyp
  refine jr_iload (pc := 47) C L dX12_fetchAges_47 rfl ?_
  refine jr_bipush (pc := 49) C dX12_fetchAges_49 (by decide) ?_
  refine jr_icmp_ge (pc := 51) C h_x6 (show jIn 8 from ⟨by decide, by decide⟩) (tgt := 157) dX12_fetchAges_51 (by decide) (fun c13 => ?_) (fun c13 => ?_)
  · have hyp := (if_pos c13).symm.trans hyp
    refine jr_iload (pc := 54) C L dX12_fetchAges_54 rfl ?_
    refine jr_iload_n (pc := 56) C L dX12_fetchAges_56 rfl rfl ?_
    refine jr_icmp_eq (pc := 57) C h_x6 h_x1 (tgt := 143) dX12_fetchAges_57 (by decide) (fun c14 => ?_) (fun c14 => ?_)
    · have hyp := (if_pos c14).symm.trans hyp
      exact t_X12_fetchAges_b143 C  K47 h_x1 h_x3 h_x4 h_x5 h_x6 S (L.sub (jsub_s (jsub_s (jsub_n (jsub_s (jsub_s (jsub_s (jsub_s jsub_0)))))))) hyp
    · have hyp := (if_neg c14).symm.trans hyp
      refine jr_aload_n (pc := 60) C L dX12_fetchAges_60 rfl rfl ?_
      refine jr_iload (pc := 61) C L dX12_fetchAges_61 rfl ?_
      obtain ⟨u15, hu15, hyp⟩ := jbind hyp
      obtain ⟨q16, hq16, hyp⟩ := jbind hyp
      refine jr_callV_I (pc := 63) C S L (As := [jI x6]) (rest := []) (c_X12_isHeld (m0 := m) h_x6 hq16) mv_X12_isHeld ml_X12_124 rfl (jck_spec hu15) (by decide) rfl rfl rfl (Nat.le_of_ble_eq_true rfl) ⟨Nat.le_refl 0, Nat.le_refl 0⟩ dX12_fetchAges_63 (fun p17 H locs S => ?_)
      refine jr_if_ne (pc := 66) C p17 (tgt := 143) dX12_fetchAges_66 (by decide) (fun c18 => ?_) (fun c18 => ?_)
      · have hyp := (if_pos c18).symm.trans hyp
        refine jr_aload_n (pc := 69) C L dX12_fetchAges_69 rfl rfl ?_
        obtain ⟨v19, hv19, hyp⟩ := jbind hyp
        refine jr_getR (pc := 70) C S lf_X12_58 rfl hv19 dX12_fetchAges_70 ?_
        refine jr_iload (pc := 73) C L dX12_fetchAges_73 rfl ?_
        refine jr_dup2 (pc := 75) C dX12_fetchAges_75 ?_
        obtain ⟨v20, hv20, hyp⟩ := jbind hyp
        have iv20 := jra_in S hv20
        refine jr_ial (pc := 76) C S h_x6 hv20 dX12_fetchAges_76 ?_
        refine jr_aload_n (pc := 77) C L dX12_fetchAges_77 rfl rfl ?_
        obtain ⟨v21, hv21, hyp⟩ := jbind hyp
        refine jr_getR (pc := 78) C S lf_X12_58 rfl hv21 dX12_fetchAges_78 ?_
        refine jr_iload (pc := 81) C L dX12_fetchAges_81 rfl ?_
        obtain ⟨v22, hv22, hyp⟩ := jbind hyp
        have iv22 := jra_in S hv22
        refine jr_ial (pc := 83) C S h_x6 hv22 dX12_fetchAges_83 ?_
        refine jr_iload (pc := 84) C L dX12_fetchAges_84 rfl ?_
        refine jr_icmp_ge (pc := 86) C iv22 h_x4 (tgt := 93) dX12_fetchAges_86 (by decide) (fun c23 => ?_) (fun c23 => ?_)
        · have hyp := (if_pos c23).symm.trans hyp
          refine jr_iconst (pc := 89) C dX12_fetchAges_89 ?_
          refine jr_goto (pc := 90) C (tgt := 94) dX12_fetchAges_90 (by decide) ?_
          exact t_X12_fetchAges_b94 C  K47 h_x1 h_x3 h_x4 h_x5 h_x6 h_x6 iv20 (show jIn 1 from ⟨by decide, by decide⟩) S (L.sub (jsub_s (jsub_s (jsub_n (jsub_s (jsub_s (jsub_s (jsub_s jsub_0)))))))) hyp
        · have hyp := (if_neg c23).symm.trans hyp
          refine jr_iconst (pc := 93) C dX12_fetchAges_93 ?_
          exact t_X12_fetchAges_b94 C  K47 h_x1 h_x3 h_x4 h_x5 h_x6 h_x6 iv20 (show jIn 0 from ⟨by decide, by decide⟩) S (L.sub (jsub_s (jsub_s (jsub_n (jsub_s (jsub_s (jsub_s (jsub_s jsub_0)))))))) hyp
      · have hyp := (if_neg c18).symm.trans hyp
        exact t_X12_fetchAges_b143 C  K47 h_x1 h_x3 h_x4 h_x5 h_x6 S (L.sub (jsub_s (jsub_s (jsub_n (jsub_s (jsub_s (jsub_s (jsub_s jsub_0)))))))) hyp
  · have hyp := (if_neg c13).symm.trans hyp
    refine jr_aload_n (pc := 157) C L dX12_fetchAges_157 rfl rfl ?_
    obtain ⟨v24, hv24, hyp⟩ := jbind hyp
    refine jr_getR (pc := 158) C S lf_X12_58 rfl hv24 dX12_fetchAges_158 ?_
    refine jr_iload_n (pc := 161) C L dX12_fetchAges_161 rfl rfl ?_
    refine jr_iconst (pc := 162) C dX12_fetchAges_162 ?_
    obtain ⟨m25, hm25, hyp⟩ := jbind hyp
    refine jr_ias (pc := 163) C S h_x1 (show jIn 0 from ⟨by decide, by decide⟩) hm25 dX12_fetchAges_163 (fun H locs S => ?_)
    refine jr_aload_n (pc := 164) C L dX12_fetchAges_164 rfl rfl ?_
    obtain ⟨v26, hv26, hyp⟩ := jbind hyp
    refine jr_getR (pc := 165) C S lf_X12_58 rfl hv26 dX12_fetchAges_165 ?_
    refine jr_bipush (pc := 168) C dX12_fetchAges_168 (by decide) ?_
    refine jr_iload_n (pc := 170) C L dX12_fetchAges_170 rfl rfl ?_
    refine jr_iadd (pc := 171) C dX12_fetchAges_171 ?_
    refine jr_iconst (pc := 172) C dX12_fetchAges_172 ?_
    obtain ⟨m27, hm27, hyp⟩ := jbind hyp
    refine jr_ias (pc := 173) C S (jIn_w _) (show jIn 0 from ⟨by decide, by decide⟩) hm27 dX12_fetchAges_173 (fun H locs S => ?_)
    cases hyp
    exact jr_vret C S trivial dX12_fetchAges_174
theorem t_X12_fetchAges_l47 {p : Program} {l : Launch} {e : Env} {s : State} {mi : MethodId} {args : Array Value} {below : List Frame} {meth : Method} {c : Code} {D : va_G} {cy : Nat → ClassId} {B sz : Nat} {sh : jm_S} {res : jm_M} {N : Nat} (C : jCx p s mi args meth c cX12_fetchAges 7 RX12 none D cy) : ∀ (n : Nat) (a0 : Nat) (x1 : Int) (x3 : Int) (x4 : Int) (x5 : Int) (x6 : Int), jIn x1 → jIn x3 → jIn x4 → jIn x5 → jIn x6 → ∀ (m : jm_M) (H : Heap) (locs : List Loc) (ls : Array Slot), jHs D cy B sz sh (jA B sz) s.heap H locs m → jL ls [some (jR B a0), some (jI x1), none, some (jI x3), some (jI x4), some (jI x5), some (jI x6)] → f_X12_fetchAges_l47 N sh n a0 x1 x3 x4 x5 x6 m = some res → W p l e (jrm 1 0 0) s mi args below meth c H locs 0 0 (MQ below (jQc D cy B sz sh res none True) args s 0 0 (jA B sz)) (F0 mi 47 ls []) := by
  intro n
  induction n with
  | zero => intro a0 x1 x3 x4 x5 x6 h_x1 h_x3 h_x4 h_x5 h_x6 m H locs ls S L hyp; cases hyp
  | succ n ih => intro a0 x1 x3 x4 x5 x6 h_x1 h_x3 h_x4 h_x5 h_x6 m H locs ls S L hyp; exact t_X12_fetchAges_b47 (N := N) C  ih h_x1 h_x3 h_x4 h_x5 h_x6 S L hyp
set_option maxHeartbeats 4000000 in
set_option maxRecDepth 100000 in
theorem t_X12_fetchAges_e {p : Program} {l : Launch} {e : Env} {s : State} {mi : MethodId} {args : Array Value} {below : List Frame} {meth : Method} {c : Code} {D : va_G} {cy : Nat → ClassId} {B sz : Nat} {sh : jm_S} {res : jm_M} {N : Nat} (C : jCx p s mi args meth c cX12_fetchAges 7 RX12 none D cy) {a0 : Nat} {x1 : Int} (h_x1 : jIn x1) {m : jm_M} {H : Heap} {locs : List Loc} {ls : Array Slot} (S : jHs D cy B sz sh (jA B sz) s.heap H locs m) (L : jL ls [some (jR B a0), some (jI x1), none, none, none, none, none]) (hyp : f_X12_fetchAges N sh a0 x1 m = some res) : W p l e (jrm 1 0 0) s mi args below meth c H locs 0 0 (MQ below (jQc D cy B sz sh res none True) args s 0 0 (jA B sz)) (F0 mi 0 ls []) := by
  unfold f_X12_fetchAges at hyp
  refine jr_aload_n (pc := 0) C L dX12_fetchAges_0 rfl rfl ?_
  refine jr_iload_n (pc := 1) C L dX12_fetchAges_1 rfl rfl ?_
  obtain ⟨u28, hu28, hyp⟩ := jbind hyp
  obtain ⟨q29, hq29, hyp⟩ := jbind hyp
  refine jr_callV_I (pc := 2) C S L (As := [jI x1]) (rest := []) (c_X12_setOf (m0 := m) h_x1 hq29) mv_X12_setOf ml_X12_131 rfl (jck_spec hu28) (by decide) rfl rfl rfl (Nat.le_of_ble_eq_true rfl) ⟨Nat.le_refl 0, Nat.le_refl 0⟩ dX12_fetchAges_2 (fun p30 H locs S => ?_)
  refine jr_istore_n (pc := 5) C L dX12_fetchAges_5 rfl (Nat.le_of_ble_eq_true rfl) (fun ls L => ?_)
  have L : jL ls [some (jR B a0), some (jI x1), some (jI q29), none, none, none, none] := L
  refine jr_aload_n (pc := 6) C L dX12_fetchAges_6 rfl rfl ?_
  refine jr_iload_n (pc := 7) C L dX12_fetchAges_7 rfl rfl ?_
  obtain ⟨u31, hu31, hyp⟩ := jbind hyp
  obtain ⟨q32, hq32, hyp⟩ := jbind hyp
  refine jr_callV_I (pc := 8) C S L (As := [jI q29]) (rest := []) (c_X12_roomOf (m0 := m) p30 hq32) mv_X12_roomOf ml_X12_134 rfl (jck_spec hu31) (by decide) rfl rfl rfl (Nat.le_of_ble_eq_true rfl) ⟨Nat.le_refl 0, Nat.le_refl 0⟩ dX12_fetchAges_8 (fun p33 H locs S => ?_)
  refine jr_istore_n (pc := 11) C L dX12_fetchAges_11 rfl (Nat.le_of_ble_eq_true rfl) (fun ls L => ?_)
  have L : jL ls [some (jR B a0), some (jI x1), some (jI q29), some (jI q32), none, none, none] := L
  refine jr_aload_n (pc := 12) C L dX12_fetchAges_12 rfl rfl ?_
  refine jr_iload_n (pc := 13) C L dX12_fetchAges_13 rfl rfl ?_
  obtain ⟨u34, hu34, hyp⟩ := jbind hyp
  obtain ⟨q35, hq35, hyp⟩ := jbind hyp
  refine jr_callV_I (pc := 14) C S L (As := [jI x1]) (rest := []) (c_X12_isHeld (m0 := m) h_x1 hq35) mv_X12_isHeld ml_X12_124 rfl (jck_spec hu34) (by decide) rfl rfl rfl (Nat.le_of_ble_eq_true rfl) ⟨Nat.le_refl 0, Nat.le_refl 0⟩ dX12_fetchAges_14 (fun p36 H locs S => ?_)
  refine jr_if_ne (pc := 17) C p36 (tgt := 24) dX12_fetchAges_17 (by decide) (fun c37 => ?_) (fun c37 => ?_)
  · have hyp := (if_pos c37).symm.trans hyp
    refine jr_iload_n (pc := 20) C L dX12_fetchAges_20 rfl rfl ?_
    refine jr_if_ne (pc := 21) C p33 (tgt := 25) dX12_fetchAges_21 (by decide) (fun c38 => ?_) (fun c38 => ?_)
    · have hyp := (if_pos c38).symm.trans hyp
      cases hyp
      exact jr_vret C S trivial dX12_fetchAges_24
    · have hyp := (if_neg c38).symm.trans hyp
      refine jr_aload_n (pc := 25) C L dX12_fetchAges_25 rfl rfl ?_
      obtain ⟨v39, hv39, hyp⟩ := jbind hyp
      refine jr_getR (pc := 26) C S lf_X12_58 rfl hv39 dX12_fetchAges_26 ?_
      refine jr_iload_n (pc := 29) C L dX12_fetchAges_29 rfl rfl ?_
      obtain ⟨v40, hv40, hyp⟩ := jbind hyp
      have iv40 := jra_in S hv40
      refine jr_ial (pc := 30) C S h_x1 hv40 dX12_fetchAges_30 ?_
      refine jr_istore (pc := 31) C L dX12_fetchAges_31 (Nat.le_of_ble_eq_true rfl) (fun ls L => ?_)
      have L : jL ls [some (jR B a0), some (jI x1), some (jI q29), some (jI q32), some (jI v40), none, none] := L
      refine jr_aload_n (pc := 33) C L dX12_fetchAges_33 rfl rfl ?_
      obtain ⟨v41, hv41, hyp⟩ := jbind hyp
      refine jr_getR (pc := 34) C S lf_X12_58 rfl hv41 dX12_fetchAges_34 ?_
      refine jr_bipush (pc := 37) C dX12_fetchAges_37 (by decide) ?_
      refine jr_iload_n (pc := 39) C L dX12_fetchAges_39 rfl rfl ?_
      refine jr_iadd (pc := 40) C dX12_fetchAges_40 ?_
      obtain ⟨v42, hv42, hyp⟩ := jbind hyp
      have iv42 := jra_in S hv42
      refine jr_ial (pc := 41) C S (jIn_w _) hv42 dX12_fetchAges_41 ?_
      refine jr_istore (pc := 42) C L dX12_fetchAges_42 (Nat.le_of_ble_eq_true rfl) (fun ls L => ?_)
      have L : jL ls [some (jR B a0), some (jI x1), some (jI q29), some (jI q32), some (jI v40), some (jI v42), none] := L
      refine jr_iload_n (pc := 44) C L dX12_fetchAges_44 rfl rfl ?_
      refine jr_istore (pc := 45) C L dX12_fetchAges_45 (Nat.le_of_ble_eq_true rfl) (fun ls L => ?_)
      have L : jL ls [some (jR B a0), some (jI x1), some (jI q29), some (jI q32), some (jI v40), some (jI v42), some (jI q29)] := L
      exact t_X12_fetchAges_l47 C   N a0 x1 q32 v40 v42 q29 h_x1 p33 iv40 iv42 p30 m _ _ _ S (L.sub (jsub_s (jsub_s (jsub_n (jsub_s (jsub_s (jsub_s (jsub_s jsub_0)))))))) hyp
  · have hyp := (if_neg c37).symm.trans hyp
    cases hyp
    exact jr_vret C S trivial dX12_fetchAges_24
theorem c_X12_fetchAges {l : Launch} {D : va_G} {cy : Nat → ClassId} {B sz : Nat} {sh : jm_S} {res : jm_M} {N : Nat} {m : jm_M} {a0 : Nat} {x1 : Int} (h_x1 : jIn x1) (hyp : f_X12_fetchAges N sh a0 x1 m = some res) : jCt l D cy B sz sh 1 yX12_fetchAges cX12_fetchAges 7 none [jR B a0, jI x1] m none res True :=
  jc_of (by decide) (fun v h => by simp only [List.mem_cons, List.not_mem_nil, or_false] at h; rcases h with rfl | rfl <;> first | rfl | exact jR_cat _ _) (Nat.le_of_ble_eq_true rfl) (fun C S L => t_X12_fetchAges_e C  h_x1 S L hyp)
set_option maxHeartbeats 4000000 in
set_option maxRecDepth 100000 in
theorem t_X12_joinAges_b108 {p : Program} {l : Launch} {e : Env} {s : State} {mi : MethodId} {args : Array Value} {below : List Frame} {meth : Method} {c : Code} {D : va_G} {cy : Nat → ClassId} {B sz : Nat} {sh : jm_S} {res : (Int × jm_M)} {N : Nat} {k4 : Nat → Int → Int → Int → jm_M → Option (Int × jm_M)} (C : jCx p s mi args meth c cX12_joinAges 6 RX12 (some .boolean) D cy) (K4 : ∀ (a0 : Nat) (x1 : Int) (x2 : Int) (x3 : Int) , jIn x1 → jIn x2 → jIn x3 → ∀ (m : jm_M) (H : Heap) (locs : List Loc) (ls : Array Slot), jHs D cy B sz sh (jA B sz) s.heap H locs m → jL ls [some (jR B a0), some (jI x1), some (jI x2), some (jI x3), none, none] → k4 a0 x1 x2 x3 m = some res → W p l e (jrm 0 0 0) s mi args below meth c H locs 0 0 (MQ below (jQc D cy B sz sh res.2 (some (jI res.1)) (jIn res.1)) args s 0 0 (jA B sz)) (F0 mi 4 ls [])) {a0 : Nat} {x1 : Int} (h_x1 : jIn x1) {x3 : Int} (h_x3 : jIn x3) {s0 : Int} (h_s0 : jIn s0) {m : jm_M} {H : Heap} {locs : List Loc} {ls : Array Slot} (S : jHs D cy B sz sh (jA B sz) s.heap H locs m) (L : jL ls [some (jR B a0), some (jI x1), none, some (jI x3), none, none]) (hyp : f_X12_joinAges_b108 N sh k4 a0 x1 x3 s0 m = some res) : W p l e (jrm 0 0 0) s mi args below meth c H locs 0 0 (MQ below (jQc D cy B sz sh res.2 (some (jI res.1)) (jIn res.1)) args s 0 0 (jA B sz)) (F0 mi 108 ls [jI s0]) := by
  unfold f_X12_joinAges_b108 at hyp
  refine jr_istore_n (pc := 108) C L dX12_joinAges_108 rfl (Nat.le_of_ble_eq_true rfl) (fun ls L => ?_)
  have L : jL ls [some (jR B a0), some (jI x1), some (jI s0), some (jI x3), none, none] := L
  refine jr_iinc (pc := 109) C L dX12_joinAges_109 rfl (Nat.le_of_ble_eq_true rfl) (fun ls L => ?_)
  have L : jL ls [some (jR B a0), some (jI x1), some (jI s0), some (jI (jw (x3 + 1))), none, none] := L
  refine jr_goto (pc := 112) C (tgt := 4) dX12_joinAges_112 (by decide) ?_
  exact K4 a0 x1 s0 (jw (x3 + 1)) h_x1 h_s0 (jIn_w _) m _ _ _ S (L.sub (jsub_s (jsub_s (jsub_s (jsub_s (jsub_n (jsub_n jsub_0))))))) hyp
set_option maxHeartbeats 4000000 in
set_option maxRecDepth 100000 in
theorem t_X12_joinAges_b103 {p : Program} {l : Launch} {e : Env} {s : State} {mi : MethodId} {args : Array Value} {below : List Frame} {meth : Method} {c : Code} {D : va_G} {cy : Nat → ClassId} {B sz : Nat} {sh : jm_S} {res : (Int × jm_M)} {N : Nat} {k4 : Nat → Int → Int → Int → jm_M → Option (Int × jm_M)} (C : jCx p s mi args meth c cX12_joinAges 6 RX12 (some .boolean) D cy) (K4 : ∀ (a0 : Nat) (x1 : Int) (x2 : Int) (x3 : Int) , jIn x1 → jIn x2 → jIn x3 → ∀ (m : jm_M) (H : Heap) (locs : List Loc) (ls : Array Slot), jHs D cy B sz sh (jA B sz) s.heap H locs m → jL ls [some (jR B a0), some (jI x1), some (jI x2), some (jI x3), none, none] → k4 a0 x1 x2 x3 m = some res → W p l e (jrm 0 0 0) s mi args below meth c H locs 0 0 (MQ below (jQc D cy B sz sh res.2 (some (jI res.1)) (jIn res.1)) args s 0 0 (jA B sz)) (F0 mi 4 ls [])) {a0 : Nat} {x1 : Int} (h_x1 : jIn x1) {x3 : Int} (h_x3 : jIn x3) {m : jm_M} {H : Heap} {locs : List Loc} {ls : Array Slot} (S : jHs D cy B sz sh (jA B sz) s.heap H locs m) (L : jL ls [some (jR B a0), some (jI x1), none, some (jI x3), none, none]) (hyp : f_X12_joinAges_b103 N sh k4 a0 x1 x3 m = some res) : W p l e (jrm 0 0 0) s mi args below meth c H locs 0 0 (MQ below (jQc D cy B sz sh res.2 (some (jI res.1)) (jIn res.1)) args s 0 0 (jA B sz)) (F0 mi 103 ls []) := by
  unfold f_X12_joinAges_b103 at hyp
  refine jr_iconst (pc := 103) C dX12_joinAges_103 ?_
  refine jr_goto (pc := 104) C (tgt := 108) dX12_joinAges_104 (by decide) ?_
  exact t_X12_joinAges_b108 C  K4 h_x1 h_x3 (show jIn 1 from ⟨by decide, by decide⟩) S (L.sub (jsub_s (jsub_s (jsub_n (jsub_s (jsub_n (jsub_n jsub_0))))))) hyp
set_option maxHeartbeats 4000000 in
set_option maxRecDepth 100000 in
theorem t_X12_joinAges_b87 {p : Program} {l : Launch} {e : Env} {s : State} {mi : MethodId} {args : Array Value} {below : List Frame} {meth : Method} {c : Code} {D : va_G} {cy : Nat → ClassId} {B sz : Nat} {sh : jm_S} {res : (Int × jm_M)} {N : Nat} {k4 : Nat → Int → Int → Int → jm_M → Option (Int × jm_M)} (C : jCx p s mi args meth c cX12_joinAges 6 RX12 (some .boolean) D cy) (K4 : ∀ (a0 : Nat) (x1 : Int) (x2 : Int) (x3 : Int) , jIn x1 → jIn x2 → jIn x3 → ∀ (m : jm_M) (H : Heap) (locs : List Loc) (ls : Array Slot), jHs D cy B sz sh (jA B sz) s.heap H locs m → jL ls [some (jR B a0), some (jI x1), some (jI x2), some (jI x3), none, none] → k4 a0 x1 x2 x3 m = some res → W p l e (jrm 0 0 0) s mi args below meth c H locs 0 0 (MQ below (jQc D cy B sz sh res.2 (some (jI res.1)) (jIn res.1)) args s 0 0 (jA B sz)) (F0 mi 4 ls [])) {a0 : Nat} {x1 : Int} (h_x1 : jIn x1) {x2 : Int} (h_x2 : jIn x2) {x3 : Int} (h_x3 : jIn x3) {x4 : Int} (h_x4 : jIn x4) {r0 : Nat} {s1 : Int} (h_s1 : jIn s1) {s2 : Int} (h_s2 : jIn s2) {m : jm_M} {H : Heap} {locs : List Loc} {ls : Array Slot} (S : jHs D cy B sz sh (jA B sz) s.heap H locs m) (L : jL ls [some (jR B a0), some (jI x1), some (jI x2), some (jI x3), some (jI x4), none]) (hyp : f_X12_joinAges_b87 N sh k4 a0 x1 x2 x3 x4 r0 s1 s2 m = some res) : W p l e (jrm 0 0 0) s mi args below meth c H locs 0 0 (MQ below (jQc D cy B sz sh res.2 (some (jI res.1)) (jIn res.1)) args s 0 0 (jA B sz)) (F0 mi 87 ls [jI s2, jI s1, jR B r0]) := by
  unfold f_X12_joinAges_b87 at hyp
  obtain ⟨m1, hm1, hyp⟩ := jbind hyp
  refine jr_ias (pc := 87) C S h_s1 h_s2 hm1 dX12_joinAges_87 (fun H locs S => ?_)
  refine jr_iload_n (pc := 88) C L dX12_joinAges_88 rfl rfl ?_
  refine jr_if_ne (pc := 89) C h_x2 (tgt := 103) dX12_joinAges_89 (by decide) (fun c2 => ?_) (fun c2 => ?_)
  · have hyp := (if_pos c2).symm.trans hyp
    refine jr_aload_n (pc := 92) C L dX12_joinAges_92 rfl rfl ?_
    obtain ⟨v3, hv3, hyp⟩ := jbind hyp
    refine jr_getR (pc := 93) C S lf_X12_58 rfl hv3 dX12_joinAges_93 ?_
    refine jr_iload_n (pc := 96) C L dX12_joinAges_96 rfl rfl ?_
    obtain ⟨v4, hv4, hyp⟩ := jbind hyp
    have iv4 := jra_in S hv4
    refine jr_ial (pc := 97) C S h_x3 hv4 dX12_joinAges_97 ?_
    refine jr_iload (pc := 98) C L dX12_joinAges_98 rfl ?_
    refine jr_icmp_eq (pc := 100) C iv4 h_x4 (tgt := 107) dX12_joinAges_100 (by decide) (fun c5 => ?_) (fun c5 => ?_)
    · have hyp := (if_pos c5).symm.trans hyp
      refine jr_iconst (pc := 107) C dX12_joinAges_107 ?_
      exact t_X12_joinAges_b108 C  K4 h_x1 h_x3 (show jIn 0 from ⟨by decide, by decide⟩) S (L.sub (jsub_s (jsub_s (jsub_n (jsub_s (jsub_n (jsub_n jsub_0))))))) hyp
    · have hyp := (if_neg c5).symm.trans hyp
      exact t_X12_joinAges_b103 C  K4 h_x1 h_x3 S (L.sub (jsub_s (jsub_s (jsub_n (jsub_s (jsub_n (jsub_n jsub_0))))))) hyp
  · have hyp := (if_neg c2).symm.trans hyp
    exact t_X12_joinAges_b103 C  K4 h_x1 h_x3 S (L.sub (jsub_s (jsub_s (jsub_n (jsub_s (jsub_n (jsub_n jsub_0))))))) hyp
set_option maxHeartbeats 4000000 in
set_option maxRecDepth 100000 in
theorem t_X12_joinAges_b64 {p : Program} {l : Launch} {e : Env} {s : State} {mi : MethodId} {args : Array Value} {below : List Frame} {meth : Method} {c : Code} {D : va_G} {cy : Nat → ClassId} {B sz : Nat} {sh : jm_S} {res : (Int × jm_M)} {N : Nat} {k4 : Nat → Int → Int → Int → jm_M → Option (Int × jm_M)} (C : jCx p s mi args meth c cX12_joinAges 6 RX12 (some .boolean) D cy) (K4 : ∀ (a0 : Nat) (x1 : Int) (x2 : Int) (x3 : Int) , jIn x1 → jIn x2 → jIn x3 → ∀ (m : jm_M) (H : Heap) (locs : List Loc) (ls : Array Slot), jHs D cy B sz sh (jA B sz) s.heap H locs m → jL ls [some (jR B a0), some (jI x1), some (jI x2), some (jI x3), none, none] → k4 a0 x1 x2 x3 m = some res → W p l e (jrm 0 0 0) s mi args below meth c H locs 0 0 (MQ below (jQc D cy B sz sh res.2 (some (jI res.1)) (jIn res.1)) args s 0 0 (jA B sz)) (F0 mi 4 ls [])) {a0 : Nat} {x1 : Int} (h_x1 : jIn x1) {x2 : Int} (h_x2 : jIn x2) {x3 : Int} (h_x3 : jIn x3) {x4 : Int} (h_x4 : jIn x4) {s0 : Int} (h_s0 : jIn s0) {m : jm_M} {H : Heap} {locs : List Loc} {ls : Array Slot} (S : jHs D cy B sz sh (jA B sz) s.heap H locs m) (L : jL ls [some (jR B a0), some (jI x1), some (jI x2), some (jI x3), some (jI x4), none]) (hyp : f_X12_joinAges_b64 N sh k4 a0 x1 x2 x3 x4 s0 m = some res) : W p l e (jrm 0 0 0) s mi args below meth c H locs 0 0 (MQ below (jQc D cy B sz sh res.2 (some (jI res.1)) (jIn res.1)) args s 0 0 (jA B sz)) (F0 mi 64 ls [jI s0]) := by
  unfold f_X12_joinAges_b64 at hyp
  refine jr_istore (pc := 64) C L dX12_joinAges_64 (Nat.le_of_ble_eq_true rfl) (fun ls L => ?_)
  have L : jL ls [some (jR B a0), some (jI x1), some (jI x2), some (jI x3), some (jI x4), some (jI s0)] := L
  refine jr_aload_n (pc := 66) C L dX12_joinAges_66 rfl rfl ?_
  obtain ⟨v6, hv6, hyp⟩ := jbind hyp
  refine jr_getR (pc := 67) C S lf_X12_58 rfl hv6 dX12_joinAges_67 ?_
  refine jr_iload_n (pc := 70) C L dX12_joinAges_70 rfl rfl ?_
  refine jr_iload (pc := 71) C L dX12_joinAges_71 rfl ?_
  refine jr_if_eq (pc := 73) C h_s0 (tgt := 81) dX12_joinAges_73 (by decide) (fun c7 => ?_) (fun c7 => ?_)
  · have hyp := (if_pos c7).symm.trans hyp
    refine jr_aload_n (pc := 81) C L dX12_joinAges_81 rfl rfl ?_
    obtain ⟨v8, hv8, hyp⟩ := jbind hyp
    refine jr_getR (pc := 82) C S lf_X12_58 rfl hv8 dX12_joinAges_82 ?_
    refine jr_iload_n (pc := 85) C L dX12_joinAges_85 rfl rfl ?_
    obtain ⟨v9, hv9, hyp⟩ := jbind hyp
    have iv9 := jra_in S hv9
    refine jr_ial (pc := 86) C S h_x3 hv9 dX12_joinAges_86 ?_
    exact t_X12_joinAges_b87 C  K4 h_x1 h_x2 h_x3 h_x4 h_x3 iv9 S (L.sub (jsub_s (jsub_s (jsub_s (jsub_s (jsub_s (jsub_n jsub_0))))))) hyp
  · have hyp := (if_neg c7).symm.trans hyp
    refine jr_iload (pc := 76) C L dX12_joinAges_76 rfl ?_
    refine jr_goto (pc := 78) C (tgt := 87) dX12_joinAges_78 (by decide) ?_
    exact t_X12_joinAges_b87 C  K4 h_x1 h_x2 h_x3 h_x4 h_x3 h_x4 S (L.sub (jsub_s (jsub_s (jsub_s (jsub_s (jsub_s (jsub_n jsub_0))))))) hyp
set_option maxHeartbeats 4000000 in
set_option maxRecDepth 100000 in
theorem t_X12_joinAges_b4 {p : Program} {l : Launch} {e : Env} {s : State} {mi : MethodId} {args : Array Value} {below : List Frame} {meth : Method} {c : Code} {D : va_G} {cy : Nat → ClassId} {B sz : Nat} {sh : jm_S} {res : (Int × jm_M)} {N : Nat} {k4 : Nat → Int → Int → Int → jm_M → Option (Int × jm_M)} (C : jCx p s mi args meth c cX12_joinAges 6 RX12 (some .boolean) D cy) (K4 : ∀ (a0 : Nat) (x1 : Int) (x2 : Int) (x3 : Int) , jIn x1 → jIn x2 → jIn x3 → ∀ (m : jm_M) (H : Heap) (locs : List Loc) (ls : Array Slot), jHs D cy B sz sh (jA B sz) s.heap H locs m → jL ls [some (jR B a0), some (jI x1), some (jI x2), some (jI x3), none, none] → k4 a0 x1 x2 x3 m = some res → W p l e (jrm 0 0 0) s mi args below meth c H locs 0 0 (MQ below (jQc D cy B sz sh res.2 (some (jI res.1)) (jIn res.1)) args s 0 0 (jA B sz)) (F0 mi 4 ls [])) {a0 : Nat} {x1 : Int} (h_x1 : jIn x1) {x2 : Int} (h_x2 : jIn x2) {x3 : Int} (h_x3 : jIn x3) {m : jm_M} {H : Heap} {locs : List Loc} {ls : Array Slot} (S : jHs D cy B sz sh (jA B sz) s.heap H locs m) (L : jL ls [some (jR B a0), some (jI x1), some (jI x2), some (jI x3), none, none]) (hyp : f_X12_joinAges_b4 N sh k4 a0 x1 x2 x3 m = some res) : W p l e (jrm 0 0 0) s mi args below meth c H locs 0 0 (MQ below (jQc D cy B sz sh res.2 (some (jI res.1)) (jIn res.1)) args s 0 0 (jA B sz)) (F0 mi 4 ls []) := by
  unfold f_X12_joinAges_b4 at hyp
  refine jr_iload_n (pc := 4) C L dX12_joinAges_4 rfl rfl ?_
  refine jr_bipush (pc := 5) C dX12_joinAges_5 (by decide) ?_
  refine jr_icmp_ge (pc := 7) C h_x3 (show jIn 16 from ⟨by decide, by decide⟩) (tgt := 115) dX12_joinAges_7 (by decide) (fun c10 => ?_) (fun c10 => ?_)
  · have hyp := (if_pos c10).symm.trans hyp
    refine jr_aload_n (pc := 10) C L dX12_joinAges_10 rfl rfl ?_
    obtain ⟨v11, hv11, hyp⟩ := jbind hyp
    refine jr_getR (pc := 11) C S lf_X12_61 rfl hv11 dX12_joinAges_11 ?_
    refine jr_bipush (pc := 14) C dX12_joinAges_14 (by decide) ?_
    refine jr_iload_n (pc := 16) C L dX12_joinAges_16 rfl rfl ?_
    refine jr_imul (pc := 17) C dX12_joinAges_17 ?_
    refine jr_iload_n (pc := 18) C L dX12_joinAges_18 rfl rfl ?_
    refine jr_iadd (pc := 19) C dX12_joinAges_19 ?_
    obtain ⟨v12, hv12, hyp⟩ := jbind hyp
    have iv12 := jra_in S hv12
    refine jr_ial (pc := 20) C S (jIn_w _) hv12 dX12_joinAges_20 ?_
    refine jr_istore (pc := 21) C L dX12_joinAges_21 (Nat.le_of_ble_eq_true rfl) (fun ls L => ?_)
    have L : jL ls [some (jR B a0), some (jI x1), some (jI x2), some (jI x3), some (jI v12), none] := L
    refine jr_iload_n (pc := 23) C L dX12_joinAges_23 rfl rfl ?_
    refine jr_bipush (pc := 24) C dX12_joinAges_24 (by decide) ?_
    refine jr_icmp_ge (pc := 26) C h_x3 (show jIn 8 from ⟨by decide, by decide⟩) (tgt := 48) dX12_joinAges_26 (by decide) (fun c13 => ?_) (fun c13 => ?_)
    · have hyp := (if_pos c13).symm.trans hyp
      refine jr_iload (pc := 29) C L dX12_joinAges_29 rfl ?_
      refine jr_aload_n (pc := 31) C L dX12_joinAges_31 rfl rfl ?_
      obtain ⟨v14, hv14, hyp⟩ := jbind hyp
      refine jr_getR (pc := 32) C S lf_X12_58 rfl hv14 dX12_joinAges_32 ?_
      refine jr_iload_n (pc := 35) C L dX12_joinAges_35 rfl rfl ?_
      obtain ⟨v15, hv15, hyp⟩ := jbind hyp
      have iv15 := jra_in S hv15
      refine jr_ial (pc := 36) C S h_x3 hv15 dX12_joinAges_36 ?_
      refine jr_icmp_le (pc := 37) C iv12 iv15 (tgt := 44) dX12_joinAges_37 (by decide) (fun c16 => ?_) (fun c16 => ?_)
      · have hyp := (if_pos c16).symm.trans hyp
        refine jr_iconst (pc := 40) C dX12_joinAges_40 ?_
        refine jr_goto (pc := 41) C (tgt := 64) dX12_joinAges_41 (by decide) ?_
        exact t_X12_joinAges_b64 C  K4 h_x1 h_x2 h_x3 iv12 (show jIn 1 from ⟨by decide, by decide⟩) S (L.sub (jsub_s (jsub_s (jsub_s (jsub_s (jsub_s (jsub_n jsub_0))))))) hyp
      · have hyp := (if_neg c16).symm.trans hyp
        refine jr_iconst (pc := 44) C dX12_joinAges_44 ?_
        refine jr_goto (pc := 45) C (tgt := 64) dX12_joinAges_45 (by decide) ?_
        exact t_X12_joinAges_b64 C  K4 h_x1 h_x2 h_x3 iv12 (show jIn 0 from ⟨by decide, by decide⟩) S (L.sub (jsub_s (jsub_s (jsub_s (jsub_s (jsub_s (jsub_n jsub_0))))))) hyp
    · have hyp := (if_neg c13).symm.trans hyp
      refine jr_iload (pc := 48) C L dX12_joinAges_48 rfl ?_
      refine jr_aload_n (pc := 50) C L dX12_joinAges_50 rfl rfl ?_
      obtain ⟨v17, hv17, hyp⟩ := jbind hyp
      refine jr_getR (pc := 51) C S lf_X12_58 rfl hv17 dX12_joinAges_51 ?_
      refine jr_iload_n (pc := 54) C L dX12_joinAges_54 rfl rfl ?_
      obtain ⟨v18, hv18, hyp⟩ := jbind hyp
      have iv18 := jra_in S hv18
      refine jr_ial (pc := 55) C S h_x3 hv18 dX12_joinAges_55 ?_
      refine jr_icmp_ge (pc := 56) C iv12 iv18 (tgt := 63) dX12_joinAges_56 (by decide) (fun c19 => ?_) (fun c19 => ?_)
      · have hyp := (if_pos c19).symm.trans hyp
        refine jr_iconst (pc := 59) C dX12_joinAges_59 ?_
        refine jr_goto (pc := 60) C (tgt := 64) dX12_joinAges_60 (by decide) ?_
        exact t_X12_joinAges_b64 C  K4 h_x1 h_x2 h_x3 iv12 (show jIn 1 from ⟨by decide, by decide⟩) S (L.sub (jsub_s (jsub_s (jsub_s (jsub_s (jsub_s (jsub_n jsub_0))))))) hyp
      · have hyp := (if_neg c19).symm.trans hyp
        refine jr_iconst (pc := 63) C dX12_joinAges_63 ?_
        exact t_X12_joinAges_b64 C  K4 h_x1 h_x2 h_x3 iv12 (show jIn 0 from ⟨by decide, by decide⟩) S (L.sub (jsub_s (jsub_s (jsub_s (jsub_s (jsub_s (jsub_n jsub_0))))))) hyp
  · have hyp := (if_neg c10).symm.trans hyp
    refine jr_iload_n (pc := 115) C L dX12_joinAges_115 rfl rfl ?_
    obtain ⟨z20, hz20, hyp⟩ := jbind hyp
    cases hyp
    exact jr_zret C S (jzb_in hz20) hz20 dX12_joinAges_116
theorem t_X12_joinAges_l4 {p : Program} {l : Launch} {e : Env} {s : State} {mi : MethodId} {args : Array Value} {below : List Frame} {meth : Method} {c : Code} {D : va_G} {cy : Nat → ClassId} {B sz : Nat} {sh : jm_S} {res : (Int × jm_M)} {N : Nat} (C : jCx p s mi args meth c cX12_joinAges 6 RX12 (some .boolean) D cy) : ∀ (n : Nat) (a0 : Nat) (x1 : Int) (x2 : Int) (x3 : Int), jIn x1 → jIn x2 → jIn x3 → ∀ (m : jm_M) (H : Heap) (locs : List Loc) (ls : Array Slot), jHs D cy B sz sh (jA B sz) s.heap H locs m → jL ls [some (jR B a0), some (jI x1), some (jI x2), some (jI x3), none, none] → f_X12_joinAges_l4 N sh n a0 x1 x2 x3 m = some res → W p l e (jrm 0 0 0) s mi args below meth c H locs 0 0 (MQ below (jQc D cy B sz sh res.2 (some (jI res.1)) (jIn res.1)) args s 0 0 (jA B sz)) (F0 mi 4 ls []) := by
  intro n
  induction n with
  | zero => intro a0 x1 x2 x3 h_x1 h_x2 h_x3 m H locs ls S L hyp; cases hyp
  | succ n ih => intro a0 x1 x2 x3 h_x1 h_x2 h_x3 m H locs ls S L hyp; exact t_X12_joinAges_b4 (N := N) C  ih h_x1 h_x2 h_x3 S L hyp
set_option maxHeartbeats 4000000 in
set_option maxRecDepth 100000 in
theorem t_X12_joinAges_e {p : Program} {l : Launch} {e : Env} {s : State} {mi : MethodId} {args : Array Value} {below : List Frame} {meth : Method} {c : Code} {D : va_G} {cy : Nat → ClassId} {B sz : Nat} {sh : jm_S} {res : (Int × jm_M)} {N : Nat} (C : jCx p s mi args meth c cX12_joinAges 6 RX12 (some .boolean) D cy) {a0 : Nat} {x1 : Int} (h_x1 : jIn x1) {m : jm_M} {H : Heap} {locs : List Loc} {ls : Array Slot} (S : jHs D cy B sz sh (jA B sz) s.heap H locs m) (L : jL ls [some (jR B a0), some (jI x1), none, none, none, none]) (hyp : f_X12_joinAges N sh a0 x1 m = some res) : W p l e (jrm 0 0 0) s mi args below meth c H locs 0 0 (MQ below (jQc D cy B sz sh res.2 (some (jI res.1)) (jIn res.1)) args s 0 0 (jA B sz)) (F0 mi 0 ls []) := by
  unfold f_X12_joinAges at hyp
  refine jr_iconst (pc := 0) C dX12_joinAges_0 ?_
  refine jr_istore_n (pc := 1) C L dX12_joinAges_1 rfl (Nat.le_of_ble_eq_true rfl) (fun ls L => ?_)
  have L : jL ls [some (jR B a0), some (jI x1), some (jI 0), none, none, none] := L
  refine jr_iconst (pc := 2) C dX12_joinAges_2 ?_
  refine jr_istore_n (pc := 3) C L dX12_joinAges_3 rfl (Nat.le_of_ble_eq_true rfl) (fun ls L => ?_)
  have L : jL ls [some (jR B a0), some (jI x1), some (jI 0), some (jI 0), none, none] := L
  exact t_X12_joinAges_l4 C   N a0 x1 0 0 h_x1 (show jIn 0 from ⟨by decide, by decide⟩) (show jIn 0 from ⟨by decide, by decide⟩) m _ _ _ S (L.sub (jsub_s (jsub_s (jsub_s (jsub_s (jsub_n (jsub_n jsub_0))))))) hyp
theorem c_X12_joinAges {l : Launch} {D : va_G} {cy : Nat → ClassId} {B sz : Nat} {sh : jm_S} {res : (Int × jm_M)} {N : Nat} {m : jm_M} {a0 : Nat} {x1 : Int} (h_x1 : jIn x1) (hyp : f_X12_joinAges N sh a0 x1 m = some res) : jCt l D cy B sz sh 0 yX12_joinAges cX12_joinAges 6 (some .boolean) [jR B a0, jI x1] m (some (jI res.1)) res.2 (jIn res.1) :=
  jc_of (by decide) (fun v h => by simp only [List.mem_cons, List.not_mem_nil, or_false] at h; rcases h with rfl | rfl <;> first | rfl | exact jR_cat _ _) (Nat.le_of_ble_eq_true rfl) (fun C S L => t_X12_joinAges_e C  h_x1 S L hyp)
set_option maxHeartbeats 4000000 in
set_option maxRecDepth 100000 in
theorem t_X12_keepAges_b2 {p : Program} {l : Launch} {e : Env} {s : State} {mi : MethodId} {args : Array Value} {below : List Frame} {meth : Method} {c : Code} {D : va_G} {cy : Nat → ClassId} {B sz : Nat} {sh : jm_S} {res : jm_M} {N : Nat} {k2 : Nat → Int → Int → jm_M → Option jm_M} (C : jCx p s mi args meth c cX12_keepAges 3 RX12 none D cy) (K2 : ∀ (a0 : Nat) (x1 : Int) (x2 : Int) , jIn x1 → jIn x2 → ∀ (m : jm_M) (H : Heap) (locs : List Loc) (ls : Array Slot), jHs D cy B sz sh (jA B sz) s.heap H locs m → jL ls [some (jR B a0), some (jI x1), some (jI x2)] → k2 a0 x1 x2 m = some res → W p l e (jrm 0 0 0) s mi args below meth c H locs 0 0 (MQ below (jQc D cy B sz sh res none True) args s 0 0 (jA B sz)) (F0 mi 2 ls [])) {a0 : Nat} {x1 : Int} (h_x1 : jIn x1) {x2 : Int} (h_x2 : jIn x2) {m : jm_M} {H : Heap} {locs : List Loc} {ls : Array Slot} (S : jHs D cy B sz sh (jA B sz) s.heap H locs m) (L : jL ls [some (jR B a0), some (jI x1), some (jI x2)]) (hyp : f_X12_keepAges_b2 N sh k2 a0 x1 x2 m = some res) : W p l e (jrm 0 0 0) s mi args below meth c H locs 0 0 (MQ below (jQc D cy B sz sh res none True) args s 0 0 (jA B sz)) (F0 mi 2 ls []) := by
  unfold f_X12_keepAges_b2 at hyp
  refine jr_iload_n (pc := 2) C L dX12_keepAges_2 rfl rfl ?_
  refine jr_bipush (pc := 3) C dX12_keepAges_3 (by decide) ?_
  refine jr_icmp_ge (pc := 5) C h_x2 (show jIn 16 from ⟨by decide, by decide⟩) (tgt := 31) dX12_keepAges_5 (by decide) (fun c1 => ?_) (fun c1 => ?_)
  · have hyp := (if_pos c1).symm.trans hyp
    refine jr_aload_n (pc := 8) C L dX12_keepAges_8 rfl rfl ?_
    obtain ⟨v2, hv2, hyp⟩ := jbind hyp
    refine jr_getR (pc := 9) C S lf_X12_61 rfl hv2 dX12_keepAges_9 ?_
    refine jr_bipush (pc := 12) C dX12_keepAges_12 (by decide) ?_
    refine jr_iload_n (pc := 14) C L dX12_keepAges_14 rfl rfl ?_
    refine jr_imul (pc := 15) C dX12_keepAges_15 ?_
    refine jr_iload_n (pc := 16) C L dX12_keepAges_16 rfl rfl ?_
    refine jr_iadd (pc := 17) C dX12_keepAges_17 ?_
    refine jr_aload_n (pc := 18) C L dX12_keepAges_18 rfl rfl ?_
    obtain ⟨v3, hv3, hyp⟩ := jbind hyp
    refine jr_getR (pc := 19) C S lf_X12_58 rfl hv3 dX12_keepAges_19 ?_
    refine jr_iload_n (pc := 22) C L dX12_keepAges_22 rfl rfl ?_
    obtain ⟨v4, hv4, hyp⟩ := jbind hyp
    have iv4 := jra_in S hv4
    refine jr_ial (pc := 23) C S h_x2 hv4 dX12_keepAges_23 ?_
    obtain ⟨m5, hm5, hyp⟩ := jbind hyp
    refine jr_ias (pc := 24) C S (jIn_w _) iv4 hm5 dX12_keepAges_24 (fun H locs S => ?_)
    refine jr_iinc (pc := 25) C L dX12_keepAges_25 rfl (Nat.le_of_ble_eq_true rfl) (fun ls L => ?_)
    have L : jL ls [some (jR B a0), some (jI x1), some (jI (jw (x2 + 1)))] := L
    refine jr_goto (pc := 28) C (tgt := 2) dX12_keepAges_28 (by decide) ?_
    exact K2 a0 x1 (jw (x2 + 1)) h_x1 (jIn_w _) m5 _ _ _ S (L.sub (jsub_s (jsub_s (jsub_s jsub_0)))) hyp
  · have hyp := (if_neg c1).symm.trans hyp
    cases hyp
    exact jr_vret C S trivial dX12_keepAges_31
theorem t_X12_keepAges_l2 {p : Program} {l : Launch} {e : Env} {s : State} {mi : MethodId} {args : Array Value} {below : List Frame} {meth : Method} {c : Code} {D : va_G} {cy : Nat → ClassId} {B sz : Nat} {sh : jm_S} {res : jm_M} {N : Nat} (C : jCx p s mi args meth c cX12_keepAges 3 RX12 none D cy) : ∀ (n : Nat) (a0 : Nat) (x1 : Int) (x2 : Int), jIn x1 → jIn x2 → ∀ (m : jm_M) (H : Heap) (locs : List Loc) (ls : Array Slot), jHs D cy B sz sh (jA B sz) s.heap H locs m → jL ls [some (jR B a0), some (jI x1), some (jI x2)] → f_X12_keepAges_l2 N sh n a0 x1 x2 m = some res → W p l e (jrm 0 0 0) s mi args below meth c H locs 0 0 (MQ below (jQc D cy B sz sh res none True) args s 0 0 (jA B sz)) (F0 mi 2 ls []) := by
  intro n
  induction n with
  | zero => intro a0 x1 x2 h_x1 h_x2 m H locs ls S L hyp; cases hyp
  | succ n ih => intro a0 x1 x2 h_x1 h_x2 m H locs ls S L hyp; exact t_X12_keepAges_b2 (N := N) C  ih h_x1 h_x2 S L hyp
set_option maxHeartbeats 4000000 in
set_option maxRecDepth 100000 in
theorem t_X12_keepAges_e {p : Program} {l : Launch} {e : Env} {s : State} {mi : MethodId} {args : Array Value} {below : List Frame} {meth : Method} {c : Code} {D : va_G} {cy : Nat → ClassId} {B sz : Nat} {sh : jm_S} {res : jm_M} {N : Nat} (C : jCx p s mi args meth c cX12_keepAges 3 RX12 none D cy) {a0 : Nat} {x1 : Int} (h_x1 : jIn x1) {m : jm_M} {H : Heap} {locs : List Loc} {ls : Array Slot} (S : jHs D cy B sz sh (jA B sz) s.heap H locs m) (L : jL ls [some (jR B a0), some (jI x1), none]) (hyp : f_X12_keepAges N sh a0 x1 m = some res) : W p l e (jrm 0 0 0) s mi args below meth c H locs 0 0 (MQ below (jQc D cy B sz sh res none True) args s 0 0 (jA B sz)) (F0 mi 0 ls []) := by
  unfold f_X12_keepAges at hyp
  refine jr_iconst (pc := 0) C dX12_keepAges_0 ?_
  refine jr_istore_n (pc := 1) C L dX12_keepAges_1 rfl (Nat.le_of_ble_eq_true rfl) (fun ls L => ?_)
  have L : jL ls [some (jR B a0), some (jI x1), some (jI 0)] := L
  exact t_X12_keepAges_l2 C   N a0 x1 0 h_x1 (show jIn 0 from ⟨by decide, by decide⟩) m _ _ _ S (L.sub (jsub_s (jsub_s (jsub_s jsub_0)))) hyp
theorem c_X12_keepAges {l : Launch} {D : va_G} {cy : Nat → ClassId} {B sz : Nat} {sh : jm_S} {res : jm_M} {N : Nat} {m : jm_M} {a0 : Nat} {x1 : Int} (h_x1 : jIn x1) (hyp : f_X12_keepAges N sh a0 x1 m = some res) : jCt l D cy B sz sh 0 yX12_keepAges cX12_keepAges 3 none [jR B a0, jI x1] m none res True :=
  jc_of (by decide) (fun v h => by simp only [List.mem_cons, List.not_mem_nil, or_false] at h; rcases h with rfl | rfl <;> first | rfl | exact jR_cat _ _) (Nat.le_of_ble_eq_true rfl) (fun C S L => t_X12_keepAges_e C  h_x1 S L hyp)
set_option maxHeartbeats 4000000 in
set_option maxRecDepth 100000 in
theorem t_X12_swapAges_b2 {p : Program} {l : Launch} {e : Env} {s : State} {mi : MethodId} {args : Array Value} {below : List Frame} {meth : Method} {c : Code} {D : va_G} {cy : Nat → ClassId} {B sz : Nat} {sh : jm_S} {res : jm_M} {N : Nat} {k2 : Nat → Int → Int → jm_M → Option jm_M} (C : jCx p s mi args meth c cX12_swapAges 4 RX12 none D cy) (K2 : ∀ (a0 : Nat) (x1 : Int) (x2 : Int) , jIn x1 → jIn x2 → ∀ (m : jm_M) (H : Heap) (locs : List Loc) (ls : Array Slot), jHs D cy B sz sh (jA B sz) s.heap H locs m → jL ls [some (jR B a0), some (jI x1), some (jI x2), none] → k2 a0 x1 x2 m = some res → W p l e (jrm 0 0 0) s mi args below meth c H locs 0 0 (MQ below (jQc D cy B sz sh res none True) args s 0 0 (jA B sz)) (F0 mi 2 ls [])) {a0 : Nat} {x1 : Int} (h_x1 : jIn x1) {x2 : Int} (h_x2 : jIn x2) {m : jm_M} {H : Heap} {locs : List Loc} {ls : Array Slot} (S : jHs D cy B sz sh (jA B sz) s.heap H locs m) (L : jL ls [some (jR B a0), some (jI x1), some (jI x2), none]) (hyp : f_X12_swapAges_b2 N sh k2 a0 x1 x2 m = some res) : W p l e (jrm 0 0 0) s mi args below meth c H locs 0 0 (MQ below (jQc D cy B sz sh res none True) args s 0 0 (jA B sz)) (F0 mi 2 ls []) := by
  unfold f_X12_swapAges_b2 at hyp
  refine jr_iload_n (pc := 2) C L dX12_swapAges_2 rfl rfl ?_
  refine jr_bipush (pc := 3) C dX12_swapAges_3 (by decide) ?_
  refine jr_icmp_ge (pc := 5) C h_x2 (show jIn 16 from ⟨by decide, by decide⟩) (tgt := 50) dX12_swapAges_5 (by decide) (fun c1 => ?_) (fun c1 => ?_)
  · have hyp := (if_pos c1).symm.trans hyp
    refine jr_aload_n (pc := 8) C L dX12_swapAges_8 rfl rfl ?_
    obtain ⟨v2, hv2, hyp⟩ := jbind hyp
    refine jr_getR (pc := 9) C S lf_X12_61 rfl hv2 dX12_swapAges_9 ?_
    refine jr_bipush (pc := 12) C dX12_swapAges_12 (by decide) ?_
    refine jr_iload_n (pc := 14) C L dX12_swapAges_14 rfl rfl ?_
    refine jr_imul (pc := 15) C dX12_swapAges_15 ?_
    refine jr_iload_n (pc := 16) C L dX12_swapAges_16 rfl rfl ?_
    refine jr_iadd (pc := 17) C dX12_swapAges_17 ?_
    obtain ⟨v3, hv3, hyp⟩ := jbind hyp
    have iv3 := jra_in S hv3
    refine jr_ial (pc := 18) C S (jIn_w _) hv3 dX12_swapAges_18 ?_
    refine jr_istore_n (pc := 19) C L dX12_swapAges_19 rfl (Nat.le_of_ble_eq_true rfl) (fun ls L => ?_)
    have L : jL ls [some (jR B a0), some (jI x1), some (jI x2), some (jI v3)] := L
    refine jr_aload_n (pc := 20) C L dX12_swapAges_20 rfl rfl ?_
    obtain ⟨v4, hv4, hyp⟩ := jbind hyp
    refine jr_getR (pc := 21) C S lf_X12_61 rfl hv4 dX12_swapAges_21 ?_
    refine jr_bipush (pc := 24) C dX12_swapAges_24 (by decide) ?_
    refine jr_iload_n (pc := 26) C L dX12_swapAges_26 rfl rfl ?_
    refine jr_imul (pc := 27) C dX12_swapAges_27 ?_
    refine jr_iload_n (pc := 28) C L dX12_swapAges_28 rfl rfl ?_
    refine jr_iadd (pc := 29) C dX12_swapAges_29 ?_
    refine jr_aload_n (pc := 30) C L dX12_swapAges_30 rfl rfl ?_
    obtain ⟨v5, hv5, hyp⟩ := jbind hyp
    refine jr_getR (pc := 31) C S lf_X12_58 rfl hv5 dX12_swapAges_31 ?_
    refine jr_iload_n (pc := 34) C L dX12_swapAges_34 rfl rfl ?_
    obtain ⟨v6, hv6, hyp⟩ := jbind hyp
    have iv6 := jra_in S hv6
    refine jr_ial (pc := 35) C S h_x2 hv6 dX12_swapAges_35 ?_
    obtain ⟨m7, hm7, hyp⟩ := jbind hyp
    refine jr_ias (pc := 36) C S (jIn_w _) iv6 hm7 dX12_swapAges_36 (fun H locs S => ?_)
    refine jr_aload_n (pc := 37) C L dX12_swapAges_37 rfl rfl ?_
    obtain ⟨v8, hv8, hyp⟩ := jbind hyp
    refine jr_getR (pc := 38) C S lf_X12_58 rfl hv8 dX12_swapAges_38 ?_
    refine jr_iload_n (pc := 41) C L dX12_swapAges_41 rfl rfl ?_
    refine jr_iload_n (pc := 42) C L dX12_swapAges_42 rfl rfl ?_
    obtain ⟨m9, hm9, hyp⟩ := jbind hyp
    refine jr_ias (pc := 43) C S h_x2 iv3 hm9 dX12_swapAges_43 (fun H locs S => ?_)
    refine jr_iinc (pc := 44) C L dX12_swapAges_44 rfl (Nat.le_of_ble_eq_true rfl) (fun ls L => ?_)
    have L : jL ls [some (jR B a0), some (jI x1), some (jI (jw (x2 + 1))), some (jI v3)] := L
    refine jr_goto (pc := 47) C (tgt := 2) dX12_swapAges_47 (by decide) ?_
    exact K2 a0 x1 (jw (x2 + 1)) h_x1 (jIn_w _) m9 _ _ _ S (L.sub (jsub_s (jsub_s (jsub_s (jsub_n jsub_0))))) hyp
  · have hyp := (if_neg c1).symm.trans hyp
    cases hyp
    exact jr_vret C S trivial dX12_swapAges_50
theorem t_X12_swapAges_l2 {p : Program} {l : Launch} {e : Env} {s : State} {mi : MethodId} {args : Array Value} {below : List Frame} {meth : Method} {c : Code} {D : va_G} {cy : Nat → ClassId} {B sz : Nat} {sh : jm_S} {res : jm_M} {N : Nat} (C : jCx p s mi args meth c cX12_swapAges 4 RX12 none D cy) : ∀ (n : Nat) (a0 : Nat) (x1 : Int) (x2 : Int), jIn x1 → jIn x2 → ∀ (m : jm_M) (H : Heap) (locs : List Loc) (ls : Array Slot), jHs D cy B sz sh (jA B sz) s.heap H locs m → jL ls [some (jR B a0), some (jI x1), some (jI x2), none] → f_X12_swapAges_l2 N sh n a0 x1 x2 m = some res → W p l e (jrm 0 0 0) s mi args below meth c H locs 0 0 (MQ below (jQc D cy B sz sh res none True) args s 0 0 (jA B sz)) (F0 mi 2 ls []) := by
  intro n
  induction n with
  | zero => intro a0 x1 x2 h_x1 h_x2 m H locs ls S L hyp; cases hyp
  | succ n ih => intro a0 x1 x2 h_x1 h_x2 m H locs ls S L hyp; exact t_X12_swapAges_b2 (N := N) C  ih h_x1 h_x2 S L hyp
set_option maxHeartbeats 4000000 in
set_option maxRecDepth 100000 in
theorem t_X12_swapAges_e {p : Program} {l : Launch} {e : Env} {s : State} {mi : MethodId} {args : Array Value} {below : List Frame} {meth : Method} {c : Code} {D : va_G} {cy : Nat → ClassId} {B sz : Nat} {sh : jm_S} {res : jm_M} {N : Nat} (C : jCx p s mi args meth c cX12_swapAges 4 RX12 none D cy) {a0 : Nat} {x1 : Int} (h_x1 : jIn x1) {m : jm_M} {H : Heap} {locs : List Loc} {ls : Array Slot} (S : jHs D cy B sz sh (jA B sz) s.heap H locs m) (L : jL ls [some (jR B a0), some (jI x1), none, none]) (hyp : f_X12_swapAges N sh a0 x1 m = some res) : W p l e (jrm 0 0 0) s mi args below meth c H locs 0 0 (MQ below (jQc D cy B sz sh res none True) args s 0 0 (jA B sz)) (F0 mi 0 ls []) := by
  unfold f_X12_swapAges at hyp
  refine jr_iconst (pc := 0) C dX12_swapAges_0 ?_
  refine jr_istore_n (pc := 1) C L dX12_swapAges_1 rfl (Nat.le_of_ble_eq_true rfl) (fun ls L => ?_)
  have L : jL ls [some (jR B a0), some (jI x1), some (jI 0), none] := L
  exact t_X12_swapAges_l2 C   N a0 x1 0 h_x1 (show jIn 0 from ⟨by decide, by decide⟩) m _ _ _ S (L.sub (jsub_s (jsub_s (jsub_s (jsub_n jsub_0))))) hyp
theorem c_X12_swapAges {l : Launch} {D : va_G} {cy : Nat → ClassId} {B sz : Nat} {sh : jm_S} {res : jm_M} {N : Nat} {m : jm_M} {a0 : Nat} {x1 : Int} (h_x1 : jIn x1) (hyp : f_X12_swapAges N sh a0 x1 m = some res) : jCt l D cy B sz sh 0 yX12_swapAges cX12_swapAges 4 none [jR B a0, jI x1] m none res True :=
  jc_of (by decide) (fun v h => by simp only [List.mem_cons, List.not_mem_nil, or_false] at h; rcases h with rfl | rfl <;> first | rfl | exact jR_cat _ _) (Nat.le_of_ble_eq_true rfl) (fun C S L => t_X12_swapAges_e C  h_x1 S L hyp)
set_option maxHeartbeats 4000000 in
set_option maxRecDepth 100000 in
theorem t_X12_layAges_b341 {p : Program} {l : Launch} {e : Env} {s : State} {mi : MethodId} {args : Array Value} {below : List Frame} {meth : Method} {c : Code} {D : va_G} {cy : Nat → ClassId} {B sz : Nat} {sh : jm_S} {res : jm_M} {N : Nat} {k63 : Nat → Int → Int → jm_M → Option jm_M} (C : jCx p s mi args meth c cX12_layAges 8 RX12 none D cy) (K63 : ∀ (a0 : Nat) (x1 : Int) (x2 : Int) , jIn x1 → jIn x2 → ∀ (m : jm_M) (H : Heap) (locs : List Loc) (ls : Array Slot), jHs D cy B sz sh (jA B sz) s.heap H locs m → jL ls [some (jR B a0), some (jI x1), some (jI x2), none, none, none, none, none] → k63 a0 x1 x2 m = some res → W p l e (jrm 3 0 0) s mi args below meth c H locs 0 0 (MQ below (jQc D cy B sz sh res none True) args s 0 0 (jA B sz)) (F0 mi 63 ls [])) {a0 : Nat} {x1 : Int} (h_x1 : jIn x1) {x2 : Int} (h_x2 : jIn x2) {m : jm_M} {H : Heap} {locs : List Loc} {ls : Array Slot} (S : jHs D cy B sz sh (jA B sz) s.heap H locs m) (L : jL ls [some (jR B a0), some (jI x1), some (jI x2), none, none, none, none, none]) (hyp : f_X12_layAges_b341 N sh k63 a0 x1 x2 m = some res) : W p l e (jrm 3 0 0) s mi args below meth c H locs 0 0 (MQ below (jQc D cy B sz sh res none True) args s 0 0 (jA B sz)) (F0 mi 341 ls []) := by
  unfold f_X12_layAges_b341 at hyp
  refine jr_goto (pc := 341) C (tgt := 63) dX12_layAges_341 (by decide) ?_
  exact K63 a0 x1 x2 h_x1 h_x2 m _ _ _ S (L.sub (jsub_s (jsub_s (jsub_s (jsub_n (jsub_n (jsub_n (jsub_n (jsub_n jsub_0))))))))) hyp
set_option maxHeartbeats 4000000 in
set_option maxRecDepth 100000 in
theorem t_X12_layAges_b331 {p : Program} {l : Launch} {e : Env} {s : State} {mi : MethodId} {args : Array Value} {below : List Frame} {meth : Method} {c : Code} {D : va_G} {cy : Nat → ClassId} {B sz : Nat} {sh : jm_S} {res : jm_M} {N : Nat} {k63 : Nat → Int → Int → jm_M → Option jm_M} (C : jCx p s mi args meth c cX12_layAges 8 RX12 none D cy) (K63 : ∀ (a0 : Nat) (x1 : Int) (x2 : Int) , jIn x1 → jIn x2 → ∀ (m : jm_M) (H : Heap) (locs : List Loc) (ls : Array Slot), jHs D cy B sz sh (jA B sz) s.heap H locs m → jL ls [some (jR B a0), some (jI x1), some (jI x2), none, none, none, none, none] → k63 a0 x1 x2 m = some res → W p l e (jrm 3 0 0) s mi args below meth c H locs 0 0 (MQ below (jQc D cy B sz sh res none True) args s 0 0 (jA B sz)) (F0 mi 63 ls [])) {a0 : Nat} {x1 : Int} (h_x1 : jIn x1) {x2 : Int} (h_x2 : jIn x2) {m : jm_M} {H : Heap} {locs : List Loc} {ls : Array Slot} (S : jHs D cy B sz sh (jA B sz) s.heap H locs m) (L : jL ls [some (jR B a0), some (jI x1), some (jI x2), none, none, none, none, none]) (hyp : f_X12_layAges_b331 N sh k63 a0 x1 x2 m = some res) : W p l e (jrm 3 0 0) s mi args below meth c H locs 0 0 (MQ below (jQc D cy B sz sh res none True) args s 0 0 (jA B sz)) (F0 mi 331 ls []) := by
  unfold f_X12_layAges_b331 at hyp
  refine jr_aload_n (pc := 331) C L dX12_layAges_331 rfl rfl ?_
  refine jr_dupR (pc := 332) C dX12_layAges_332 ?_
  obtain ⟨v1, hv1, hyp⟩ := jbind hyp
  have iv1 := jrf_in S hv1
  refine jr_getI (pc := 333) C S lf_X12_165 rfl hv1 dX12_layAges_333 ?_
  refine jr_iconst (pc := 336) C dX12_layAges_336 ?_
  refine jr_isub (pc := 337) C dX12_layAges_337 ?_
  obtain ⟨m2, hm2, hyp⟩ := jbind hyp
  refine jr_putI (pc := 338) C S lf_X12_165 fp_X12_12 rfl (jIn_w _) hm2 dX12_layAges_338 (fun H locs S => ?_)
  exact t_X12_layAges_b341 C  K63 h_x1 h_x2 S (L.sub (jsub_s (jsub_s (jsub_s (jsub_n (jsub_n (jsub_n (jsub_n (jsub_n jsub_0))))))))) hyp
set_option maxHeartbeats 4000000 in
set_option maxRecDepth 100000 in
theorem t_X12_layAges_b303 {p : Program} {l : Launch} {e : Env} {s : State} {mi : MethodId} {args : Array Value} {below : List Frame} {meth : Method} {c : Code} {D : va_G} {cy : Nat → ClassId} {B sz : Nat} {sh : jm_S} {res : jm_M} {N : Nat} {k63 : Nat → Int → Int → jm_M → Option jm_M} (C : jCx p s mi args meth c cX12_layAges 8 RX12 none D cy) (K63 : ∀ (a0 : Nat) (x1 : Int) (x2 : Int) , jIn x1 → jIn x2 → ∀ (m : jm_M) (H : Heap) (locs : List Loc) (ls : Array Slot), jHs D cy B sz sh (jA B sz) s.heap H locs m → jL ls [some (jR B a0), some (jI x1), some (jI x2), none, none, none, none, none] → k63 a0 x1 x2 m = some res → W p l e (jrm 3 0 0) s mi args below meth c H locs 0 0 (MQ below (jQc D cy B sz sh res none True) args s 0 0 (jA B sz)) (F0 mi 63 ls [])) {a0 : Nat} {x1 : Int} (h_x1 : jIn x1) {x2 : Int} (h_x2 : jIn x2) {x3 : Int} (h_x3 : jIn x3) {x4 : Int} (h_x4 : jIn x4) {x5 : Int} (h_x5 : jIn x5) {s0 : Int} (h_s0 : jIn s0) {m : jm_M} {H : Heap} {locs : List Loc} {ls : Array Slot} (S : jHs D cy B sz sh (jA B sz) s.heap H locs m) (L : jL ls [some (jR B a0), some (jI x1), some (jI x2), some (jI x3), some (jI x4), some (jI x5), none, none]) (hyp : f_X12_layAges_b303 N sh k63 a0 x1 x2 x3 x4 x5 s0 m = some res) : W p l e (jrm 3 0 0) s mi args below meth c H locs 0 0 (MQ below (jQc D cy B sz sh res none True) args s 0 0 (jA B sz)) (F0 mi 303 ls [jI s0]) := by
  unfold f_X12_layAges_b303 at hyp
  refine jr_istore (pc := 303) C L dX12_layAges_303 (Nat.le_of_ble_eq_true rfl) (fun ls L => ?_)
  have L : jL ls [some (jR B a0), some (jI x1), some (jI x2), some (jI x3), some (jI x4), some (jI x5), none, some (jI s0)] := L
  refine jr_iload (pc := 305) C L dX12_layAges_305 rfl ?_
  obtain ⟨q3, hq3, hyp⟩ := jbind hyp
  refine jr_callS_I (pc := 307) C S L (As := [jI x5]) (rest := []) (c_X12_isLoop (m0 := m) h_x5 hq3) ms_X12_isLoop ml_X12_91 (by decide) rfl rfl rfl (Nat.le_of_ble_eq_true rfl) ⟨Nat.le_refl 0, Nat.le_refl 0⟩ dX12_layAges_307 (fun p4 H locs S => ?_)
  refine jr_if_eq (pc := 310) C p4 (tgt := 331) dX12_layAges_310 (by decide) (fun c5 => ?_) (fun c5 => ?_)
  · have hyp := (if_pos c5).symm.trans hyp
    exact t_X12_layAges_b331 C  K63 h_x1 h_x2 S (L.sub (jsub_s (jsub_s (jsub_s (jsub_n (jsub_n (jsub_n (jsub_n (jsub_n jsub_0))))))))) hyp
  · have hyp := (if_neg c5).symm.trans hyp
    refine jr_iload (pc := 313) C L dX12_layAges_313 rfl ?_
    refine jr_if_eq (pc := 315) C h_s0 (tgt := 331) dX12_layAges_315 (by decide) (fun c6 => ?_) (fun c6 => ?_)
    · have hyp := (if_pos c6).symm.trans hyp
      exact t_X12_layAges_b331 C  K63 h_x1 h_x2 S (L.sub (jsub_s (jsub_s (jsub_s (jsub_n (jsub_n (jsub_n (jsub_n (jsub_n jsub_0))))))))) hyp
    · have hyp := (if_neg c6).symm.trans hyp
      refine jr_aload_n (pc := 318) C L dX12_layAges_318 rfl rfl ?_
      refine jr_iload_n (pc := 319) C L dX12_layAges_319 rfl rfl ?_
      obtain ⟨u7, hu7, hyp⟩ := jbind hyp
      obtain ⟨q8, hq8, hyp⟩ := jbind hyp
      refine jr_callV_N (pc := 320) C S L (As := [jI x3]) (rest := []) (c_X12_keepAges h_x3 hq8) mv_X12_keepAges ml_X12_231 rfl (jck_spec hu7) (by decide) rfl rfl rfl (Nat.le_of_ble_eq_true rfl) ⟨Nat.le_refl 0, Nat.le_refl 0⟩ dX12_layAges_320 (fun p9 H locs S => ?_)
      refine jr_iload (pc := 323) C L dX12_layAges_323 rfl ?_
      refine jr_iconst (pc := 325) C dX12_layAges_325 ?_
      refine jr_iadd (pc := 326) C dX12_layAges_326 ?_
      refine jr_istore_n (pc := 327) C L dX12_layAges_327 rfl (Nat.le_of_ble_eq_true rfl) (fun ls L => ?_)
      have L : jL ls [some (jR B a0), some (jI x1), some (jI (jw (x4 + 1))), some (jI x3), some (jI x4), some (jI x5), none, some (jI s0)] := L
      refine jr_goto (pc := 328) C (tgt := 341) dX12_layAges_328 (by decide) ?_
      exact t_X12_layAges_b341 C  K63 h_x1 (jIn_w _) S (L.sub (jsub_s (jsub_s (jsub_s (jsub_n (jsub_n (jsub_n (jsub_n (jsub_n jsub_0))))))))) hyp
set_option maxHeartbeats 4000000 in
set_option maxRecDepth 100000 in
theorem t_X12_layAges_b302 {p : Program} {l : Launch} {e : Env} {s : State} {mi : MethodId} {args : Array Value} {below : List Frame} {meth : Method} {c : Code} {D : va_G} {cy : Nat → ClassId} {B sz : Nat} {sh : jm_S} {res : jm_M} {N : Nat} {k63 : Nat → Int → Int → jm_M → Option jm_M} (C : jCx p s mi args meth c cX12_layAges 8 RX12 none D cy) (K63 : ∀ (a0 : Nat) (x1 : Int) (x2 : Int) , jIn x1 → jIn x2 → ∀ (m : jm_M) (H : Heap) (locs : List Loc) (ls : Array Slot), jHs D cy B sz sh (jA B sz) s.heap H locs m → jL ls [some (jR B a0), some (jI x1), some (jI x2), none, none, none, none, none] → k63 a0 x1 x2 m = some res → W p l e (jrm 3 0 0) s mi args below meth c H locs 0 0 (MQ below (jQc D cy B sz sh res none True) args s 0 0 (jA B sz)) (F0 mi 63 ls [])) {a0 : Nat} {x1 : Int} (h_x1 : jIn x1) {x2 : Int} (h_x2 : jIn x2) {x3 : Int} (h_x3 : jIn x3) {x4 : Int} (h_x4 : jIn x4) {x5 : Int} (h_x5 : jIn x5) {m : jm_M} {H : Heap} {locs : List Loc} {ls : Array Slot} (S : jHs D cy B sz sh (jA B sz) s.heap H locs m) (L : jL ls [some (jR B a0), some (jI x1), some (jI x2), some (jI x3), some (jI x4), some (jI x5), none, none]) (hyp : f_X12_layAges_b302 N sh k63 a0 x1 x2 x3 x4 x5 m = some res) : W p l e (jrm 3 0 0) s mi args below meth c H locs 0 0 (MQ below (jQc D cy B sz sh res none True) args s 0 0 (jA B sz)) (F0 mi 302 ls []) := by
  unfold f_X12_layAges_b302 at hyp
  refine jr_iconst (pc := 302) C dX12_layAges_302 ?_
  exact t_X12_layAges_b303 C  K63 h_x1 h_x2 h_x3 h_x4 h_x5 (show jIn 0 from ⟨by decide, by decide⟩) S (L.sub (jsub_s (jsub_s (jsub_s (jsub_s (jsub_s (jsub_s (jsub_n (jsub_n jsub_0))))))))) hyp
set_option maxHeartbeats 4000000 in
set_option maxRecDepth 100000 in
theorem t_X12_layAges_b283 {p : Program} {l : Launch} {e : Env} {s : State} {mi : MethodId} {args : Array Value} {below : List Frame} {meth : Method} {c : Code} {D : va_G} {cy : Nat → ClassId} {B sz : Nat} {sh : jm_S} {res : jm_M} {N : Nat} {k63 : Nat → Int → Int → jm_M → Option jm_M} (C : jCx p s mi args meth c cX12_layAges 8 RX12 none D cy) (K63 : ∀ (a0 : Nat) (x1 : Int) (x2 : Int) , jIn x1 → jIn x2 → ∀ (m : jm_M) (H : Heap) (locs : List Loc) (ls : Array Slot), jHs D cy B sz sh (jA B sz) s.heap H locs m → jL ls [some (jR B a0), some (jI x1), some (jI x2), none, none, none, none, none] → k63 a0 x1 x2 m = some res → W p l e (jrm 3 0 0) s mi args below meth c H locs 0 0 (MQ below (jQc D cy B sz sh res none True) args s 0 0 (jA B sz)) (F0 mi 63 ls [])) {a0 : Nat} {x1 : Int} (h_x1 : jIn x1) {x2 : Int} (h_x2 : jIn x2) {x3 : Int} (h_x3 : jIn x3) {x4 : Int} (h_x4 : jIn x4) {x5 : Int} (h_x5 : jIn x5) {m : jm_M} {H : Heap} {locs : List Loc} {ls : Array Slot} (S : jHs D cy B sz sh (jA B sz) s.heap H locs m) (L : jL ls [some (jR B a0), some (jI x1), some (jI x2), some (jI x3), some (jI x4), some (jI x5), none, none]) (hyp : f_X12_layAges_b283 N sh k63 a0 x1 x2 x3 x4 x5 m = some res) : W p l e (jrm 3 0 0) s mi args below meth c H locs 0 0 (MQ below (jQc D cy B sz sh res none True) args s 0 0 (jA B sz)) (F0 mi 283 ls []) := by
  unfold f_X12_layAges_b283 at hyp
  refine jr_iload (pc := 283) C L dX12_layAges_283 rfl ?_
  refine jr_bipush (pc := 285) C dX12_layAges_285 (by decide) ?_
  refine jr_icmp_eq (pc := 287) C h_x5 (show jIn 59 from ⟨by decide, by decide⟩) (tgt := 302) dX12_layAges_287 (by decide) (fun c10 => ?_) (fun c10 => ?_)
  · have hyp := (if_pos c10).symm.trans hyp
    exact t_X12_layAges_b302 C  K63 h_x1 h_x2 h_x3 h_x4 h_x5 S (L.sub (jsub_s (jsub_s (jsub_s (jsub_s (jsub_s (jsub_s (jsub_n (jsub_n jsub_0))))))))) hyp
  · have hyp := (if_neg c10).symm.trans hyp
    refine jr_aload_n (pc := 290) C L dX12_layAges_290 rfl rfl ?_
    refine jr_iload_n (pc := 291) C L dX12_layAges_291 rfl rfl ?_
    obtain ⟨u11, hu11, hyp⟩ := jbind hyp
    obtain ⟨q12, hq12, hyp⟩ := jbind hyp
    refine jr_callV_I (pc := 292) C S L (As := [jI x3]) (rest := []) (c_X12_joinAges h_x3 hq12) mv_X12_joinAges ml_X12_237 rfl (jck_spec hu11) (by decide) rfl rfl rfl (Nat.le_of_ble_eq_true rfl) ⟨Nat.le_refl 0, Nat.le_refl 0⟩ dX12_layAges_292 (fun p13 H locs S => ?_)
    refine jr_if_eq (pc := 295) C p13 (tgt := 302) dX12_layAges_295 (by decide) (fun c14 => ?_) (fun c14 => ?_)
    · have hyp := (if_pos c14).symm.trans hyp
      exact t_X12_layAges_b302 C  K63 h_x1 h_x2 h_x3 h_x4 h_x5 S (L.sub (jsub_s (jsub_s (jsub_s (jsub_s (jsub_s (jsub_s (jsub_n (jsub_n jsub_0))))))))) hyp
    · have hyp := (if_neg c14).symm.trans hyp
      refine jr_iconst (pc := 298) C dX12_layAges_298 ?_
      refine jr_goto (pc := 299) C (tgt := 303) dX12_layAges_299 (by decide) ?_
      exact t_X12_layAges_b303 C  K63 h_x1 h_x2 h_x3 h_x4 h_x5 (show jIn 1 from ⟨by decide, by decide⟩) S (L.sub (jsub_s (jsub_s (jsub_s (jsub_s (jsub_s (jsub_s (jsub_n (jsub_n jsub_0))))))))) hyp
set_option maxHeartbeats 4000000 in
set_option maxRecDepth 100000 in
theorem t_X12_layAges_b265 {p : Program} {l : Launch} {e : Env} {s : State} {mi : MethodId} {args : Array Value} {below : List Frame} {meth : Method} {c : Code} {D : va_G} {cy : Nat → ClassId} {B sz : Nat} {sh : jm_S} {res : jm_M} {N : Nat} {k63 : Nat → Int → Int → jm_M → Option jm_M} (C : jCx p s mi args meth c cX12_layAges 8 RX12 none D cy) (K63 : ∀ (a0 : Nat) (x1 : Int) (x2 : Int) , jIn x1 → jIn x2 → ∀ (m : jm_M) (H : Heap) (locs : List Loc) (ls : Array Slot), jHs D cy B sz sh (jA B sz) s.heap H locs m → jL ls [some (jR B a0), some (jI x1), some (jI x2), none, none, none, none, none] → k63 a0 x1 x2 m = some res → W p l e (jrm 3 0 0) s mi args below meth c H locs 0 0 (MQ below (jQc D cy B sz sh res none True) args s 0 0 (jA B sz)) (F0 mi 63 ls [])) {a0 : Nat} {x1 : Int} (h_x1 : jIn x1) {x4 : Int} (h_x4 : jIn x4) {m : jm_M} {H : Heap} {locs : List Loc} {ls : Array Slot} (S : jHs D cy B sz sh (jA B sz) s.heap H locs m) (L : jL ls [some (jR B a0), some (jI x1), none, none, some (jI x4), none, none, none]) (hyp : f_X12_layAges_b265 N sh k63 a0 x1 x4 m = some res) : W p l e (jrm 3 0 0) s mi args below meth c H locs 0 0 (MQ below (jQc D cy B sz sh res none True) args s 0 0 (jA B sz)) (F0 mi 265 ls []) := by
  unfold f_X12_layAges_b265 at hyp
  refine jr_iload (pc := 265) C L dX12_layAges_265 rfl ?_
  refine jr_iconst (pc := 267) C dX12_layAges_267 ?_
  refine jr_iadd (pc := 268) C dX12_layAges_268 ?_
  refine jr_aload_n (pc := 269) C L dX12_layAges_269 rfl rfl ?_
  obtain ⟨v15, hv15, hyp⟩ := jbind hyp
  refine jr_getR (pc := 270) C S lf_X12_22 rfl hv15 dX12_layAges_270 ?_
  refine jr_iload (pc := 273) C L dX12_layAges_273 rfl ?_
  refine jr_iconst (pc := 275) C dX12_layAges_275 ?_
  refine jr_iadd (pc := 276) C dX12_layAges_276 ?_
  obtain ⟨v16, hv16, hyp⟩ := jbind hyp
  have iv16 := jra_in S hv16
  refine jr_ial (pc := 277) C S (jIn_w _) hv16 dX12_layAges_277 ?_
  refine jr_iadd (pc := 278) C dX12_layAges_278 ?_
  refine jr_istore_n (pc := 279) C L dX12_layAges_279 rfl (Nat.le_of_ble_eq_true rfl) (fun ls L => ?_)
  have L : jL ls [some (jR B a0), some (jI x1), some (jI (jw ((jw (x4 + 1)) + v16))), none, some (jI x4), none, none, none] := L
  refine jr_goto (pc := 280) C (tgt := 341) dX12_layAges_280 (by decide) ?_
  exact t_X12_layAges_b341 C  K63 h_x1 (jIn_w _) S (L.sub (jsub_s (jsub_s (jsub_s (jsub_n (jsub_n (jsub_n (jsub_n (jsub_n jsub_0))))))))) hyp
set_option maxHeartbeats 4000000 in
set_option maxRecDepth 100000 in
theorem t_X12_layAges_b230 {p : Program} {l : Launch} {e : Env} {s : State} {mi : MethodId} {args : Array Value} {below : List Frame} {meth : Method} {c : Code} {D : va_G} {cy : Nat → ClassId} {B sz : Nat} {sh : jm_S} {res : jm_M} {N : Nat} {k63 : Nat → Int → Int → jm_M → Option jm_M} (C : jCx p s mi args meth c cX12_layAges 8 RX12 none D cy) (K63 : ∀ (a0 : Nat) (x1 : Int) (x2 : Int) , jIn x1 → jIn x2 → ∀ (m : jm_M) (H : Heap) (locs : List Loc) (ls : Array Slot), jHs D cy B sz sh (jA B sz) s.heap H locs m → jL ls [some (jR B a0), some (jI x1), some (jI x2), none, none, none, none, none] → k63 a0 x1 x2 m = some res → W p l e (jrm 3 0 0) s mi args below meth c H locs 0 0 (MQ below (jQc D cy B sz sh res none True) args s 0 0 (jA B sz)) (F0 mi 63 ls [])) {a0 : Nat} {x1 : Int} (h_x1 : jIn x1) {x2 : Int} (h_x2 : jIn x2) {x3 : Int} (h_x3 : jIn x3) {x4 : Int} (h_x4 : jIn x4) {x5 : Int} (h_x5 : jIn x5) {s0 : Int} (h_s0 : jIn s0) {m : jm_M} {H : Heap} {locs : List Loc} {ls : Array Slot} (S : jHs D cy B sz sh (jA B sz) s.heap H locs m) (L : jL ls [some (jR B a0), some (jI x1), some (jI x2), some (jI x3), some (jI x4), some (jI x5), none, none]) (hyp : f_X12_layAges_b230 N sh k63 a0 x1 x2 x3 x4 x5 s0 m = some res) : W p l e (jrm 3 0 0) s mi args below meth c H locs 0 0 (MQ below (jQc D cy B sz sh res none True) args s 0 0 (jA B sz)) (F0 mi 230 ls [jI s0]) := by
  unfold f_X12_layAges_b230 at hyp
  refine jr_istore (pc := 230) C L dX12_layAges_230 (Nat.le_of_ble_eq_true rfl) (fun ls L => ?_)
  have L : jL ls [some (jR B a0), some (jI x1), some (jI x2), some (jI x3), some (jI x4), some (jI x5), some (jI s0), none] := L
  refine jr_iload (pc := 232) C L dX12_layAges_232 rfl ?_
  refine jr_if_eq (pc := 234) C h_s0 (tgt := 283) dX12_layAges_234 (by decide) (fun c17 => ?_) (fun c17 => ?_)
  · have hyp := (if_pos c17).symm.trans hyp
    exact t_X12_layAges_b283 C  K63 h_x1 h_x2 h_x3 h_x4 h_x5 S (L.sub (jsub_s (jsub_s (jsub_s (jsub_s (jsub_s (jsub_s (jsub_n (jsub_n jsub_0))))))))) hyp
  · have hyp := (if_neg c17).symm.trans hyp
    refine jr_aload_n (pc := 237) C L dX12_layAges_237 rfl rfl ?_
    obtain ⟨v18, hv18, hyp⟩ := jbind hyp
    refine jr_getR (pc := 238) C S lf_X12_40 rfl hv18 dX12_layAges_238 ?_
    refine jr_iload_n (pc := 241) C L dX12_layAges_241 rfl rfl ?_
    obtain ⟨v19, hv19, hyp⟩ := jbind hyp
    have iv19 := jra_in S hv19
    refine jr_ial (pc := 242) C S h_x3 hv19 dX12_layAges_242 ?_
    refine jr_if_ne (pc := 243) C iv19 (tgt := 283) dX12_layAges_243 (by decide) (fun c20 => ?_) (fun c20 => ?_)
    · have hyp := (if_pos c20).symm.trans hyp
      refine jr_aload_n (pc := 246) C L dX12_layAges_246 rfl rfl ?_
      obtain ⟨v21, hv21, hyp⟩ := jbind hyp
      refine jr_getR (pc := 247) C S lf_X12_40 rfl hv21 dX12_layAges_247 ?_
      refine jr_iload_n (pc := 250) C L dX12_layAges_250 rfl rfl ?_
      refine jr_iconst (pc := 251) C dX12_layAges_251 ?_
      obtain ⟨m22, hm22, hyp⟩ := jbind hyp
      refine jr_ias (pc := 252) C S h_x3 (show jIn 1 from ⟨by decide, by decide⟩) hm22 dX12_layAges_252 (fun H locs S => ?_)
      refine jr_iload (pc := 253) C L dX12_layAges_253 rfl ?_
      refine jr_bipush (pc := 255) C dX12_layAges_255 (by decide) ?_
      refine jr_icmp_ne (pc := 257) C h_x5 (show jIn 63 from ⟨by decide, by decide⟩) (tgt := 265) dX12_layAges_257 (by decide) (fun c23 => ?_) (fun c23 => ?_)
      · have hyp := (if_pos c23).symm.trans hyp
        refine jr_aload_n (pc := 260) C L dX12_layAges_260 rfl rfl ?_
        refine jr_iload_n (pc := 261) C L dX12_layAges_261 rfl rfl ?_
        obtain ⟨u24, hu24, hyp⟩ := jbind hyp
        obtain ⟨q25, hq25, hyp⟩ := jbind hyp
        refine jr_callV_N (pc := 262) C S L (As := [jI x3]) (rest := []) (c_X12_swapAges h_x3 hq25) mv_X12_swapAges ml_X12_234 rfl (jck_spec hu24) (by decide) rfl rfl rfl (Nat.le_of_ble_eq_true rfl) ⟨Nat.le_refl 0, Nat.le_refl 0⟩ dX12_layAges_262 (fun p26 H locs S => ?_)
        exact t_X12_layAges_b265 C  K63 h_x1 h_x4 S (L.sub (jsub_s (jsub_s (jsub_n (jsub_n (jsub_s (jsub_n (jsub_n (jsub_n jsub_0))))))))) hyp
      · have hyp := (if_neg c23).symm.trans hyp
        exact t_X12_layAges_b265 C  K63 h_x1 h_x4 S (L.sub (jsub_s (jsub_s (jsub_n (jsub_n (jsub_s (jsub_n (jsub_n (jsub_n jsub_0))))))))) hyp
    · have hyp := (if_neg c20).symm.trans hyp
      exact t_X12_layAges_b283 C  K63 h_x1 h_x2 h_x3 h_x4 h_x5 S (L.sub (jsub_s (jsub_s (jsub_s (jsub_s (jsub_s (jsub_s (jsub_n (jsub_n jsub_0))))))))) hyp
set_option maxHeartbeats 4000000 in
set_option maxRecDepth 100000 in
theorem t_X12_layAges_b225 {p : Program} {l : Launch} {e : Env} {s : State} {mi : MethodId} {args : Array Value} {below : List Frame} {meth : Method} {c : Code} {D : va_G} {cy : Nat → ClassId} {B sz : Nat} {sh : jm_S} {res : jm_M} {N : Nat} {k63 : Nat → Int → Int → jm_M → Option jm_M} (C : jCx p s mi args meth c cX12_layAges 8 RX12 none D cy) (K63 : ∀ (a0 : Nat) (x1 : Int) (x2 : Int) , jIn x1 → jIn x2 → ∀ (m : jm_M) (H : Heap) (locs : List Loc) (ls : Array Slot), jHs D cy B sz sh (jA B sz) s.heap H locs m → jL ls [some (jR B a0), some (jI x1), some (jI x2), none, none, none, none, none] → k63 a0 x1 x2 m = some res → W p l e (jrm 3 0 0) s mi args below meth c H locs 0 0 (MQ below (jQc D cy B sz sh res none True) args s 0 0 (jA B sz)) (F0 mi 63 ls [])) {a0 : Nat} {x1 : Int} (h_x1 : jIn x1) {x2 : Int} (h_x2 : jIn x2) {x3 : Int} (h_x3 : jIn x3) {x4 : Int} (h_x4 : jIn x4) {x5 : Int} (h_x5 : jIn x5) {m : jm_M} {H : Heap} {locs : List Loc} {ls : Array Slot} (S : jHs D cy B sz sh (jA B sz) s.heap H locs m) (L : jL ls [some (jR B a0), some (jI x1), some (jI x2), some (jI x3), some (jI x4), some (jI x5), none, none]) (hyp : f_X12_layAges_b225 N sh k63 a0 x1 x2 x3 x4 x5 m = some res) : W p l e (jrm 3 0 0) s mi args below meth c H locs 0 0 (MQ below (jQc D cy B sz sh res none True) args s 0 0 (jA B sz)) (F0 mi 225 ls []) := by
  unfold f_X12_layAges_b225 at hyp
  refine jr_iconst (pc := 225) C dX12_layAges_225 ?_
  refine jr_goto (pc := 226) C (tgt := 230) dX12_layAges_226 (by decide) ?_
  exact t_X12_layAges_b230 C  K63 h_x1 h_x2 h_x3 h_x4 h_x5 (show jIn 1 from ⟨by decide, by decide⟩) S (L.sub (jsub_s (jsub_s (jsub_s (jsub_s (jsub_s (jsub_s (jsub_n (jsub_n jsub_0))))))))) hyp
set_option maxHeartbeats 4000000 in
set_option maxRecDepth 100000 in
theorem t_X12_layAges_b184 {p : Program} {l : Launch} {e : Env} {s : State} {mi : MethodId} {args : Array Value} {below : List Frame} {meth : Method} {c : Code} {D : va_G} {cy : Nat → ClassId} {B sz : Nat} {sh : jm_S} {res : jm_M} {N : Nat} {k63 : Nat → Int → Int → jm_M → Option jm_M} (C : jCx p s mi args meth c cX12_layAges 8 RX12 none D cy) (K63 : ∀ (a0 : Nat) (x1 : Int) (x2 : Int) , jIn x1 → jIn x2 → ∀ (m : jm_M) (H : Heap) (locs : List Loc) (ls : Array Slot), jHs D cy B sz sh (jA B sz) s.heap H locs m → jL ls [some (jR B a0), some (jI x1), some (jI x2), none, none, none, none, none] → k63 a0 x1 x2 m = some res → W p l e (jrm 3 0 0) s mi args below meth c H locs 0 0 (MQ below (jQc D cy B sz sh res none True) args s 0 0 (jA B sz)) (F0 mi 63 ls [])) {a0 : Nat} {x1 : Int} (h_x1 : jIn x1) {x2 : Int} (h_x2 : jIn x2) {m : jm_M} {H : Heap} {locs : List Loc} {ls : Array Slot} (S : jHs D cy B sz sh (jA B sz) s.heap H locs m) (L : jL ls [some (jR B a0), some (jI x1), some (jI x2), none, none, none, none, none]) (hyp : f_X12_layAges_b184 N sh k63 a0 x1 x2 m = some res) : W p l e (jrm 3 0 0) s mi args below meth c H locs 0 0 (MQ below (jQc D cy B sz sh res none True) args s 0 0 (jA B sz)) (F0 mi 184 ls []) := by
  unfold f_X12_layAges_b184 at hyp
  refine jr_goto (pc := 184) C (tgt := 63) dX12_layAges_184 (by decide) ?_
  exact K63 a0 x1 x2 h_x1 h_x2 m _ _ _ S (L.sub (jsub_s (jsub_s (jsub_s (jsub_n (jsub_n (jsub_n (jsub_n (jsub_n jsub_0))))))))) hyp
set_option maxHeartbeats 4000000 in
set_option maxRecDepth 100000 in
theorem t_X12_layAges_b106 {p : Program} {l : Launch} {e : Env} {s : State} {mi : MethodId} {args : Array Value} {below : List Frame} {meth : Method} {c : Code} {D : va_G} {cy : Nat → ClassId} {B sz : Nat} {sh : jm_S} {res : jm_M} {N : Nat} {k63 : Nat → Int → Int → jm_M → Option jm_M} {k106 : Nat → Int → Int → Int → Int → Int → jm_M → Option jm_M} (C : jCx p s mi args meth c cX12_layAges 8 RX12 none D cy) (K63 : ∀ (a0 : Nat) (x1 : Int) (x2 : Int) , jIn x1 → jIn x2 → ∀ (m : jm_M) (H : Heap) (locs : List Loc) (ls : Array Slot), jHs D cy B sz sh (jA B sz) s.heap H locs m → jL ls [some (jR B a0), some (jI x1), some (jI x2), none, none, none, none, none] → k63 a0 x1 x2 m = some res → W p l e (jrm 3 0 0) s mi args below meth c H locs 0 0 (MQ below (jQc D cy B sz sh res none True) args s 0 0 (jA B sz)) (F0 mi 63 ls [])) (K106 : ∀ (a0 : Nat) (x1 : Int) (x2 : Int) (x3 : Int) (x4 : Int) (x5 : Int) , jIn x1 → jIn x2 → jIn x3 → jIn x4 → jIn x5 → ∀ (m : jm_M) (H : Heap) (locs : List Loc) (ls : Array Slot), jHs D cy B sz sh (jA B sz) s.heap H locs m → jL ls [some (jR B a0), some (jI x1), some (jI x2), some (jI x3), some (jI x4), some (jI x5), none, none] → k106 a0 x1 x2 x3 x4 x5 m = some res → W p l e (jrm 3 0 0) s mi args below meth c H locs 0 0 (MQ below (jQc D cy B sz sh res none True) args s 0 0 (jA B sz)) (F0 mi 106 ls [])) {a0 : Nat} {x1 : Int} (h_x1 : jIn x1) {x2 : Int} (h_x2 : jIn x2) {x3 : Int} (h_x3 : jIn x3) {x4 : Int} (h_x4 : jIn x4) {x5 : Int} (h_x5 : jIn x5) {m : jm_M} {H : Heap} {locs : List Loc} {ls : Array Slot} (S : jHs D cy B sz sh (jA B sz) s.heap H locs m) (L : jL ls [some (jR B a0), some (jI x1), some (jI x2), some (jI x3), some (jI x4), some (jI x5), none, none]) (hyp : f_X12_layAges_b106 N sh k63 k106 a0 x1 x2 x3 x4 x5 m = some res) : W p l e (jrm 3 0 0) s mi args below meth c H locs 0 0 (MQ below (jQc D cy B sz sh res none True) args s 0 0 (jA B sz)) (F0 mi 106 ls []) := by
  unfold f_X12_layAges_b106 at hyp
  refine jr_iload (pc := 106) C L dX12_layAges_106 rfl ?_
  refine jr_bipush (pc := 108) C dX12_layAges_108 (by decide) ?_
  refine jr_icmp_ge (pc := 110) C h_x5 (show jIn 16 from ⟨by decide, by decide⟩) (tgt := 143) dX12_layAges_110 (by decide) (fun c27 => ?_) (fun c27 => ?_)
  · have hyp := (if_pos c27).symm.trans hyp
    refine jr_aload_n (pc := 113) C L dX12_layAges_113 rfl rfl ?_
    obtain ⟨v28, hv28, hyp⟩ := jbind hyp
    refine jr_getR (pc := 114) C S lf_X12_64 rfl hv28 dX12_layAges_114 ?_
    refine jr_bipush (pc := 117) C dX12_layAges_117 (by decide) ?_
    refine jr_iload_n (pc := 119) C L dX12_layAges_119 rfl rfl ?_
    refine jr_bipush (pc := 120) C dX12_layAges_120 (by decide) ?_
    refine jr_iload_n (pc := 122) C L dX12_layAges_122 rfl rfl ?_
    refine jr_imul (pc := 123) C dX12_layAges_123 ?_
    refine jr_isub (pc := 124) C dX12_layAges_124 ?_
    refine jr_imul (pc := 125) C dX12_layAges_125 ?_
    refine jr_iload (pc := 126) C L dX12_layAges_126 rfl ?_
    refine jr_iadd (pc := 128) C dX12_layAges_128 ?_
    refine jr_aload_n (pc := 129) C L dX12_layAges_129 rfl rfl ?_
    obtain ⟨v29, hv29, hyp⟩ := jbind hyp
    refine jr_getR (pc := 130) C S lf_X12_58 rfl hv29 dX12_layAges_130 ?_
    refine jr_iload (pc := 133) C L dX12_layAges_133 rfl ?_
    obtain ⟨v30, hv30, hyp⟩ := jbind hyp
    have iv30 := jra_in S hv30
    refine jr_ial (pc := 135) C S h_x5 hv30 dX12_layAges_135 ?_
    obtain ⟨m31, hm31, hyp⟩ := jbind hyp
    refine jr_ias (pc := 136) C S (jIn_w _) iv30 hm31 dX12_layAges_136 (fun H locs S => ?_)
    refine jr_iinc (pc := 137) C L dX12_layAges_137 rfl (Nat.le_of_ble_eq_true rfl) (fun ls L => ?_)
    have L : jL ls [some (jR B a0), some (jI x1), some (jI x2), some (jI x3), some (jI x4), some (jI (jw (x5 + 1))), none, none] := L
    refine jr_goto (pc := 140) C (tgt := 106) dX12_layAges_140 (by decide) ?_
    exact K106 a0 x1 x2 x3 x4 (jw (x5 + 1)) h_x1 h_x2 h_x3 h_x4 (jIn_w _) m31 _ _ _ S (L.sub (jsub_s (jsub_s (jsub_s (jsub_s (jsub_s (jsub_s (jsub_n (jsub_n jsub_0))))))))) hyp
  · have hyp := (if_neg c27).symm.trans hyp
    refine jr_aload_n (pc := 143) C L dX12_layAges_143 rfl rfl ?_
    refine jr_iload (pc := 144) C L dX12_layAges_144 rfl ?_
    refine jr_bipush (pc := 146) C dX12_layAges_146 (by decide) ?_
    refine jr_isub (pc := 148) C dX12_layAges_148 ?_
    obtain ⟨u32, hu32, hyp⟩ := jbind hyp
    obtain ⟨q33, hq33, hyp⟩ := jbind hyp
    refine jr_callV_N (pc := 149) C S L (As := [jI (jw (x4 - 48))]) (rest := []) (c_X12_fetchAges (jIn_w _) hq33) mv_X12_fetchAges ml_X12_228 rfl (jck_spec hu32) (by decide) rfl rfl rfl (Nat.le_of_ble_eq_true rfl) ⟨Nat.le_refl 0, Nat.le_refl 0⟩ dX12_layAges_149 (fun p34 H locs S => ?_)
    refine jr_goto (pc := 152) C (tgt := 184) dX12_layAges_152 (by decide) ?_
    exact t_X12_layAges_b184 C  K63 h_x1 h_x2 S (L.sub (jsub_s (jsub_s (jsub_s (jsub_n (jsub_n (jsub_n (jsub_n (jsub_n jsub_0))))))))) hyp
theorem t_X12_layAges_l106 {p : Program} {l : Launch} {e : Env} {s : State} {mi : MethodId} {args : Array Value} {below : List Frame} {meth : Method} {c : Code} {D : va_G} {cy : Nat → ClassId} {B sz : Nat} {sh : jm_S} {res : jm_M} {N : Nat} {k63 : Nat → Int → Int → jm_M → Option jm_M} (C : jCx p s mi args meth c cX12_layAges 8 RX12 none D cy) (K63 : ∀ (a0 : Nat) (x1 : Int) (x2 : Int) , jIn x1 → jIn x2 → ∀ (m : jm_M) (H : Heap) (locs : List Loc) (ls : Array Slot), jHs D cy B sz sh (jA B sz) s.heap H locs m → jL ls [some (jR B a0), some (jI x1), some (jI x2), none, none, none, none, none] → k63 a0 x1 x2 m = some res → W p l e (jrm 3 0 0) s mi args below meth c H locs 0 0 (MQ below (jQc D cy B sz sh res none True) args s 0 0 (jA B sz)) (F0 mi 63 ls [])) : ∀ (n : Nat) (a0 : Nat) (x1 : Int) (x2 : Int) (x3 : Int) (x4 : Int) (x5 : Int), jIn x1 → jIn x2 → jIn x3 → jIn x4 → jIn x5 → ∀ (m : jm_M) (H : Heap) (locs : List Loc) (ls : Array Slot), jHs D cy B sz sh (jA B sz) s.heap H locs m → jL ls [some (jR B a0), some (jI x1), some (jI x2), some (jI x3), some (jI x4), some (jI x5), none, none] → f_X12_layAges_l106 N sh k63 n a0 x1 x2 x3 x4 x5 m = some res → W p l e (jrm 3 0 0) s mi args below meth c H locs 0 0 (MQ below (jQc D cy B sz sh res none True) args s 0 0 (jA B sz)) (F0 mi 106 ls []) := by
  intro n
  induction n with
  | zero => intro a0 x1 x2 x3 x4 x5 h_x1 h_x2 h_x3 h_x4 h_x5 m H locs ls S L hyp; cases hyp
  | succ n ih => intro a0 x1 x2 x3 x4 x5 h_x1 h_x2 h_x3 h_x4 h_x5 m H locs ls S L hyp; exact t_X12_layAges_b106 (N := N) C  K63 ih h_x1 h_x2 h_x3 h_x4 h_x5 S L hyp
set_option maxHeartbeats 4000000 in
set_option maxRecDepth 100000 in
theorem t_X12_layAges_b74 {p : Program} {l : Launch} {e : Env} {s : State} {mi : MethodId} {args : Array Value} {below : List Frame} {meth : Method} {c : Code} {D : va_G} {cy : Nat → ClassId} {B sz : Nat} {sh : jm_S} {res : jm_M} {N : Nat} {k63 : Nat → Int → Int → jm_M → Option jm_M} (C : jCx p s mi args meth c cX12_layAges 8 RX12 none D cy) (K63 : ∀ (a0 : Nat) (x1 : Int) (x2 : Int) , jIn x1 → jIn x2 → ∀ (m : jm_M) (H : Heap) (locs : List Loc) (ls : Array Slot), jHs D cy B sz sh (jA B sz) s.heap H locs m → jL ls [some (jR B a0), some (jI x1), some (jI x2), none, none, none, none, none] → k63 a0 x1 x2 m = some res → W p l e (jrm 3 0 0) s mi args below meth c H locs 0 0 (MQ below (jQc D cy B sz sh res none True) args s 0 0 (jA B sz)) (F0 mi 63 ls [])) {a0 : Nat} {x1 : Int} (h_x1 : jIn x1) {x2 : Int} (h_x2 : jIn x2) {m : jm_M} {H : Heap} {locs : List Loc} {ls : Array Slot} (S : jHs D cy B sz sh (jA B sz) s.heap H locs m) (L : jL ls [some (jR B a0), some (jI x1), some (jI x2), none, none, none, none, none]) (hyp : f_X12_layAges_b74 N sh k63 a0 x1 x2 m = some res) : W p l e (jrm 3 0 0) s mi args below meth c H locs 0 0 (MQ below (jQc D cy B sz sh res none True) args s 0 0 (jA B sz)) (F0 mi 74 ls []) := by
  unfold f_X12_layAges_b74 at hyp
  refine jr_iload_n (pc := 74) C L dX12_layAges_74 rfl rfl ?_
  refine jr_if_lt (pc := 75) C h_x2 (tgt := 187) dX12_layAges_75 (by decide) (fun c35 => ?_) (fun c35 => ?_)
  · have hyp := (if_pos c35).symm.trans hyp
    refine jr_aload_n (pc := 187) C L dX12_layAges_187 rfl rfl ?_
    obtain ⟨v36, hv36, hyp⟩ := jbind hyp
    have iv36 := jrf_in S hv36
    refine jr_getI (pc := 188) C S lf_X12_165 rfl hv36 dX12_layAges_188 ?_
    refine jr_iconst (pc := 191) C dX12_layAges_191 ?_
    refine jr_isub (pc := 192) C dX12_layAges_192 ?_
    refine jr_istore_n (pc := 193) C L dX12_layAges_193 rfl (Nat.le_of_ble_eq_true rfl) (fun ls L => ?_)
    have L : jL ls [some (jR B a0), some (jI x1), some (jI x2), some (jI (jw (v36 - 1))), none, none, none, none] := L
    refine jr_aload_n (pc := 194) C L dX12_layAges_194 rfl rfl ?_
    obtain ⟨v37, hv37, hyp⟩ := jbind hyp
    refine jr_getR (pc := 195) C S lf_X12_37 rfl hv37 dX12_layAges_195 ?_
    refine jr_iload_n (pc := 198) C L dX12_layAges_198 rfl rfl ?_
    obtain ⟨v38, hv38, hyp⟩ := jbind hyp
    have iv38 := jra_in S hv38
    refine jr_ial (pc := 199) C S (jIn_w _) hv38 dX12_layAges_199 ?_
    refine jr_istore (pc := 200) C L dX12_layAges_200 (Nat.le_of_ble_eq_true rfl) (fun ls L => ?_)
    have L : jL ls [some (jR B a0), some (jI x1), some (jI x2), some (jI (jw (v36 - 1))), some (jI v38), none, none, none] := L
    refine jr_aload_n (pc := 202) C L dX12_layAges_202 rfl rfl ?_
    obtain ⟨v39, hv39, hyp⟩ := jbind hyp
    refine jr_getR (pc := 203) C S lf_X12_19 rfl hv39 dX12_layAges_203 ?_
    refine jr_iload (pc := 206) C L dX12_layAges_206 rfl ?_
    obtain ⟨v40, hv40, hyp⟩ := jbind hyp
    have iv40 := jra_in S hv40
    refine jr_ial (pc := 208) C S iv38 hv40 dX12_layAges_208 ?_
    refine jr_istore (pc := 209) C L dX12_layAges_209 (Nat.le_of_ble_eq_true rfl) (fun ls L => ?_)
    have L : jL ls [some (jR B a0), some (jI x1), some (jI x2), some (jI (jw (v36 - 1))), some (jI v38), some (jI v40), none, none] := L
    refine jr_iload (pc := 211) C L dX12_layAges_211 rfl ?_
    refine jr_bipush (pc := 213) C dX12_layAges_213 (by decide) ?_
    refine jr_icmp_eq (pc := 215) C iv40 (show jIn 59 from ⟨by decide, by decide⟩) (tgt := 225) dX12_layAges_215 (by decide) (fun c41 => ?_) (fun c41 => ?_)
    · have hyp := (if_pos c41).symm.trans hyp
      exact t_X12_layAges_b225 C  K63 h_x1 h_x2 (jIn_w _) iv38 iv40 S (L.sub (jsub_s (jsub_s (jsub_s (jsub_s (jsub_s (jsub_s (jsub_n (jsub_n jsub_0))))))))) hyp
    · have hyp := (if_neg c41).symm.trans hyp
      refine jr_iload (pc := 218) C L dX12_layAges_218 rfl ?_
      refine jr_bipush (pc := 220) C dX12_layAges_220 (by decide) ?_
      refine jr_icmp_ne (pc := 222) C iv40 (show jIn 63 from ⟨by decide, by decide⟩) (tgt := 229) dX12_layAges_222 (by decide) (fun c42 => ?_) (fun c42 => ?_)
      · have hyp := (if_pos c42).symm.trans hyp
        exact t_X12_layAges_b225 C  K63 h_x1 h_x2 (jIn_w _) iv38 iv40 S (L.sub (jsub_s (jsub_s (jsub_s (jsub_s (jsub_s (jsub_s (jsub_n (jsub_n jsub_0))))))))) hyp
      · have hyp := (if_neg c42).symm.trans hyp
        refine jr_iconst (pc := 229) C dX12_layAges_229 ?_
        exact t_X12_layAges_b230 C  K63 h_x1 h_x2 (jIn_w _) iv38 iv40 (show jIn 0 from ⟨by decide, by decide⟩) S (L.sub (jsub_s (jsub_s (jsub_s (jsub_s (jsub_s (jsub_s (jsub_n (jsub_n jsub_0))))))))) hyp
  · have hyp := (if_neg c35).symm.trans hyp
    refine jr_iload_n (pc := 78) C L dX12_layAges_78 rfl rfl ?_
    refine jr_istore_n (pc := 79) C L dX12_layAges_79 rfl (Nat.le_of_ble_eq_true rfl) (fun ls L => ?_)
    have L : jL ls [some (jR B a0), some (jI x1), some (jI x2), some (jI x2), none, none, none, none] := L
    refine jr_aload_n (pc := 80) C L dX12_layAges_80 rfl rfl ?_
    obtain ⟨v43, hv43, hyp⟩ := jbind hyp
    refine jr_getR (pc := 81) C S lf_X12_19 rfl hv43 dX12_layAges_81 ?_
    refine jr_iload_n (pc := 84) C L dX12_layAges_84 rfl rfl ?_
    obtain ⟨v44, hv44, hyp⟩ := jbind hyp
    have iv44 := jra_in S hv44
    refine jr_ial (pc := 85) C S h_x2 hv44 dX12_layAges_85 ?_
    refine jr_istore (pc := 86) C L dX12_layAges_86 (Nat.le_of_ble_eq_true rfl) (fun ls L => ?_)
    have L : jL ls [some (jR B a0), some (jI x1), some (jI x2), some (jI x2), some (jI v44), none, none, none] := L
    refine jr_bipush (pc := 88) C dX12_layAges_88 (by decide) ?_
    refine jr_istore_n (pc := 90) C L dX12_layAges_90 rfl (Nat.le_of_ble_eq_true rfl) (fun ls L => ?_)
    have L : jL ls [some (jR B a0), some (jI x1), some (jI (-6)), some (jI x2), some (jI v44), none, none, none] := L
    refine jr_iload (pc := 91) C L dX12_layAges_91 rfl ?_
    refine jr_bipush (pc := 93) C dX12_layAges_93 (by decide) ?_
    refine jr_bipush (pc := 95) C dX12_layAges_95 (by decide) ?_
    obtain ⟨q45, hq45, hyp⟩ := jbind hyp
    refine jr_callS_I (pc := 97) C S L (As := [jI v44, jI 48, jI 55]) (rest := []) (c_X12_in (m0 := m) iv44 (show jIn 48 from ⟨by decide, by decide⟩) (show jIn 55 from ⟨by decide, by decide⟩) hq45) ms_X12_in ml_X12_80 (by decide) rfl rfl rfl (Nat.le_of_ble_eq_true rfl) ⟨Nat.le_refl 0, Nat.le_refl 0⟩ dX12_layAges_97 (fun p46 H locs S => ?_)
    refine jr_if_eq (pc := 100) C p46 (tgt := 155) dX12_layAges_100 (by decide) (fun c47 => ?_) (fun c47 => ?_)
    · have hyp := (if_pos c47).symm.trans hyp
      refine jr_iload (pc := 155) C L dX12_layAges_155 rfl ?_
      obtain ⟨q48, hq48, hyp⟩ := jbind hyp
      refine jr_callS_I (pc := 157) C S L (As := [jI v44]) (rest := []) (c_X12_partsOf (m0 := m) iv44 hq48) ms_X12_partsOf ml_X12_95 (by decide) rfl rfl rfl (Nat.le_of_ble_eq_true rfl) ⟨Nat.le_refl 0, Nat.le_refl 0⟩ dX12_layAges_157 (fun p49 H locs S => ?_)
      refine jr_if_le (pc := 160) C p49 (tgt := 184) dX12_layAges_160 (by decide) (fun c50 => ?_) (fun c50 => ?_)
      · have hyp := (if_pos c50).symm.trans hyp
        refine jr_aload_n (pc := 163) C L dX12_layAges_163 rfl rfl ?_
        refine jr_iload_n (pc := 164) C L dX12_layAges_164 rfl rfl ?_
        refine jr_iconst (pc := 165) C dX12_layAges_165 ?_
        refine jr_iconst (pc := 166) C dX12_layAges_166 ?_
        obtain ⟨u51, hu51, hyp⟩ := jbind hyp
        obtain ⟨q52, hq52, hyp⟩ := jbind hyp
        refine jr_callV_N (pc := 167) C S L (As := [jI x2, jI 0, jI 0]) (rest := []) (c_X12_pile h_x2 (show jIn 0 from ⟨by decide, by decide⟩) (show jIn 0 from ⟨by decide, by decide⟩) hq52) mv_X12_pile ml_X12_174 rfl (jck_spec hu51) (by decide) rfl rfl rfl (Nat.le_of_ble_eq_true rfl) ⟨Nat.le_refl 0, Nat.le_refl 0⟩ dX12_layAges_167 (fun p53 H locs S => ?_)
        refine jr_aload_n (pc := 170) C L dX12_layAges_170 rfl rfl ?_
        refine jr_aload_n (pc := 171) C L dX12_layAges_171 rfl rfl ?_
        obtain ⟨v54, hv54, hyp⟩ := jbind hyp
        have iv54 := jrf_in S hv54
        refine jr_getI (pc := 172) C S lf_X12_165 rfl hv54 dX12_layAges_172 ?_
        refine jr_iconst (pc := 175) C dX12_layAges_175 ?_
        refine jr_isub (pc := 176) C dX12_layAges_176 ?_
        obtain ⟨u55, hu55, hyp⟩ := jbind hyp
        obtain ⟨q56, hq56, hyp⟩ := jbind hyp
        refine jr_callV_N (pc := 177) C S L (As := [jI (jw (v54 - 1))]) (rest := []) (c_X12_keepAges (jIn_w _) hq56) mv_X12_keepAges ml_X12_231 rfl (jck_spec hu55) (by decide) rfl rfl rfl (Nat.le_of_ble_eq_true rfl) ⟨Nat.le_refl 0, Nat.le_refl 0⟩ dX12_layAges_177 (fun p57 H locs S => ?_)
        refine jr_iload_n (pc := 180) C L dX12_layAges_180 rfl rfl ?_
        refine jr_iconst (pc := 181) C dX12_layAges_181 ?_
        refine jr_iadd (pc := 182) C dX12_layAges_182 ?_
        refine jr_istore_n (pc := 183) C L dX12_layAges_183 rfl (Nat.le_of_ble_eq_true rfl) (fun ls L => ?_)
        have L : jL ls [some (jR B a0), some (jI x1), some (jI (jw (x2 + 1))), some (jI x2), some (jI v44), none, none, none] := L
        exact t_X12_layAges_b184 C  K63 h_x1 (jIn_w _) S (L.sub (jsub_s (jsub_s (jsub_s (jsub_n (jsub_n (jsub_n (jsub_n (jsub_n jsub_0))))))))) hyp
      · have hyp := (if_neg c50).symm.trans hyp
        exact t_X12_layAges_b184 C  K63 h_x1 (show jIn (-6) from ⟨by decide, by decide⟩) S (L.sub (jsub_s (jsub_s (jsub_s (jsub_n (jsub_n (jsub_n (jsub_n (jsub_n jsub_0))))))))) hyp
    · have hyp := (if_neg c47).symm.trans hyp
      refine jr_iconst (pc := 103) C dX12_layAges_103 ?_
      refine jr_istore (pc := 104) C L dX12_layAges_104 (Nat.le_of_ble_eq_true rfl) (fun ls L => ?_)
      have L : jL ls [some (jR B a0), some (jI x1), some (jI (-6)), some (jI x2), some (jI v44), some (jI 0), none, none] := L
      exact t_X12_layAges_l106 C  K63 N a0 x1 (-6) x2 v44 0 h_x1 (show jIn (-6) from ⟨by decide, by decide⟩) h_x2 iv44 (show jIn 0 from ⟨by decide, by decide⟩) m _ _ _ S (L.sub (jsub_s (jsub_s (jsub_s (jsub_s (jsub_s (jsub_s (jsub_n (jsub_n jsub_0))))))))) hyp
set_option maxHeartbeats 4000000 in
set_option maxRecDepth 100000 in
theorem t_X12_layAges_b63 {p : Program} {l : Launch} {e : Env} {s : State} {mi : MethodId} {args : Array Value} {below : List Frame} {meth : Method} {c : Code} {D : va_G} {cy : Nat → ClassId} {B sz : Nat} {sh : jm_S} {res : jm_M} {N : Nat} {k63 : Nat → Int → Int → jm_M → Option jm_M} (C : jCx p s mi args meth c cX12_layAges 8 RX12 none D cy) (K63 : ∀ (a0 : Nat) (x1 : Int) (x2 : Int) , jIn x1 → jIn x2 → ∀ (m : jm_M) (H : Heap) (locs : List Loc) (ls : Array Slot), jHs D cy B sz sh (jA B sz) s.heap H locs m → jL ls [some (jR B a0), some (jI x1), some (jI x2), none, none, none, none, none] → k63 a0 x1 x2 m = some res → W p l e (jrm 3 0 0) s mi args below meth c H locs 0 0 (MQ below (jQc D cy B sz sh res none True) args s 0 0 (jA B sz)) (F0 mi 63 ls [])) {a0 : Nat} {x1 : Int} (h_x1 : jIn x1) {x2 : Int} (h_x2 : jIn x2) {m : jm_M} {H : Heap} {locs : List Loc} {ls : Array Slot} (S : jHs D cy B sz sh (jA B sz) s.heap H locs m) (L : jL ls [some (jR B a0), some (jI x1), some (jI x2), none, none, none, none, none]) (hyp : f_X12_layAges_b63 N sh k63 a0 x1 x2 m = some res) : W p l e (jrm 3 0 0) s mi args below meth c H locs 0 0 (MQ below (jQc D cy B sz sh res none True) args s 0 0 (jA B sz)) (F0 mi 63 ls []) := by
  unfold f_X12_layAges_b63 at hyp
  refine jr_iload_n (pc := 63) C L dX12_layAges_63 rfl rfl ?_
  refine jr_if_ge (pc := 64) C h_x2 (tgt := 74) dX12_layAges_64 (by decide) (fun c58 => ?_) (fun c58 => ?_)
  · have hyp := (if_pos c58).symm.trans hyp
    refine jr_aload_n (pc := 67) C L dX12_layAges_67 rfl rfl ?_
    obtain ⟨v59, hv59, hyp⟩ := jbind hyp
    have iv59 := jrf_in S hv59
    refine jr_getI (pc := 68) C S lf_X12_165 rfl hv59 dX12_layAges_68 ?_
    refine jr_if_le (pc := 71) C iv59 (tgt := 344) dX12_layAges_71 (by decide) (fun c60 => ?_) (fun c60 => ?_)
    · have hyp := (if_pos c60).symm.trans hyp
      exact t_X12_layAges_b74 C  K63 h_x1 h_x2 S (L.sub (jsub_s (jsub_s (jsub_s (jsub_n (jsub_n (jsub_n (jsub_n (jsub_n jsub_0))))))))) hyp
    · have hyp := (if_neg c60).symm.trans hyp
      cases hyp
      exact jr_vret C S trivial dX12_layAges_344
  · have hyp := (if_neg c58).symm.trans hyp
    exact t_X12_layAges_b74 C  K63 h_x1 h_x2 S (L.sub (jsub_s (jsub_s (jsub_s (jsub_n (jsub_n (jsub_n (jsub_n (jsub_n jsub_0))))))))) hyp
theorem t_X12_layAges_l63 {p : Program} {l : Launch} {e : Env} {s : State} {mi : MethodId} {args : Array Value} {below : List Frame} {meth : Method} {c : Code} {D : va_G} {cy : Nat → ClassId} {B sz : Nat} {sh : jm_S} {res : jm_M} {N : Nat} (C : jCx p s mi args meth c cX12_layAges 8 RX12 none D cy) : ∀ (n : Nat) (a0 : Nat) (x1 : Int) (x2 : Int), jIn x1 → jIn x2 → ∀ (m : jm_M) (H : Heap) (locs : List Loc) (ls : Array Slot), jHs D cy B sz sh (jA B sz) s.heap H locs m → jL ls [some (jR B a0), some (jI x1), some (jI x2), none, none, none, none, none] → f_X12_layAges_l63 N sh n a0 x1 x2 m = some res → W p l e (jrm 3 0 0) s mi args below meth c H locs 0 0 (MQ below (jQc D cy B sz sh res none True) args s 0 0 (jA B sz)) (F0 mi 63 ls []) := by
  intro n
  induction n with
  | zero => intro a0 x1 x2 h_x1 h_x2 m H locs ls S L hyp; cases hyp
  | succ n ih => intro a0 x1 x2 h_x1 h_x2 m H locs ls S L hyp; exact t_X12_layAges_b63 (N := N) C  ih h_x1 h_x2 S L hyp
set_option maxHeartbeats 4000000 in
set_option maxRecDepth 100000 in
theorem t_X12_layAges_b29 {p : Program} {l : Launch} {e : Env} {s : State} {mi : MethodId} {args : Array Value} {below : List Frame} {meth : Method} {c : Code} {D : va_G} {cy : Nat → ClassId} {B sz : Nat} {sh : jm_S} {res : jm_M} {N : Nat} {k2 : Nat → Int → Int → jm_M → Option jm_M} (C : jCx p s mi args meth c cX12_layAges 8 RX12 none D cy) (K2 : ∀ (a0 : Nat) (x1 : Int) (x2 : Int) , jIn x1 → jIn x2 → ∀ (m : jm_M) (H : Heap) (locs : List Loc) (ls : Array Slot), jHs D cy B sz sh (jA B sz) s.heap H locs m → jL ls [some (jR B a0), some (jI x1), some (jI x2), none, none, none, none, none] → k2 a0 x1 x2 m = some res → W p l e (jrm 3 0 0) s mi args below meth c H locs 0 0 (MQ below (jQc D cy B sz sh res none True) args s 0 0 (jA B sz)) (F0 mi 2 ls [])) {a0 : Nat} {x1 : Int} (h_x1 : jIn x1) {x2 : Int} (h_x2 : jIn x2) {s0 : Int} (h_s0 : jIn s0) {m : jm_M} {H : Heap} {locs : List Loc} {ls : Array Slot} (S : jHs D cy B sz sh (jA B sz) s.heap H locs m) (L : jL ls [some (jR B a0), some (jI x1), some (jI x2), none, none, none, none, none]) (hyp : f_X12_layAges_b29 N sh k2 a0 x1 x2 s0 m = some res) : W p l e (jrm 3 0 0) s mi args below meth c H locs 0 0 (MQ below (jQc D cy B sz sh res none True) args s 0 0 (jA B sz)) (F0 mi 29 ls [jI s0]) := by
  unfold f_X12_layAges_b29 at hyp
  refine jr_istore_n (pc := 29) C L dX12_layAges_29 rfl (Nat.le_of_ble_eq_true rfl) (fun ls L => ?_)
  have L : jL ls [some (jR B a0), some (jI x1), some (jI x2), some (jI s0), none, none, none, none] := L
  refine jr_aload_n (pc := 30) C L dX12_layAges_30 rfl rfl ?_
  obtain ⟨v61, hv61, hyp⟩ := jbind hyp
  refine jr_getR (pc := 31) C S lf_X12_58 rfl hv61 dX12_layAges_31 ?_
  refine jr_iload_n (pc := 34) C L dX12_layAges_34 rfl rfl ?_
  refine jr_iload_n (pc := 35) C L dX12_layAges_35 rfl rfl ?_
  obtain ⟨m62, hm62, hyp⟩ := jbind hyp
  refine jr_ias (pc := 36) C S h_x2 h_s0 hm62 dX12_layAges_36 (fun H locs S => ?_)
  refine jr_aload_n (pc := 37) C L dX12_layAges_37 rfl rfl ?_
  obtain ⟨v63, hv63, hyp⟩ := jbind hyp
  refine jr_getR (pc := 38) C S lf_X12_58 rfl hv63 dX12_layAges_38 ?_
  refine jr_bipush (pc := 41) C dX12_layAges_41 (by decide) ?_
  refine jr_iload_n (pc := 43) C L dX12_layAges_43 rfl rfl ?_
  refine jr_iadd (pc := 44) C dX12_layAges_44 ?_
  refine jr_iload_n (pc := 45) C L dX12_layAges_45 rfl rfl ?_
  obtain ⟨m64, hm64, hyp⟩ := jbind hyp
  refine jr_ias (pc := 46) C S (jIn_w _) h_s0 hm64 dX12_layAges_46 (fun H locs S => ?_)
  refine jr_iinc (pc := 47) C L dX12_layAges_47 rfl (Nat.le_of_ble_eq_true rfl) (fun ls L => ?_)
  have L : jL ls [some (jR B a0), some (jI x1), some (jI (jw (x2 + 1))), some (jI s0), none, none, none, none] := L
  refine jr_goto (pc := 50) C (tgt := 2) dX12_layAges_50 (by decide) ?_
  exact K2 a0 x1 (jw (x2 + 1)) h_x1 (jIn_w _) m64 _ _ _ S (L.sub (jsub_s (jsub_s (jsub_s (jsub_n (jsub_n (jsub_n (jsub_n (jsub_n jsub_0))))))))) hyp
set_option maxHeartbeats 4000000 in
set_option maxRecDepth 100000 in
theorem t_X12_layAges_b2 {p : Program} {l : Launch} {e : Env} {s : State} {mi : MethodId} {args : Array Value} {below : List Frame} {meth : Method} {c : Code} {D : va_G} {cy : Nat → ClassId} {B sz : Nat} {sh : jm_S} {res : jm_M} {N : Nat} {k2 : Nat → Int → Int → jm_M → Option jm_M} (C : jCx p s mi args meth c cX12_layAges 8 RX12 none D cy) (K2 : ∀ (a0 : Nat) (x1 : Int) (x2 : Int) , jIn x1 → jIn x2 → ∀ (m : jm_M) (H : Heap) (locs : List Loc) (ls : Array Slot), jHs D cy B sz sh (jA B sz) s.heap H locs m → jL ls [some (jR B a0), some (jI x1), some (jI x2), none, none, none, none, none] → k2 a0 x1 x2 m = some res → W p l e (jrm 3 0 0) s mi args below meth c H locs 0 0 (MQ below (jQc D cy B sz sh res none True) args s 0 0 (jA B sz)) (F0 mi 2 ls [])) {a0 : Nat} {x1 : Int} (h_x1 : jIn x1) {x2 : Int} (h_x2 : jIn x2) {m : jm_M} {H : Heap} {locs : List Loc} {ls : Array Slot} (S : jHs D cy B sz sh (jA B sz) s.heap H locs m) (L : jL ls [some (jR B a0), some (jI x1), some (jI x2), none, none, none, none, none]) (hyp : f_X12_layAges_b2 N sh k2 a0 x1 x2 m = some res) : W p l e (jrm 3 0 0) s mi args below meth c H locs 0 0 (MQ below (jQc D cy B sz sh res none True) args s 0 0 (jA B sz)) (F0 mi 2 ls []) := by
  unfold f_X12_layAges_b2 at hyp
  refine jr_iload_n (pc := 2) C L dX12_layAges_2 rfl rfl ?_
  refine jr_bipush (pc := 3) C dX12_layAges_3 (by decide) ?_
  refine jr_icmp_ge (pc := 5) C h_x2 (show jIn 8 from ⟨by decide, by decide⟩) (tgt := 53) dX12_layAges_5 (by decide) (fun c65 => ?_) (fun c65 => ?_)
  · have hyp := (if_pos c65).symm.trans hyp
    refine jr_aload_n (pc := 8) C L dX12_layAges_8 rfl rfl ?_
    refine jr_iload_n (pc := 9) C L dX12_layAges_9 rfl rfl ?_
    obtain ⟨u66, hu66, hyp⟩ := jbind hyp
    obtain ⟨q67, hq67, hyp⟩ := jbind hyp
    refine jr_callV_I (pc := 10) C S L (As := [jI x2]) (rest := []) (c_X12_isHeld (m0 := m) h_x2 hq67) mv_X12_isHeld ml_X12_124 rfl (jck_spec hu66) (by decide) rfl rfl rfl (Nat.le_of_ble_eq_true rfl) ⟨Nat.le_refl 0, Nat.le_refl 0⟩ dX12_layAges_10 (fun p68 H locs S => ?_)
    refine jr_if_eq (pc := 13) C p68 (tgt := 20) dX12_layAges_13 (by decide) (fun c69 => ?_) (fun c69 => ?_)
    · have hyp := (if_pos c69).symm.trans hyp
      refine jr_aload_n (pc := 20) C L dX12_layAges_20 rfl rfl ?_
      refine jr_aload_n (pc := 21) C L dX12_layAges_21 rfl rfl ?_
      refine jr_iload_n (pc := 22) C L dX12_layAges_22 rfl rfl ?_
      obtain ⟨u70, hu70, hyp⟩ := jbind hyp
      obtain ⟨q71, hq71, hyp⟩ := jbind hyp
      refine jr_callV_I (pc := 23) C S L (As := [jI x2]) (rest := [jR B a0]) (c_X12_setOf (m0 := m) h_x2 hq71) mv_X12_setOf ml_X12_131 rfl (jck_spec hu70) (by decide) rfl rfl rfl (by simp [jR_cat, jI_cat]) ⟨Nat.le_refl 0, Nat.le_refl 0⟩ dX12_layAges_23 (fun p72 H locs S => ?_)
      obtain ⟨u73, hu73, hyp⟩ := jbind hyp
      obtain ⟨q74, hq74, hyp⟩ := jbind hyp
      refine jr_callV_I (pc := 26) C S L (As := [jI q71]) (rest := []) (c_X12_roomOf (m0 := m) p72 hq74) mv_X12_roomOf ml_X12_134 rfl (jck_spec hu73) (by decide) rfl rfl rfl (Nat.le_of_ble_eq_true rfl) ⟨Nat.le_refl 0, Nat.le_refl 0⟩ dX12_layAges_26 (fun p75 H locs S => ?_)
      exact t_X12_layAges_b29 C  K2 h_x1 h_x2 p75 S (L.sub (jsub_s (jsub_s (jsub_s (jsub_n (jsub_n (jsub_n (jsub_n (jsub_n jsub_0))))))))) hyp
    · have hyp := (if_neg c69).symm.trans hyp
      refine jr_iconst (pc := 16) C dX12_layAges_16 ?_
      refine jr_goto (pc := 17) C (tgt := 29) dX12_layAges_17 (by decide) ?_
      exact t_X12_layAges_b29 C  K2 h_x1 h_x2 (show jIn 0 from ⟨by decide, by decide⟩) S (L.sub (jsub_s (jsub_s (jsub_s (jsub_n (jsub_n (jsub_n (jsub_n (jsub_n jsub_0))))))))) hyp
  · have hyp := (if_neg c65).symm.trans hyp
    refine jr_aload_n (pc := 53) C L dX12_layAges_53 rfl rfl ?_
    refine jr_iconst (pc := 54) C dX12_layAges_54 ?_
    obtain ⟨m76, hm76, hyp⟩ := jbind hyp
    refine jr_putI (pc := 55) C S lf_X12_165 fp_X12_12 rfl (show jIn 0 from ⟨by decide, by decide⟩) hm76 dX12_layAges_55 (fun H locs S => ?_)
    refine jr_bipush (pc := 58) C dX12_layAges_58 (by decide) ?_
    refine jr_iload_n (pc := 60) C L dX12_layAges_60 rfl rfl ?_
    refine jr_imul (pc := 61) C dX12_layAges_61 ?_
    refine jr_istore_n (pc := 62) C L dX12_layAges_62 rfl (Nat.le_of_ble_eq_true rfl) (fun ls L => ?_)
    have L : jL ls [some (jR B a0), some (jI x1), some (jI (jw (30 * x1))), none, none, none, none, none] := L
    exact t_X12_layAges_l63 C   N a0 x1 (jw (30 * x1)) h_x1 (jIn_w _) m76 _ _ _ S (L.sub (jsub_s (jsub_s (jsub_s (jsub_n (jsub_n (jsub_n (jsub_n (jsub_n jsub_0))))))))) hyp
theorem t_X12_layAges_l2 {p : Program} {l : Launch} {e : Env} {s : State} {mi : MethodId} {args : Array Value} {below : List Frame} {meth : Method} {c : Code} {D : va_G} {cy : Nat → ClassId} {B sz : Nat} {sh : jm_S} {res : jm_M} {N : Nat} (C : jCx p s mi args meth c cX12_layAges 8 RX12 none D cy) : ∀ (n : Nat) (a0 : Nat) (x1 : Int) (x2 : Int), jIn x1 → jIn x2 → ∀ (m : jm_M) (H : Heap) (locs : List Loc) (ls : Array Slot), jHs D cy B sz sh (jA B sz) s.heap H locs m → jL ls [some (jR B a0), some (jI x1), some (jI x2), none, none, none, none, none] → f_X12_layAges_l2 N sh n a0 x1 x2 m = some res → W p l e (jrm 3 0 0) s mi args below meth c H locs 0 0 (MQ below (jQc D cy B sz sh res none True) args s 0 0 (jA B sz)) (F0 mi 2 ls []) := by
  intro n
  induction n with
  | zero => intro a0 x1 x2 h_x1 h_x2 m H locs ls S L hyp; cases hyp
  | succ n ih => intro a0 x1 x2 h_x1 h_x2 m H locs ls S L hyp; exact t_X12_layAges_b2 (N := N) C  ih h_x1 h_x2 S L hyp
set_option maxHeartbeats 4000000 in
set_option maxRecDepth 100000 in
theorem t_X12_layAges_e {p : Program} {l : Launch} {e : Env} {s : State} {mi : MethodId} {args : Array Value} {below : List Frame} {meth : Method} {c : Code} {D : va_G} {cy : Nat → ClassId} {B sz : Nat} {sh : jm_S} {res : jm_M} {N : Nat} (C : jCx p s mi args meth c cX12_layAges 8 RX12 none D cy) {a0 : Nat} {x1 : Int} (h_x1 : jIn x1) {m : jm_M} {H : Heap} {locs : List Loc} {ls : Array Slot} (S : jHs D cy B sz sh (jA B sz) s.heap H locs m) (L : jL ls [some (jR B a0), some (jI x1), none, none, none, none, none, none]) (hyp : f_X12_layAges N sh a0 x1 m = some res) : W p l e (jrm 3 0 0) s mi args below meth c H locs 0 0 (MQ below (jQc D cy B sz sh res none True) args s 0 0 (jA B sz)) (F0 mi 0 ls []) := by
  unfold f_X12_layAges at hyp
  refine jr_iconst (pc := 0) C dX12_layAges_0 ?_
  refine jr_istore_n (pc := 1) C L dX12_layAges_1 rfl (Nat.le_of_ble_eq_true rfl) (fun ls L => ?_)
  have L : jL ls [some (jR B a0), some (jI x1), some (jI 0), none, none, none, none, none] := L
  exact t_X12_layAges_l2 C   N a0 x1 0 h_x1 (show jIn 0 from ⟨by decide, by decide⟩) m _ _ _ S (L.sub (jsub_s (jsub_s (jsub_s (jsub_n (jsub_n (jsub_n (jsub_n (jsub_n jsub_0))))))))) hyp
theorem c_X12_layAges {l : Launch} {D : va_G} {cy : Nat → ClassId} {B sz : Nat} {sh : jm_S} {res : jm_M} {N : Nat} {m : jm_M} {a0 : Nat} {x1 : Int} (h_x1 : jIn x1) (hyp : f_X12_layAges N sh a0 x1 m = some res) : jCt l D cy B sz sh 3 yX12_layAges cX12_layAges 8 none [jR B a0, jI x1] m none res True :=
  jc_of (by decide) (fun v h => by simp only [List.mem_cons, List.not_mem_nil, or_false] at h; rcases h with rfl | rfl <;> first | rfl | exact jR_cat _ _) (Nat.le_of_ble_eq_true rfl) (fun C S L => t_X12_layAges_e C  h_x1 S L hyp)
set_option maxHeartbeats 4000000 in
set_option maxRecDepth 100000 in
theorem t_X12_isFetch_e {p : Program} {l : Launch} {e : Env} {s : State} {mi : MethodId} {args : Array Value} {below : List Frame} {meth : Method} {c : Code} {D : va_G} {cy : Nat → ClassId} {B sz : Nat} {sh : jm_S} {res : Int} {m0 : jm_M} (C : jCx p s mi args meth c cX12_isFetch 3 RX12 (some .boolean) D cy) {a0 : Nat} {x1 : Int} (h_x1 : jIn x1) {x2 : Int} (h_x2 : jIn x2) {H : Heap} {locs : List Loc} {ls : Array Slot} (S : jHs D cy B sz sh (jA B sz) s.heap H locs m0) (L : jL ls [some (jR B a0), some (jI x1), some (jI x2)]) (hyp : f_X12_isFetch sh a0 x1 x2 m0 = some res) : W p l e (jrm 3 0 0) s mi args below meth c H locs 0 0 (MQ below (jQc D cy B sz sh m0 (some (jI res)) (jIn res)) args s 0 0 (jA B sz)) (F0 mi 0 ls []) := by
  unfold f_X12_isFetch at hyp
  refine jr_aload_n (pc := 0) C L dX12_isFetch_0 rfl rfl ?_
  refine jr_iload_n (pc := 1) C L dX12_isFetch_1 rfl rfl ?_
  refine jr_iload_n (pc := 2) C L dX12_isFetch_2 rfl rfl ?_
  obtain ⟨u1, hu1, hyp⟩ := jbind hyp
  obtain ⟨q2, hq2, hyp⟩ := jbind hyp
  refine jr_callV_I (pc := 3) C S L (As := [jI x1, jI x2]) (rest := []) (c_X12_isNode (m0 := m0) h_x1 h_x2 hq2) mv_X12_isNode ml_X12_110 rfl (jck_spec hu1) (by decide) rfl rfl rfl (Nat.le_of_ble_eq_true rfl) ⟨Nat.le_refl 0, Nat.le_refl 0⟩ dX12_isFetch_3 (fun p3 H locs S => ?_)
  refine jr_if_eq (pc := 6) C p3 (tgt := 34) dX12_isFetch_6 (by decide) (fun c4 => ?_) (fun c4 => ?_)
  · have hyp := (if_pos c4).symm.trans hyp
    refine jr_iconst (pc := 34) C dX12_isFetch_34 ?_
    cases hyp
    exact jr_zret C S (show jIn 0 from ⟨by decide, by decide⟩) rfl dX12_isFetch_35
  · have hyp := (if_neg c4).symm.trans hyp
    refine jr_aload_n (pc := 9) C L dX12_isFetch_9 rfl rfl ?_
    obtain ⟨v5, hv5, hyp⟩ := jbind hyp
    refine jr_getR (pc := 10) C S lf_X12_19 rfl hv5 dX12_isFetch_10 ?_
    refine jr_bipush (pc := 13) C dX12_isFetch_13 (by decide) ?_
    refine jr_iload_n (pc := 15) C L dX12_isFetch_15 rfl rfl ?_
    refine jr_imul (pc := 16) C dX12_isFetch_16 ?_
    refine jr_iload_n (pc := 17) C L dX12_isFetch_17 rfl rfl ?_
    refine jr_iadd (pc := 18) C dX12_isFetch_18 ?_
    obtain ⟨v6, hv6, hyp⟩ := jbind hyp
    have iv6 := jra_in S hv6
    refine jr_ial (pc := 19) C S (jIn_w _) hv6 dX12_isFetch_19 ?_
    refine jr_bipush (pc := 20) C dX12_isFetch_20 (by decide) ?_
    refine jr_bipush (pc := 22) C dX12_isFetch_22 (by decide) ?_
    obtain ⟨q7, hq7, hyp⟩ := jbind hyp
    refine jr_callS_I (pc := 24) C S L (As := [jI v6, jI 48, jI 55]) (rest := []) (c_X12_in (m0 := m0) iv6 (show jIn 48 from ⟨by decide, by decide⟩) (show jIn 55 from ⟨by decide, by decide⟩) hq7) ms_X12_in ml_X12_80 (by decide) rfl rfl rfl (Nat.le_of_ble_eq_true rfl) ⟨Nat.le_refl 0, Nat.le_refl 0⟩ dX12_isFetch_24 (fun p8 H locs S => ?_)
    refine jr_if_eq (pc := 27) C p8 (tgt := 34) dX12_isFetch_27 (by decide) (fun c9 => ?_) (fun c9 => ?_)
    · have hyp := (if_pos c9).symm.trans hyp
      refine jr_iconst (pc := 34) C dX12_isFetch_34 ?_
      cases hyp
      exact jr_zret C S (show jIn 0 from ⟨by decide, by decide⟩) rfl dX12_isFetch_35
    · have hyp := (if_neg c9).symm.trans hyp
      refine jr_iconst (pc := 30) C dX12_isFetch_30 ?_
      refine jr_goto (pc := 31) C (tgt := 35) dX12_isFetch_31 (by decide) ?_
      cases hyp
      exact jr_zret C S (show jIn 1 from ⟨by decide, by decide⟩) rfl dX12_isFetch_35
theorem c_X12_isFetch {l : Launch} {D : va_G} {cy : Nat → ClassId} {B sz : Nat} {sh : jm_S} {res : Int} {m0 : jm_M} {a0 : Nat} {x1 : Int} (h_x1 : jIn x1) {x2 : Int} (h_x2 : jIn x2) (hyp : f_X12_isFetch sh a0 x1 x2 m0 = some res) : jCt l D cy B sz sh 3 yX12_isFetch cX12_isFetch 3 (some .boolean) [jR B a0, jI x1, jI x2] m0 (some (jI res)) m0 (jIn res) :=
  jc_of (by decide) (fun v h => by simp only [List.mem_cons, List.not_mem_nil, or_false] at h; rcases h with rfl | rfl | rfl <;> first | rfl | exact jR_cat _ _) (Nat.le_of_ble_eq_true rfl) (fun C S L => t_X12_isFetch_e C  h_x1 h_x2 S L hyp)
set_option maxHeartbeats 4000000 in
set_option maxRecDepth 100000 in
theorem t_X12_age_e {p : Program} {l : Launch} {e : Env} {s : State} {mi : MethodId} {args : Array Value} {below : List Frame} {meth : Method} {c : Code} {D : va_G} {cy : Nat → ClassId} {B sz : Nat} {sh : jm_S} {res : (Int × jm_M)} {N : Nat} (C : jCx p s mi args meth c cX12_age 5 RX12 (some .int) D cy) {a0 : Nat} {x1 : Int} (h_x1 : jIn x1) {x2 : Int} (h_x2 : jIn x2) {x3 : Int} (h_x3 : jIn x3) {x4 : Int} (h_x4 : jIn x4) {m : jm_M} {H : Heap} {locs : List Loc} {ls : Array Slot} (S : jHs D cy B sz sh (jA B sz) s.heap H locs m) (L : jL ls [some (jR B a0), some (jI x1), some (jI x2), some (jI x3), some (jI x4)]) (hyp : f_X12_age N sh a0 x1 x2 x3 x4 m = some res) : W p l e (jrm 4 0 0) s mi args below meth c H locs 0 0 (MQ below (jQc D cy B sz sh res.2 (some (jI res.1)) (jIn res.1)) args s 0 0 (jA B sz)) (F0 mi 0 ls []) := by
  unfold f_X12_age at hyp
  refine jr_aload_n (pc := 0) C L dX12_age_0 rfl rfl ?_
  refine jr_iload_n (pc := 1) C L dX12_age_1 rfl rfl ?_
  refine jr_iload_n (pc := 2) C L dX12_age_2 rfl rfl ?_
  obtain ⟨u1, hu1, hyp⟩ := jbind hyp
  obtain ⟨q2, hq2, hyp⟩ := jbind hyp
  refine jr_callV_I (pc := 3) C S L (As := [jI x1, jI x2]) (rest := []) (c_X12_isFetch (m0 := m) h_x1 h_x2 hq2) mv_X12_isFetch ml_X12_240 rfl (jck_spec hu1) (by decide) rfl rfl rfl (Nat.le_of_ble_eq_true rfl) ⟨Nat.le_refl 0, Nat.le_refl 0⟩ dX12_age_3 (fun p3 H locs S => ?_)
  refine jr_if_eq (pc := 6) C p3 (tgt := 20) dX12_age_6 (by decide) (fun c4 => ?_) (fun c4 => ?_)
  · have hyp := (if_pos c4).symm.trans hyp
    refine jr_iconst (pc := 20) C dX12_age_20 ?_
    cases hyp
    exact jr_iret C S (show jIn (-1) from ⟨by decide, by decide⟩) dX12_age_21
  · have hyp := (if_neg c4).symm.trans hyp
    refine jr_iload (pc := 9) C L dX12_age_9 rfl ?_
    refine jr_iconst (pc := 11) C dX12_age_11 ?_
    refine jr_bipush (pc := 12) C dX12_age_12 (by decide) ?_
    obtain ⟨q5, hq5, hyp⟩ := jbind hyp
    refine jr_callS_I (pc := 14) C S L (As := [jI x4, jI 0, jI 7]) (rest := []) (c_X12_in (m0 := m) h_x4 (show jIn 0 from ⟨by decide, by decide⟩) (show jIn 7 from ⟨by decide, by decide⟩) hq5) ms_X12_in ml_X12_80 (by decide) rfl rfl rfl (Nat.le_of_ble_eq_true rfl) ⟨Nat.le_refl 0, Nat.le_refl 0⟩ dX12_age_14 (fun p6 H locs S => ?_)
    refine jr_if_ne (pc := 17) C p6 (tgt := 22) dX12_age_17 (by decide) (fun c7 => ?_) (fun c7 => ?_)
    · have hyp := (if_pos c7).symm.trans hyp
      refine jr_iconst (pc := 20) C dX12_age_20 ?_
      cases hyp
      exact jr_iret C S (show jIn (-1) from ⟨by decide, by decide⟩) dX12_age_21
    · have hyp := (if_neg c7).symm.trans hyp
      refine jr_iload_n (pc := 22) C L dX12_age_22 rfl rfl ?_
      refine jr_iconst (pc := 23) C dX12_age_23 ?_
      refine jr_iconst (pc := 24) C dX12_age_24 ?_
      obtain ⟨q8, hq8, hyp⟩ := jbind hyp
      refine jr_callS_I (pc := 25) C S L (As := [jI x3, jI 0, jI 1]) (rest := []) (c_X12_in (m0 := m) h_x3 (show jIn 0 from ⟨by decide, by decide⟩) (show jIn 1 from ⟨by decide, by decide⟩) hq8) ms_X12_in ml_X12_80 (by decide) rfl rfl rfl (Nat.le_of_ble_eq_true rfl) ⟨Nat.le_refl 0, Nat.le_refl 0⟩ dX12_age_25 (fun p9 H locs S => ?_)
      refine jr_if_ne (pc := 28) C p9 (tgt := 34) dX12_age_28 (by decide) (fun c10 => ?_) (fun c10 => ?_)
      · have hyp := (if_pos c10).symm.trans hyp
        refine jr_bipush (pc := 31) C dX12_age_31 (by decide) ?_
        cases hyp
        exact jr_iret C S (show jIn (-2) from ⟨by decide, by decide⟩) dX12_age_33
      · have hyp := (if_neg c10).symm.trans hyp
        refine jr_aload_n (pc := 34) C L dX12_age_34 rfl rfl ?_
        refine jr_iload_n (pc := 35) C L dX12_age_35 rfl rfl ?_
        obtain ⟨u11, hu11, hyp⟩ := jbind hyp
        obtain ⟨q12, hq12, hyp⟩ := jbind hyp
        refine jr_callV_N (pc := 36) C S L (As := [jI x1]) (rest := []) (c_X12_layAges h_x1 hq12) mv_X12_layAges ml_X12_243 rfl (jck_spec hu11) (by decide) rfl rfl rfl (Nat.le_of_ble_eq_true rfl) ⟨Nat.le_refl 0, Nat.le_refl 0⟩ dX12_age_36 (fun p13 H locs S => ?_)
        refine jr_aload_n (pc := 39) C L dX12_age_39 rfl rfl ?_
        obtain ⟨v14, hv14, hyp⟩ := jbind hyp
        refine jr_getR (pc := 40) C S lf_X12_64 rfl hv14 dX12_age_40 ?_
        refine jr_bipush (pc := 43) C dX12_age_43 (by decide) ?_
        refine jr_iload_n (pc := 45) C L dX12_age_45 rfl rfl ?_
        refine jr_imul (pc := 46) C dX12_age_46 ?_
        refine jr_bipush (pc := 47) C dX12_age_47 (by decide) ?_
        refine jr_iload_n (pc := 49) C L dX12_age_49 rfl rfl ?_
        refine jr_imul (pc := 50) C dX12_age_50 ?_
        refine jr_iadd (pc := 51) C dX12_age_51 ?_
        refine jr_iload (pc := 52) C L dX12_age_52 rfl ?_
        refine jr_iadd (pc := 54) C dX12_age_54 ?_
        obtain ⟨v15, hv15, hyp⟩ := jbind hyp
        have iv15 := jra_in S hv15
        refine jr_ial (pc := 55) C S (jIn_w _) hv15 dX12_age_55 ?_
        cases hyp
        exact jr_iret C S iv15 dX12_age_56
theorem c_X12_age {l : Launch} {D : va_G} {cy : Nat → ClassId} {B sz : Nat} {sh : jm_S} {res : (Int × jm_M)} {N : Nat} {m : jm_M} {a0 : Nat} {x1 : Int} (h_x1 : jIn x1) {x2 : Int} (h_x2 : jIn x2) {x3 : Int} (h_x3 : jIn x3) {x4 : Int} (h_x4 : jIn x4) (hyp : f_X12_age N sh a0 x1 x2 x3 x4 m = some res) : jCt l D cy B sz sh 4 yX12_age cX12_age 5 (some .int) [jR B a0, jI x1, jI x2, jI x3, jI x4] m (some (jI res.1)) res.2 (jIn res.1) :=
  jc_of (by decide) (fun v h => by simp only [List.mem_cons, List.not_mem_nil, or_false] at h; rcases h with rfl | rfl | rfl | rfl | rfl <;> first | rfl | exact jR_cat _ _) (Nat.le_of_ble_eq_true rfl) (fun C S L => t_X12_age_e C  h_x1 h_x2 h_x3 h_x4 S L hyp)
