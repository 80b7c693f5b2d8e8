set_option maxHeartbeats 4000000 in
set_option maxRecDepth 100000 in
theorem t_X12_begin_b209 {p : Program} {l : Launch} {e : Env} {s : State} {mi : MethodId} {args : Array Value} {below : List Frame} {meth : Method} {c : Code} {D : va_G} {cy : Nat → ClassId} {B sz : Nat} {sh : jm_S} {res : jm_M} {N : Nat} (C : jCx p s mi args meth c cX12_begin 5 RX12 none D cy) {a0 : Nat} {x1 : Int} (h_x1 : jIn x1) {m : jm_M} {H : Heap} {locs : List Loc} {ls : Array Slot} (S : jHs D cy B sz sh (jA B sz) s.heap H locs m) (L : jL ls [some (jR B a0), some (jI x1), none, none, none]) (hyp : f_X12_begin_b209 N sh a0 x1 m = some res) : W p l e (jrm 4 0 0) s mi args below meth c H locs 0 0 (MQ below (jQc D cy B sz sh res none True) args s 0 0 (jA B sz)) (F0 mi 209 ls []) := by
  unfold f_X12_begin_b209 at hyp
  refine jr_aload_n (pc := 209) C L dX12_begin_209 rfl rfl ?_
  refine jr_iload_n (pc := 210) C L dX12_begin_210 rfl rfl ?_
  refine jr_iconst (pc := 211) C dX12_begin_211 ?_
  refine jr_iadd (pc := 212) C dX12_begin_212 ?_
  obtain ⟨m1, hm1, hyp⟩ := jbind hyp
  refine jr_putI (pc := 213) C S lf_X12_168 fp_X12_25 rfl (jIn_w _) hm1 dX12_begin_213 (fun H locs S => ?_)
  cases hyp
  exact jr_vret C S trivial dX12_begin_216
set_option maxHeartbeats 4000000 in
set_option maxRecDepth 100000 in
theorem t_X12_begin_b187 {p : Program} {l : Launch} {e : Env} {s : State} {mi : MethodId} {args : Array Value} {below : List Frame} {meth : Method} {c : Code} {D : va_G} {cy : Nat → ClassId} {B sz : Nat} {sh : jm_S} {res : jm_M} {N : Nat} (C : jCx p s mi args meth c cX12_begin 5 RX12 none D cy) {a0 : Nat} {x1 : Int} (h_x1 : jIn x1) {x4 : Int} (h_x4 : jIn x4) {r0 : Nat} {s1 : Int} (h_s1 : jIn s1) {s2 : Int} (h_s2 : jIn s2) {s3 : Int} (h_s3 : jIn s3) {m : jm_M} {H : Heap} {locs : List Loc} {ls : Array Slot} (S : jHs D cy B sz sh (jA B sz) s.heap H locs m) (L : jL ls [some (jR B a0), some (jI x1), none, none, some (jI x4)]) (hyp : f_X12_begin_b187 N sh a0 x1 x4 r0 s1 s2 s3 m = some res) : W p l e (jrm 4 0 0) s mi args below meth c H locs 0 0 (MQ below (jQc D cy B sz sh res none True) args s 0 0 (jA B sz)) (F0 mi 187 ls [jI s3, jI s2, jI s1, jR B r0]) := by
  unfold f_X12_begin_b187 at hyp
  obtain ⟨u2, hu2, hyp⟩ := jbind hyp
  obtain ⟨q3, hq3, hyp⟩ := jbind hyp
  refine jr_callV_N (pc := 187) C S L (As := [jI s1, jI s2, jI s3]) (rest := []) (c_X12_pile h_s1 h_s2 h_s3 hq3) mv_X12_pile ml_X12_174 rfl (jck_spec hu2) (by decide) rfl rfl rfl (Nat.le_of_ble_eq_true rfl) ⟨Nat.le_refl 0, Nat.le_refl 0⟩ dX12_begin_187 (fun p4 H locs S => ?_)
  refine jr_iload (pc := 190) C L dX12_begin_190 rfl ?_
  refine jr_if_ge (pc := 192) C h_x4 (tgt := 209) dX12_begin_192 (by decide) (fun c5 => ?_) (fun c5 => ?_)
  · have hyp := (if_pos c5).symm.trans hyp
    refine jr_aload_n (pc := 195) C L dX12_begin_195 rfl rfl ?_
    refine jr_aload_n (pc := 196) C L dX12_begin_196 rfl rfl ?_
    obtain ⟨v6, hv6, hyp⟩ := jbind hyp
    refine jr_getR (pc := 197) C S lf_X12_46 rfl hv6 dX12_begin_197 ?_
    refine jr_aload_n (pc := 200) C L dX12_begin_200 rfl rfl ?_
    obtain ⟨v7, hv7, hyp⟩ := jbind hyp
    have iv7 := jrf_in S hv7
    refine jr_getI (pc := 201) C S lf_X12_165 rfl hv7 dX12_begin_201 ?_
    refine jr_iconst (pc := 204) C dX12_begin_204 ?_
    refine jr_isub (pc := 205) C dX12_begin_205 ?_
    obtain ⟨u8, hu8, hyp⟩ := jbind hyp
    obtain ⟨q9, hq9, hyp⟩ := jbind hyp
    refine jr_callV_N (pc := 206) C S L (As := [jR B v6.toNat, jI (jw (v7 - 1))]) (rest := []) (c_X12_keep (jIn_w _) hq9) mv_X12_keep ml_X12_181 rfl (jck_spec hu8) (by decide) rfl rfl rfl (Nat.le_of_ble_eq_true rfl) ⟨Nat.le_refl 0, Nat.le_refl 0⟩ dX12_begin_206 (fun p10 H locs S => ?_)
    exact t_X12_begin_b209 C   h_x1 S (L.sub (jsub_s (jsub_s (jsub_n (jsub_n (jsub_n jsub_0)))))) hyp
  · have hyp := (if_neg c5).symm.trans hyp
    exact t_X12_begin_b209 C   h_x1 S (L.sub (jsub_s (jsub_s (jsub_n (jsub_n (jsub_n jsub_0)))))) hyp
set_option maxHeartbeats 4000000 in
set_option maxRecDepth 100000 in
theorem t_X12_begin_b176 {p : Program} {l : Launch} {e : Env} {s : State} {mi : MethodId} {args : Array Value} {below : List Frame} {meth : Method} {c : Code} {D : va_G} {cy : Nat → ClassId} {B sz : Nat} {sh : jm_S} {res : jm_M} {N : Nat} (C : jCx p s mi args meth c cX12_begin 5 RX12 none D cy) {a0 : Nat} {x1 : Int} (h_x1 : jIn x1) {x3 : Int} (h_x3 : jIn x3) {x4 : Int} (h_x4 : jIn x4) {r0 : Nat} {s1 : Int} (h_s1 : jIn s1) {s2 : Int} (h_s2 : jIn s2) {m : jm_M} {H : Heap} {locs : List Loc} {ls : Array Slot} (S : jHs D cy B sz sh (jA B sz) s.heap H locs m) (L : jL ls [some (jR B a0), some (jI x1), none, some (jI x3), some (jI x4)]) (hyp : f_X12_begin_b176 N sh a0 x1 x3 x4 r0 s1 s2 m = some res) : W p l e (jrm 4 0 0) s mi args below meth c H locs 0 0 (MQ below (jQc D cy B sz sh res none True) args s 0 0 (jA B sz)) (F0 mi 176 ls [jI s2, jI s1, jR B r0]) := by
  unfold f_X12_begin_b176 at hyp
  refine jr_iload (pc := 176) C L dX12_begin_176 rfl ?_
  refine jr_if_ge (pc := 178) C h_x4 (tgt := 185) dX12_begin_178 (by decide) (fun c11 => ?_) (fun c11 => ?_)
  · have hyp := (if_pos c11).symm.trans hyp
    refine jr_iload_n (pc := 181) C L dX12_begin_181 rfl rfl ?_
    refine jr_goto (pc := 182) C (tgt := 187) dX12_begin_182 (by decide) ?_
    exact t_X12_begin_b187 C   h_x1 h_x4 h_s1 h_s2 h_x3 S (L.sub (jsub_s (jsub_s (jsub_n (jsub_n (jsub_s jsub_0)))))) hyp
  · have hyp := (if_neg c11).symm.trans hyp
    refine jr_iload (pc := 185) C L dX12_begin_185 rfl ?_
    exact t_X12_begin_b187 C   h_x1 h_x4 h_s1 h_s2 h_x4 S (L.sub (jsub_s (jsub_s (jsub_n (jsub_n (jsub_s jsub_0)))))) hyp
set_option maxHeartbeats 4000000 in
set_option maxRecDepth 100000 in
theorem t_X12_begin_b132 {p : Program} {l : Launch} {e : Env} {s : State} {mi : MethodId} {args : Array Value} {below : List Frame} {meth : Method} {c : Code} {D : va_G} {cy : Nat → ClassId} {B sz : Nat} {sh : jm_S} {res : jm_M} {N : Nat} (C : jCx p s mi args meth c cX12_begin 5 RX12 none D cy) {r0 : Nat} {s1 : Int} (h_s1 : jIn s1) {m : jm_M} {H : Heap} {locs : List Loc} {ls : Array Slot} (S : jHs D cy B sz sh (jA B sz) s.heap H locs m) (L : jL ls [none, none, none, none, none]) (hyp : f_X12_begin_b132 N sh r0 s1 m = some res) : W p l e (jrm 4 0 0) s mi args below meth c H locs 0 0 (MQ below (jQc D cy B sz sh res none True) args s 0 0 (jA B sz)) (F0 mi 132 ls [jI s1, jR B r0]) := by
  unfold f_X12_begin_b132 at hyp
  obtain ⟨m12, hm12, hyp⟩ := jbind hyp
  refine jr_putI (pc := 132) C S lf_X12_168 fp_X12_25 rfl h_s1 hm12 dX12_begin_132 (fun H locs S => ?_)
  refine jr_goto (pc := 135) C (tgt := 216) dX12_begin_135 (by decide) ?_
  cases hyp
  exact jr_vret C S trivial dX12_begin_216
set_option maxHeartbeats 4000000 in
set_option maxRecDepth 100000 in
theorem t_X12_begin_b108 {p : Program} {l : Launch} {e : Env} {s : State} {mi : MethodId} {args : Array Value} {below : List Frame} {meth : Method} {c : Code} {D : va_G} {cy : Nat → ClassId} {B sz : Nat} {sh : jm_S} {res : jm_M} {N : Nat} (C : jCx p s mi args meth c cX12_begin 5 RX12 none D cy) {a0 : Nat} {x1 : Int} (h_x1 : jIn x1) {x3 : Int} (h_x3 : jIn x3) {m : jm_M} {H : Heap} {locs : List Loc} {ls : Array Slot} (S : jHs D cy B sz sh (jA B sz) s.heap H locs m) (L : jL ls [some (jR B a0), some (jI x1), none, some (jI x3), none]) (hyp : f_X12_begin_b108 N sh a0 x1 x3 m = some res) : W p l e (jrm 4 0 0) s mi args below meth c H locs 0 0 (MQ below (jQc D cy B sz sh res none True) args s 0 0 (jA B sz)) (F0 mi 108 ls []) := by
  unfold f_X12_begin_b108 at hyp
  refine jr_aload_n (pc := 108) C L dX12_begin_108 rfl rfl ?_
  refine jr_iload_n (pc := 109) C L dX12_begin_109 rfl rfl ?_
  refine jr_iconst (pc := 110) C dX12_begin_110 ?_
  refine jr_icmp_ne (pc := 111) C h_x3 (show jIn 1 from ⟨by decide, by decide⟩) (tgt := 129) dX12_begin_111 (by decide) (fun c13 => ?_) (fun c13 => ?_)
  · have hyp := (if_pos c13).symm.trans hyp
    refine jr_iload_n (pc := 114) C L dX12_begin_114 rfl rfl ?_
    refine jr_iconst (pc := 115) C dX12_begin_115 ?_
    refine jr_iadd (pc := 116) C dX12_begin_116 ?_
    refine jr_aload_n (pc := 117) C L dX12_begin_117 rfl rfl ?_
    obtain ⟨v14, hv14, hyp⟩ := jbind hyp
    refine jr_getR (pc := 118) C S lf_X12_22 rfl hv14 dX12_begin_118 ?_
    refine jr_iload_n (pc := 121) C L dX12_begin_121 rfl rfl ?_
    refine jr_iconst (pc := 122) C dX12_begin_122 ?_
    refine jr_iadd (pc := 123) C dX12_begin_123 ?_
    obtain ⟨v15, hv15, hyp⟩ := jbind hyp
    have iv15 := jra_in S hv15
    refine jr_ial (pc := 124) C S (jIn_w _) hv15 dX12_begin_124 ?_
    refine jr_iadd (pc := 125) C dX12_begin_125 ?_
    refine jr_goto (pc := 126) C (tgt := 132) dX12_begin_126 (by decide) ?_
    exact t_X12_begin_b132 C   (jIn_w _) S (L.sub (jsub_n (jsub_n (jsub_n (jsub_n (jsub_n jsub_0)))))) hyp
  · have hyp := (if_neg c13).symm.trans hyp
    refine jr_iload_n (pc := 129) C L dX12_begin_129 rfl rfl ?_
    refine jr_iconst (pc := 130) C dX12_begin_130 ?_
    refine jr_iadd (pc := 131) C dX12_begin_131 ?_
    exact t_X12_begin_b132 C   (jIn_w _) S (L.sub (jsub_n (jsub_n (jsub_n (jsub_n (jsub_n jsub_0)))))) hyp
set_option maxHeartbeats 4000000 in
set_option maxRecDepth 100000 in
theorem t_X12_begin_b86 {p : Program} {l : Launch} {e : Env} {s : State} {mi : MethodId} {args : Array Value} {below : List Frame} {meth : Method} {c : Code} {D : va_G} {cy : Nat → ClassId} {B sz : Nat} {sh : jm_S} {res : jm_M} {N : Nat} (C : jCx p s mi args meth c cX12_begin 5 RX12 none D cy) {a0 : Nat} {x1 : Int} (h_x1 : jIn x1) {x3 : Int} (h_x3 : jIn x3) {r0 : Nat} {s1 : Int} (h_s1 : jIn s1) {s2 : Int} (h_s2 : jIn s2) {m : jm_M} {H : Heap} {locs : List Loc} {ls : Array Slot} (S : jHs D cy B sz sh (jA B sz) s.heap H locs m) (L : jL ls [some (jR B a0), some (jI x1), none, some (jI x3), none]) (hyp : f_X12_begin_b86 N sh a0 x1 x3 r0 s1 s2 m = some res) : W p l e (jrm 4 0 0) s mi args below meth c H locs 0 0 (MQ below (jQc D cy B sz sh res none True) args s 0 0 (jA B sz)) (F0 mi 86 ls [jI s2, jI s1, jR B r0]) := by
  unfold f_X12_begin_b86 at hyp
  refine jr_iconst (pc := 86) C dX12_begin_86 ?_
  obtain ⟨u16, hu16, hyp⟩ := jbind hyp
  obtain ⟨q17, hq17, hyp⟩ := jbind hyp
  refine jr_callV_N (pc := 87) C S L (As := [jI s1, jI s2, jI 0]) (rest := []) (c_X12_pile h_s1 h_s2 (show jIn 0 from ⟨by decide, by decide⟩) hq17) mv_X12_pile ml_X12_174 rfl (jck_spec hu16) (by decide) rfl rfl rfl (Nat.le_of_ble_eq_true rfl) ⟨Nat.le_refl 0, Nat.le_refl 0⟩ dX12_begin_87 (fun p18 H locs S => ?_)
  refine jr_iload_n (pc := 90) C L dX12_begin_90 rfl rfl ?_
  refine jr_if_ge (pc := 91) C h_x3 (tgt := 108) dX12_begin_91 (by decide) (fun c19 => ?_) (fun c19 => ?_)
  · have hyp := (if_pos c19).symm.trans hyp
    refine jr_aload_n (pc := 94) C L dX12_begin_94 rfl rfl ?_
    refine jr_aload_n (pc := 95) C L dX12_begin_95 rfl rfl ?_
    obtain ⟨v20, hv20, hyp⟩ := jbind hyp
    refine jr_getR (pc := 96) C S lf_X12_46 rfl hv20 dX12_begin_96 ?_
    refine jr_aload_n (pc := 99) C L dX12_begin_99 rfl rfl ?_
    obtain ⟨v21, hv21, hyp⟩ := jbind hyp
    have iv21 := jrf_in S hv21
    refine jr_getI (pc := 100) C S lf_X12_165 rfl hv21 dX12_begin_100 ?_
    refine jr_iconst (pc := 103) C dX12_begin_103 ?_
    refine jr_isub (pc := 104) C dX12_begin_104 ?_
    obtain ⟨u22, hu22, hyp⟩ := jbind hyp
    obtain ⟨q23, hq23, hyp⟩ := jbind hyp
    refine jr_callV_N (pc := 105) C S L (As := [jR B v20.toNat, jI (jw (v21 - 1))]) (rest := []) (c_X12_keep (jIn_w _) hq23) mv_X12_keep ml_X12_181 rfl (jck_spec hu22) (by decide) rfl rfl rfl (Nat.le_of_ble_eq_true rfl) ⟨Nat.le_refl 0, Nat.le_refl 0⟩ dX12_begin_105 (fun p24 H locs S => ?_)
    exact t_X12_begin_b108 C   h_x1 h_x3 S (L.sub (jsub_s (jsub_s (jsub_n (jsub_s (jsub_n jsub_0)))))) hyp
  · have hyp := (if_neg c19).symm.trans hyp
    exact t_X12_begin_b108 C   h_x1 h_x3 S (L.sub (jsub_s (jsub_s (jsub_n (jsub_s (jsub_n jsub_0)))))) hyp
set_option maxHeartbeats 4000000 in
set_option maxRecDepth 100000 in
theorem t_X12_begin_e {p : Program} {l : Launch} {e : Env} {s : State} {mi : MethodId} {args : Array Value} {below : List Frame} {meth : Method} {c : Code} {D : va_G} {cy : Nat → ClassId} {B sz : Nat} {sh : jm_S} {res : jm_M} {N : Nat} (C : jCx p s mi args meth c cX12_begin 5 RX12 none D cy) {a0 : Nat} {m : jm_M} {H : Heap} {locs : List Loc} {ls : Array Slot} (S : jHs D cy B sz sh (jA B sz) s.heap H locs m) (L : jL ls [some (jR B a0), none, none, none, none]) (hyp : f_X12_begin N sh a0 m = some res) : W p l e (jrm 4 0 0) s mi args below meth c H locs 0 0 (MQ below (jQc D cy B sz sh res none True) args s 0 0 (jA B sz)) (F0 mi 0 ls []) := by
  unfold f_X12_begin at hyp
  refine jr_aload_n (pc := 0) C L dX12_begin_0 rfl rfl ?_
  obtain ⟨v25, hv25, hyp⟩ := jbind hyp
  have iv25 := jrf_in S hv25
  refine jr_getI (pc := 1) C S lf_X12_168 rfl hv25 dX12_begin_1 ?_
  refine jr_istore_n (pc := 4) C L dX12_begin_4 rfl (Nat.le_of_ble_eq_true rfl) (fun ls L => ?_)
  have L : jL ls [some (jR B a0), some (jI v25), none, none, none] := L
  refine jr_aload_n (pc := 5) C L dX12_begin_5 rfl rfl ?_
  obtain ⟨v26, hv26, hyp⟩ := jbind hyp
  refine jr_getR (pc := 6) C S lf_X12_19 rfl hv26 dX12_begin_6 ?_
  refine jr_iload_n (pc := 9) C L dX12_begin_9 rfl rfl ?_
  obtain ⟨v27, hv27, hyp⟩ := jbind hyp
  have iv27 := jra_in S hv27
  refine jr_ial (pc := 10) C S iv25 hv27 dX12_begin_10 ?_
  refine jr_istore_n (pc := 11) C L dX12_begin_11 rfl (Nat.le_of_ble_eq_true rfl) (fun ls L => ?_)
  have L : jL ls [some (jR B a0), some (jI v25), some (jI v27), none, none] := L
  refine jr_aload_n (pc := 12) C L dX12_begin_12 rfl rfl ?_
  refine jr_bipush (pc := 13) C dX12_begin_13 (by decide) ?_
  obtain ⟨m28, hm28, hyp⟩ := jbind hyp
  refine jr_putI (pc := 15) C S lf_X12_168 fp_X12_25 rfl (show jIn (-6) from ⟨by decide, by decide⟩) hm28 dX12_begin_15 (fun H locs S => ?_)
  refine jr_iload_n (pc := 18) C L dX12_begin_18 rfl rfl ?_
  refine jr_bipush (pc := 19) C dX12_begin_19 (by decide) ?_
  refine jr_bipush (pc := 21) C dX12_begin_21 (by decide) ?_
  obtain ⟨q29, hq29, hyp⟩ := jbind hyp
  refine jr_callS_I (pc := 23) C S L (As := [jI v27, jI 48, jI 55]) (rest := []) (c_X12_in (m0 := m28) iv27 (show jIn 48 from ⟨by decide, by decide⟩) (show jIn 55 from ⟨by decide, by decide⟩) hq29) ms_X12_in ml_X12_80 (by decide) rfl rfl rfl (Nat.le_of_ble_eq_true rfl) ⟨Nat.le_refl 0, Nat.le_refl 0⟩ dX12_begin_23 (fun p30 H locs S => ?_)
  refine jr_if_eq (pc := 26) C p30 (tgt := 40) dX12_begin_26 (by decide) (fun c31 => ?_) (fun c31 => ?_)
  · have hyp := (if_pos c31).symm.trans hyp
    refine jr_iload_n (pc := 40) C L dX12_begin_40 rfl rfl ?_
    refine jr_bipush (pc := 41) C dX12_begin_41 (by decide) ?_
    refine jr_icmp_ne (pc := 43) C iv27 (show jIn 59 from ⟨by decide, by decide⟩) (tgt := 63) dX12_begin_43 (by decide) (fun c32 => ?_) (fun c32 => ?_)
    · have hyp := (if_pos c32).symm.trans hyp
      refine jr_aload_n (pc := 46) C L dX12_begin_46 rfl rfl ?_
      refine jr_iload_n (pc := 47) C L dX12_begin_47 rfl rfl ?_
      refine jr_iconst (pc := 48) C dX12_begin_48 ?_
      refine jr_iconst (pc := 49) C dX12_begin_49 ?_
      obtain ⟨u33, hu33, hyp⟩ := jbind hyp
      obtain ⟨q34, hq34, hyp⟩ := jbind hyp
      refine jr_callV_N (pc := 50) C S L (As := [jI v25, jI 0, jI 0]) (rest := []) (c_X12_pile iv25 (show jIn 0 from ⟨by decide, by decide⟩) (show jIn 0 from ⟨by decide, by decide⟩) hq34) mv_X12_pile ml_X12_174 rfl (jck_spec hu33) (by decide) rfl rfl rfl (Nat.le_of_ble_eq_true rfl) ⟨Nat.le_refl 0, Nat.le_refl 0⟩ dX12_begin_50 (fun p35 H locs S => ?_)
      refine jr_aload_n (pc := 53) C L dX12_begin_53 rfl rfl ?_
      refine jr_iload_n (pc := 54) C L dX12_begin_54 rfl rfl ?_
      refine jr_iconst (pc := 55) C dX12_begin_55 ?_
      refine jr_iadd (pc := 56) C dX12_begin_56 ?_
      obtain ⟨m36, hm36, hyp⟩ := jbind hyp
      refine jr_putI (pc := 57) C S lf_X12_168 fp_X12_25 rfl (jIn_w _) hm36 dX12_begin_57 (fun H locs S => ?_)
      refine jr_goto (pc := 60) C (tgt := 216) dX12_begin_60 (by decide) ?_
      cases hyp
      exact jr_vret C S trivial dX12_begin_216
    · have hyp := (if_neg c32).symm.trans hyp
      refine jr_iload_n (pc := 63) C L dX12_begin_63 rfl rfl ?_
      refine jr_bipush (pc := 64) C dX12_begin_64 (by decide) ?_
      refine jr_icmp_ne (pc := 66) C iv27 (show jIn 63 from ⟨by decide, by decide⟩) (tgt := 138) dX12_begin_66 (by decide) (fun c37 => ?_) (fun c37 => ?_)
      · have hyp := (if_pos c37).symm.trans hyp
        refine jr_aload_n (pc := 69) C L dX12_begin_69 rfl rfl ?_
        refine jr_iconst (pc := 70) C dX12_begin_70 ?_
        obtain ⟨u38, hu38, hyp⟩ := jbind hyp
        obtain ⟨q39, hq39, hyp⟩ := jbind hyp
        refine jr_callV_I (pc := 71) C S L (As := [jI 2]) (rest := []) (c_X12_digit (show jIn 2 from ⟨by decide, by decide⟩) hq39) mv_X12_digit ml_X12_178 rfl (jck_spec hu38) (by decide) rfl rfl rfl (Nat.le_of_ble_eq_true rfl) ⟨Nat.le_refl 0, Nat.le_refl 0⟩ dX12_begin_71 (fun p40 H locs S => ?_)
        refine jr_istore_n (pc := 74) C L dX12_begin_74 rfl (Nat.le_of_ble_eq_true rfl) (fun ls L => ?_)
        have L : jL ls [some (jR B a0), some (jI v25), some (jI v27), some (jI q39.1), none] := L
        refine jr_aload_n (pc := 75) C L dX12_begin_75 rfl rfl ?_
        refine jr_iload_n (pc := 76) C L dX12_begin_76 rfl rfl ?_
        refine jr_iload_n (pc := 77) C L dX12_begin_77 rfl rfl ?_
        refine jr_if_ge (pc := 78) C p40 (tgt := 85) dX12_begin_78 (by decide) (fun c41 => ?_) (fun c41 => ?_)
        · have hyp := (if_pos c41).symm.trans hyp
          refine jr_iconst (pc := 81) C dX12_begin_81 ?_
          refine jr_goto (pc := 82) C (tgt := 86) dX12_begin_82 (by decide) ?_
          exact t_X12_begin_b86 C   iv25 p40 iv25 (show jIn 0 from ⟨by decide, by decide⟩) S (L.sub (jsub_s (jsub_s (jsub_n (jsub_s (jsub_n jsub_0)))))) hyp
        · have hyp := (if_neg c41).symm.trans hyp
          refine jr_iconst (pc := 85) C dX12_begin_85 ?_
          exact t_X12_begin_b86 C   iv25 p40 iv25 (show jIn 5 from ⟨by decide, by decide⟩) S (L.sub (jsub_s (jsub_s (jsub_n (jsub_s (jsub_n jsub_0)))))) hyp
      · have hyp := (if_neg c37).symm.trans hyp
        refine jr_iload_n (pc := 138) C L dX12_begin_138 rfl rfl ?_
        obtain ⟨q42, hq42, hyp⟩ := jbind hyp
        refine jr_callS_I (pc := 139) C S L (As := [jI v27]) (rest := []) (c_X12_isLoop (m0 := m28) iv27 hq42) ms_X12_isLoop ml_X12_91 (by decide) rfl rfl rfl (Nat.le_of_ble_eq_true rfl) ⟨Nat.le_refl 0, Nat.le_refl 0⟩ dX12_begin_139 (fun p43 H locs S => ?_)
        refine jr_if_eq (pc := 142) C p43 (tgt := 216) dX12_begin_142 (by decide) (fun c44 => ?_) (fun c44 => ?_)
        · have hyp := (if_pos c44).symm.trans hyp
          cases hyp
          exact jr_vret C S trivial dX12_begin_216
        · have hyp := (if_neg c44).symm.trans hyp
          refine jr_iload_n (pc := 145) C L dX12_begin_145 rfl rfl ?_
          obtain ⟨q45, hq45, hyp⟩ := jbind hyp
          refine jr_callS_I (pc := 146) C S L (As := [jI v27]) (rest := []) (c_X12_timesOf (m0 := m28) iv27 hq45) ms_X12_timesOf ml_X12_185 (by decide) rfl rfl rfl (Nat.le_of_ble_eq_true rfl) ⟨Nat.le_refl 0, Nat.le_refl 0⟩ dX12_begin_146 (fun p46 H locs S => ?_)
          refine jr_istore_n (pc := 149) C L dX12_begin_149 rfl (Nat.le_of_ble_eq_true rfl) (fun ls L => ?_)
          have L : jL ls [some (jR B a0), some (jI v25), some (jI v27), some (jI q45), none] := L
          refine jr_aload_n (pc := 150) C L dX12_begin_150 rfl rfl ?_
          refine jr_iload_n (pc := 151) C L dX12_begin_151 rfl rfl ?_
          refine jr_iconst (pc := 152) C dX12_begin_152 ?_
          refine jr_iadd (pc := 153) C dX12_begin_153 ?_
          obtain ⟨u47, hu47, hyp⟩ := jbind hyp
          obtain ⟨q48, hq48, hyp⟩ := jbind hyp
          refine jr_callV_I (pc := 154) C S L (As := [jI (jw (q45 + 1))]) (rest := []) (c_X12_digit (jIn_w _) hq48) mv_X12_digit ml_X12_178 rfl (jck_spec hu47) (by decide) rfl rfl rfl (Nat.le_of_ble_eq_true rfl) ⟨Nat.le_refl 0, Nat.le_refl 0⟩ dX12_begin_154 (fun p49 H locs S => ?_)
          refine jr_istore (pc := 157) C L dX12_begin_157 (Nat.le_of_ble_eq_true rfl) (fun ls L => ?_)
          have L : jL ls [some (jR B a0), some (jI v25), some (jI v27), some (jI q45), some (jI q48.1)] := L
          refine jr_iload (pc := 159) C L dX12_begin_159 rfl ?_
          refine jr_if_eq (pc := 161) C p49 (tgt := 216) dX12_begin_161 (by decide) (fun c50 => ?_) (fun c50 => ?_)
          · have hyp := (if_pos c50).symm.trans hyp
            cases hyp
            exact jr_vret C S trivial dX12_begin_216
          · have hyp := (if_neg c50).symm.trans hyp
            refine jr_aload_n (pc := 164) C L dX12_begin_164 rfl rfl ?_
            refine jr_iload_n (pc := 165) C L dX12_begin_165 rfl rfl ?_
            refine jr_iload (pc := 166) C L dX12_begin_166 rfl ?_
            refine jr_if_ge (pc := 168) C p49 (tgt := 175) dX12_begin_168 (by decide) (fun c51 => ?_) (fun c51 => ?_)
            · have hyp := (if_pos c51).symm.trans hyp
              refine jr_iconst (pc := 171) C dX12_begin_171 ?_
              refine jr_goto (pc := 172) C (tgt := 176) dX12_begin_172 (by decide) ?_
              exact t_X12_begin_b176 C   iv25 p46 p49 iv25 (show jIn 0 from ⟨by decide, by decide⟩) S (L.sub (jsub_s (jsub_s (jsub_n (jsub_s (jsub_s jsub_0)))))) hyp
            · have hyp := (if_neg c51).symm.trans hyp
              refine jr_iconst (pc := 175) C dX12_begin_175 ?_
              exact t_X12_begin_b176 C   iv25 p46 p49 iv25 (show jIn 5 from ⟨by decide, by decide⟩) S (L.sub (jsub_s (jsub_s (jsub_n (jsub_s (jsub_s jsub_0)))))) hyp
  · have hyp := (if_neg c31).symm.trans hyp
    refine jr_aload_n (pc := 29) C L dX12_begin_29 rfl rfl ?_
    refine jr_iload_n (pc := 30) C L dX12_begin_30 rfl rfl ?_
    refine jr_bipush (pc := 31) C dX12_begin_31 (by decide) ?_
    refine jr_isub (pc := 33) C dX12_begin_33 ?_
    obtain ⟨u52, hu52, hyp⟩ := jbind hyp
    obtain ⟨q53, hq53, hyp⟩ := jbind hyp
    refine jr_callV_N (pc := 34) C S L (As := [jI (jw (v27 - 48))]) (rest := []) (c_X12_fetchAll (jIn_w _) hq53) mv_X12_fetchAll ml_X12_171 rfl (jck_spec hu52) (by decide) rfl rfl rfl (Nat.le_of_ble_eq_true rfl) ⟨Nat.le_refl 0, Nat.le_refl 0⟩ dX12_begin_34 (fun p54 H locs S => ?_)
    refine jr_goto (pc := 37) C (tgt := 216) dX12_begin_37 (by decide) ?_
    cases hyp
    exact jr_vret C S trivial dX12_begin_216
theorem c_X12_begin {l : Launch} {D : va_G} {cy : Nat → ClassId} {B sz : Nat} {sh : jm_S} {res : jm_M} {N : Nat} {m : jm_M} {a0 : Nat} (hyp : f_X12_begin N sh a0 m = some res) : jCt l D cy B sz sh 4 yX12_begin cX12_begin 5 none [jR B a0] m none res True :=
  jc_of (by decide) (fun v h => by rw [List.mem_singleton.mp h]; first | rfl | exact jR_cat _ _) (Nat.le_of_ble_eq_true rfl) (fun C S L => t_X12_begin_e C   S L hyp)
set_option maxHeartbeats 4000000 in
set_option maxRecDepth 100000 in
theorem t_X12_come_b220 {p : Program} {l : Launch} {e : Env} {s : State} {mi : MethodId} {args : Array Value} {below : List Frame} {meth : Method} {c : Code} {D : va_G} {cy : Nat → ClassId} {B sz : Nat} {sh : jm_S} {res : jm_M} {N : Nat} (C : jCx p s mi args meth c cX12_come 5 RX12 none D cy) {a0 : Nat} {m : jm_M} {H : Heap} {locs : List Loc} {ls : Array Slot} (S : jHs D cy B sz sh (jA B sz) s.heap H locs m) (L : jL ls [some (jR B a0), none, none, none, none]) (hyp : f_X12_come_b220 N sh a0 m = some res) : W p l e (jrm 2 0 0) s mi args below meth c H locs 0 0 (MQ below (jQc D cy B sz sh res none True) args s 0 0 (jA B sz)) (F0 mi 220 ls []) := by
  unfold f_X12_come_b220 at hyp
  refine jr_aload_n (pc := 220) C L dX12_come_220 rfl rfl ?_
  refine jr_dupR (pc := 221) C dX12_come_221 ?_
  obtain ⟨v1, hv1, hyp⟩ := jbind hyp
  have iv1 := jrf_in S hv1
  refine jr_getI (pc := 222) C S lf_X12_165 rfl hv1 dX12_come_222 ?_
  refine jr_iconst (pc := 225) C dX12_come_225 ?_
  refine jr_isub (pc := 226) C dX12_come_226 ?_
  obtain ⟨m2, hm2, hyp⟩ := jbind hyp
  refine jr_putI (pc := 227) C S lf_X12_165 fp_X12_12 rfl (jIn_w _) hm2 dX12_come_227 (fun H locs S => ?_)
  cases hyp
  exact jr_vret C S trivial dX12_come_230
set_option maxHeartbeats 4000000 in
set_option maxRecDepth 100000 in
theorem t_X12_come_b212 {p : Program} {l : Launch} {e : Env} {s : State} {mi : MethodId} {args : Array Value} {below : List Frame} {meth : Method} {c : Code} {D : va_G} {cy : Nat → ClassId} {B sz : Nat} {sh : jm_S} {res : jm_M} {N : Nat} (C : jCx p s mi args meth c cX12_come 5 RX12 none D cy) {a0 : Nat} {x2 : Int} (h_x2 : jIn x2) {m : jm_M} {H : Heap} {locs : List Loc} {ls : Array Slot} (S : jHs D cy B sz sh (jA B sz) s.heap H locs m) (L : jL ls [some (jR B a0), none, some (jI x2), none, none]) (hyp : f_X12_come_b212 N sh a0 x2 m = some res) : W p l e (jrm 2 0 0) s mi args below meth c H locs 0 0 (MQ below (jQc D cy B sz sh res none True) args s 0 0 (jA B sz)) (F0 mi 212 ls []) := by
  unfold f_X12_come_b212 at hyp
  refine jr_aload_n (pc := 212) C L dX12_come_212 rfl rfl ?_
  refine jr_iload_n (pc := 213) C L dX12_come_213 rfl rfl ?_
  refine jr_iconst (pc := 214) C dX12_come_214 ?_
  refine jr_iadd (pc := 215) C dX12_come_215 ?_
  obtain ⟨m3, hm3, hyp⟩ := jbind hyp
  refine jr_putI (pc := 216) C S lf_X12_168 fp_X12_25 rfl (jIn_w _) hm3 dX12_come_216 (fun H locs S => ?_)
  cases hyp
  exact jr_vret C S trivial dX12_come_219
set_option maxHeartbeats 4000000 in
set_option maxRecDepth 100000 in
theorem t_X12_come_b189 {p : Program} {l : Launch} {e : Env} {s : State} {mi : MethodId} {args : Array Value} {below : List Frame} {meth : Method} {c : Code} {D : va_G} {cy : Nat → ClassId} {B sz : Nat} {sh : jm_S} {res : jm_M} {N : Nat} (C : jCx p s mi args meth c cX12_come 5 RX12 none D cy) {a0 : Nat} {x1 : Int} (h_x1 : jIn x1) {x2 : Int} (h_x2 : jIn x2) {x4 : Int} (h_x4 : jIn x4) {m : jm_M} {H : Heap} {locs : List Loc} {ls : Array Slot} (S : jHs D cy B sz sh (jA B sz) s.heap H locs m) (L : jL ls [some (jR B a0), some (jI x1), some (jI x2), none, some (jI x4)]) (hyp : f_X12_come_b189 N sh a0 x1 x2 x4 m = some res) : W p l e (jrm 2 0 0) s mi args below meth c H locs 0 0 (MQ below (jQc D cy B sz sh res none True) args s 0 0 (jA B sz)) (F0 mi 189 ls []) := by
  unfold f_X12_come_b189 at hyp
  refine jr_aload_n (pc := 189) C L dX12_come_189 rfl rfl ?_
  obtain ⟨v4, hv4, hyp⟩ := jbind hyp
  refine jr_getR (pc := 190) C S lf_X12_43 rfl hv4 dX12_come_190 ?_
  refine jr_iload_n (pc := 193) C L dX12_come_193 rfl rfl ?_
  obtain ⟨v5, hv5, hyp⟩ := jbind hyp
  have iv5 := jra_in S hv5
  refine jr_ial (pc := 194) C S h_x1 hv5 dX12_come_194 ?_
  refine jr_if_le (pc := 195) C iv5 (tgt := 220) dX12_come_195 (by decide) (fun c6 => ?_) (fun c6 => ?_)
  · have hyp := (if_pos c6).symm.trans hyp
    refine jr_iload (pc := 198) C L dX12_come_198 rfl ?_
    refine jr_if_eq (pc := 200) C h_x4 (tgt := 212) dX12_come_200 (by decide) (fun c7 => ?_) (fun c7 => ?_)
    · have hyp := (if_pos c7).symm.trans hyp
      exact t_X12_come_b212 C   h_x2 S (L.sub (jsub_s (jsub_n (jsub_s (jsub_n (jsub_n jsub_0)))))) hyp
    · have hyp := (if_neg c7).symm.trans hyp
      refine jr_aload_n (pc := 203) C L dX12_come_203 rfl rfl ?_
      refine jr_aload_n (pc := 204) C L dX12_come_204 rfl rfl ?_
      obtain ⟨v8, hv8, hyp⟩ := jbind hyp
      refine jr_getR (pc := 205) C S lf_X12_49 rfl hv8 dX12_come_205 ?_
      refine jr_iload_n (pc := 208) C L dX12_come_208 rfl rfl ?_
      obtain ⟨u9, hu9, hyp⟩ := jbind hyp
      obtain ⟨q10, hq10, hyp⟩ := jbind hyp
      refine jr_callV_N (pc := 209) C S L (As := [jR B v8.toNat, jI x1]) (rest := []) (c_X12_copyFrom h_x1 hq10) mv_X12_copyFrom ml_X12_188 rfl (jck_spec hu9) (by decide) rfl rfl rfl (Nat.le_of_ble_eq_true rfl) ⟨Nat.le_refl 0, Nat.le_refl 0⟩ dX12_come_209 (fun p11 H locs S => ?_)
      exact t_X12_come_b212 C   h_x2 S (L.sub (jsub_s (jsub_n (jsub_s (jsub_n (jsub_n jsub_0)))))) hyp
  · have hyp := (if_neg c6).symm.trans hyp
    exact t_X12_come_b220 C    S (L.sub (jsub_s (jsub_n (jsub_n (jsub_n (jsub_n jsub_0)))))) hyp
set_option maxHeartbeats 4000000 in
set_option maxRecDepth 100000 in
theorem t_X12_come_b155 {p : Program} {l : Launch} {e : Env} {s : State} {mi : MethodId} {args : Array Value} {below : List Frame} {meth : Method} {c : Code} {D : va_G} {cy : Nat → ClassId} {B sz : Nat} {sh : jm_S} {res : jm_M} {N : Nat} (C : jCx p s mi args meth c cX12_come 5 RX12 none D cy) {a0 : Nat} {x1 : Int} (h_x1 : jIn x1) {x2 : Int} (h_x2 : jIn x2) {s0 : Int} (h_s0 : jIn s0) {m : jm_M} {H : Heap} {locs : List Loc} {ls : Array Slot} (S : jHs D cy B sz sh (jA B sz) s.heap H locs m) (L : jL ls [some (jR B a0), some (jI x1), some (jI x2), none, none]) (hyp : f_X12_come_b155 N sh a0 x1 x2 s0 m = some res) : W p l e (jrm 2 0 0) s mi args below meth c H locs 0 0 (MQ below (jQc D cy B sz sh res none True) args s 0 0 (jA B sz)) (F0 mi 155 ls [jI s0]) := by
  unfold f_X12_come_b155 at hyp
  refine jr_istore (pc := 155) C L dX12_come_155 (Nat.le_of_ble_eq_true rfl) (fun ls L => ?_)
  have L : jL ls [some (jR B a0), some (jI x1), some (jI x2), none, some (jI s0)] := L
  refine jr_iload (pc := 157) C L dX12_come_157 rfl ?_
  refine jr_if_eq (pc := 159) C h_s0 (tgt := 189) dX12_come_159 (by decide) (fun c12 => ?_) (fun c12 => ?_)
  · have hyp := (if_pos c12).symm.trans hyp
    exact t_X12_come_b189 C   h_x1 h_x2 h_s0 S (L.sub (jsub_s (jsub_s (jsub_s (jsub_n (jsub_s jsub_0)))))) hyp
  · have hyp := (if_neg c12).symm.trans hyp
    refine jr_aload_n (pc := 162) C L dX12_come_162 rfl rfl ?_
    refine jr_aload_n (pc := 163) C L dX12_come_163 rfl rfl ?_
    obtain ⟨v13, hv13, hyp⟩ := jbind hyp
    refine jr_getR (pc := 164) C S lf_X12_49 rfl hv13 dX12_come_164 ?_
    refine jr_iload_n (pc := 167) C L dX12_come_167 rfl rfl ?_
    obtain ⟨u14, hu14, hyp⟩ := jbind hyp
    obtain ⟨q15, hq15, hyp⟩ := jbind hyp
    refine jr_callV_N (pc := 168) C S L (As := [jR B v13.toNat, jI x1]) (rest := []) (c_X12_keep h_x1 hq15) mv_X12_keep ml_X12_181 rfl (jck_spec hu14) (by decide) rfl rfl rfl (Nat.le_of_ble_eq_true rfl) ⟨Nat.le_refl 0, Nat.le_refl 0⟩ dX12_come_168 (fun p16 H locs S => ?_)
    refine jr_aload_n (pc := 171) C L dX12_come_171 rfl rfl ?_
    refine jr_aload_n (pc := 172) C L dX12_come_172 rfl rfl ?_
    obtain ⟨v17, hv17, hyp⟩ := jbind hyp
    refine jr_getR (pc := 173) C S lf_X12_46 rfl hv17 dX12_come_173 ?_
    refine jr_iload_n (pc := 176) C L dX12_come_176 rfl rfl ?_
    obtain ⟨u18, hu18, hyp⟩ := jbind hyp
    obtain ⟨q19, hq19, hyp⟩ := jbind hyp
    refine jr_callV_N (pc := 177) C S L (As := [jR B v17.toNat, jI x1]) (rest := []) (c_X12_joinFrom h_x1 hq19) mv_X12_joinFrom ml_X12_191 rfl (jck_spec hu18) (by decide) rfl rfl rfl (Nat.le_of_ble_eq_true rfl) ⟨Nat.le_refl 0, Nat.le_refl 0⟩ dX12_come_177 (fun p20 H locs S => ?_)
    refine jr_aload_n (pc := 180) C L dX12_come_180 rfl rfl ?_
    refine jr_aload_n (pc := 181) C L dX12_come_181 rfl rfl ?_
    obtain ⟨v21, hv21, hyp⟩ := jbind hyp
    refine jr_getR (pc := 182) C S lf_X12_46 rfl hv21 dX12_come_182 ?_
    refine jr_iload_n (pc := 185) C L dX12_come_185 rfl rfl ?_
    obtain ⟨u22, hu22, hyp⟩ := jbind hyp
    obtain ⟨q23, hq23, hyp⟩ := jbind hyp
    refine jr_callV_N (pc := 186) C S L (As := [jR B v21.toNat, jI x1]) (rest := []) (c_X12_keep h_x1 hq23) mv_X12_keep ml_X12_181 rfl (jck_spec hu22) (by decide) rfl rfl rfl (Nat.le_of_ble_eq_true rfl) ⟨Nat.le_refl 0, Nat.le_refl 0⟩ dX12_come_186 (fun p24 H locs S => ?_)
    exact t_X12_come_b189 C   h_x1 h_x2 h_s0 S (L.sub (jsub_s (jsub_s (jsub_s (jsub_n (jsub_s jsub_0)))))) hyp
set_option maxHeartbeats 4000000 in
set_option maxRecDepth 100000 in
theorem t_X12_come_b124 {p : Program} {l : Launch} {e : Env} {s : State} {mi : MethodId} {args : Array Value} {below : List Frame} {meth : Method} {c : Code} {D : va_G} {cy : Nat → ClassId} {B sz : Nat} {sh : jm_S} {res : jm_M} {N : Nat} (C : jCx p s mi args meth c cX12_come 5 RX12 none D cy) {a0 : Nat} {x1 : Int} (h_x1 : jIn x1) {x2 : Int} (h_x2 : jIn x2) {x3 : Int} (h_x3 : jIn x3) {m : jm_M} {H : Heap} {locs : List Loc} {ls : Array Slot} (S : jHs D cy B sz sh (jA B sz) s.heap H locs m) (L : jL ls [some (jR B a0), some (jI x1), some (jI x2), some (jI x3), none]) (hyp : f_X12_come_b124 N sh a0 x1 x2 x3 m = some res) : W p l e (jrm 2 0 0) s mi args below meth c H locs 0 0 (MQ below (jQc D cy B sz sh res none True) args s 0 0 (jA B sz)) (F0 mi 124 ls []) := by
  unfold f_X12_come_b124 at hyp
  refine jr_iload_n (pc := 124) C L dX12_come_124 rfl rfl ?_
  obtain ⟨q25, hq25, hyp⟩ := jbind hyp
  refine jr_callS_I (pc := 125) C S L (As := [jI x3]) (rest := []) (c_X12_isLoop (m0 := m) h_x3 hq25) ms_X12_isLoop ml_X12_91 (by decide) rfl rfl rfl (Nat.le_of_ble_eq_true rfl) ⟨Nat.le_refl 0, Nat.le_refl 0⟩ dX12_come_125 (fun p26 H locs S => ?_)
  refine jr_if_eq (pc := 128) C p26 (tgt := 220) dX12_come_128 (by decide) (fun c27 => ?_) (fun c27 => ?_)
  · have hyp := (if_pos c27).symm.trans hyp
    exact t_X12_come_b220 C    S (L.sub (jsub_s (jsub_n (jsub_n (jsub_n (jsub_n jsub_0)))))) hyp
  · have hyp := (if_neg c27).symm.trans hyp
    refine jr_aload_n (pc := 131) C L dX12_come_131 rfl rfl ?_
    obtain ⟨v28, hv28, hyp⟩ := jbind hyp
    refine jr_getR (pc := 132) C S lf_X12_43 rfl hv28 dX12_come_132 ?_
    refine jr_iload_n (pc := 135) C L dX12_come_135 rfl rfl ?_
    refine jr_dup2 (pc := 136) C dX12_come_136 ?_
    obtain ⟨v29, hv29, hyp⟩ := jbind hyp
    have iv29 := jra_in S hv29
    refine jr_ial (pc := 137) C S h_x1 hv29 dX12_come_137 ?_
    refine jr_iconst (pc := 138) C dX12_come_138 ?_
    refine jr_isub (pc := 139) C dX12_come_139 ?_
    obtain ⟨m30, hm30, hyp⟩ := jbind hyp
    refine jr_ias (pc := 140) C S h_x1 (jIn_w _) hm30 dX12_come_140 (fun H locs S => ?_)
    refine jr_aload_n (pc := 141) C L dX12_come_141 rfl rfl ?_
    obtain ⟨v31, hv31, hyp⟩ := jbind hyp
    refine jr_getR (pc := 142) C S lf_X12_40 rfl hv31 dX12_come_142 ?_
    refine jr_iload_n (pc := 145) C L dX12_come_145 rfl rfl ?_
    obtain ⟨v32, hv32, hyp⟩ := jbind hyp
    have iv32 := jra_in S hv32
    refine jr_ial (pc := 146) C S h_x1 hv32 dX12_come_146 ?_
    refine jr_if_ne (pc := 147) C iv32 (tgt := 154) dX12_come_147 (by decide) (fun c33 => ?_) (fun c33 => ?_)
    · have hyp := (if_pos c33).symm.trans hyp
      refine jr_iconst (pc := 150) C dX12_come_150 ?_
      refine jr_goto (pc := 151) C (tgt := 155) dX12_come_151 (by decide) ?_
      exact t_X12_come_b155 C   h_x1 h_x2 (show jIn 1 from ⟨by decide, by decide⟩) S (L.sub (jsub_s (jsub_s (jsub_s (jsub_n (jsub_n jsub_0)))))) hyp
    · have hyp := (if_neg c33).symm.trans hyp
      refine jr_iconst (pc := 154) C dX12_come_154 ?_
      exact t_X12_come_b155 C   h_x1 h_x2 (show jIn 0 from ⟨by decide, by decide⟩) S (L.sub (jsub_s (jsub_s (jsub_s (jsub_n (jsub_n jsub_0)))))) hyp
set_option maxHeartbeats 4000000 in
set_option maxRecDepth 100000 in
theorem t_X12_come_b99 {p : Program} {l : Launch} {e : Env} {s : State} {mi : MethodId} {args : Array Value} {below : List Frame} {meth : Method} {c : Code} {D : va_G} {cy : Nat → ClassId} {B sz : Nat} {sh : jm_S} {res : jm_M} {N : Nat} (C : jCx p s mi args meth c cX12_come 5 RX12 none D cy) {a0 : Nat} {x1 : Int} (h_x1 : jIn x1) {x2 : Int} (h_x2 : jIn x2) {x3 : Int} (h_x3 : jIn x3) {m : jm_M} {H : Heap} {locs : List Loc} {ls : Array Slot} (S : jHs D cy B sz sh (jA B sz) s.heap H locs m) (L : jL ls [some (jR B a0), some (jI x1), some (jI x2), some (jI x3), none]) (hyp : f_X12_come_b99 N sh a0 x1 x2 x3 m = some res) : W p l e (jrm 2 0 0) s mi args below meth c H locs 0 0 (MQ below (jQc D cy B sz sh res none True) args s 0 0 (jA B sz)) (F0 mi 99 ls []) := by
  unfold f_X12_come_b99 at hyp
  refine jr_iload_n (pc := 99) C L dX12_come_99 rfl rfl ?_
  refine jr_bipush (pc := 100) C dX12_come_100 (by decide) ?_
  refine jr_icmp_ne (pc := 102) C h_x3 (show jIn 63 from ⟨by decide, by decide⟩) (tgt := 124) dX12_come_102 (by decide) (fun c34 => ?_) (fun c34 => ?_)
  · have hyp := (if_pos c34).symm.trans hyp
    refine jr_aload_n (pc := 105) C L dX12_come_105 rfl rfl ?_
    obtain ⟨v35, hv35, hyp⟩ := jbind hyp
    refine jr_getR (pc := 106) C S lf_X12_40 rfl hv35 dX12_come_106 ?_
    refine jr_iload_n (pc := 109) C L dX12_come_109 rfl rfl ?_
    obtain ⟨v36, hv36, hyp⟩ := jbind hyp
    have iv36 := jra_in S hv36
    refine jr_ial (pc := 110) C S h_x1 hv36 dX12_come_110 ?_
    refine jr_iconst (pc := 111) C dX12_come_111 ?_
    refine jr_icmp_ne (pc := 112) C iv36 (show jIn 1 from ⟨by decide, by decide⟩) (tgt := 124) dX12_come_112 (by decide) (fun c37 => ?_) (fun c37 => ?_)
    · have hyp := (if_pos c37).symm.trans hyp
      refine jr_aload_n (pc := 115) C L dX12_come_115 rfl rfl ?_
      refine jr_aload_n (pc := 116) C L dX12_come_116 rfl rfl ?_
      obtain ⟨v38, hv38, hyp⟩ := jbind hyp
      refine jr_getR (pc := 117) C S lf_X12_49 rfl hv38 dX12_come_117 ?_
      refine jr_iload_n (pc := 120) C L dX12_come_120 rfl rfl ?_
      obtain ⟨u39, hu39, hyp⟩ := jbind hyp
      obtain ⟨q40, hq40, hyp⟩ := jbind hyp
      refine jr_callV_N (pc := 121) C S L (As := [jR B v38.toNat, jI x1]) (rest := []) (c_X12_joinFrom h_x1 hq40) mv_X12_joinFrom ml_X12_191 rfl (jck_spec hu39) (by decide) rfl rfl rfl (Nat.le_of_ble_eq_true rfl) ⟨Nat.le_refl 0, Nat.le_refl 0⟩ dX12_come_121 (fun p41 H locs S => ?_)
      exact t_X12_come_b124 C   h_x1 h_x2 h_x3 S (L.sub (jsub_s (jsub_s (jsub_s (jsub_s (jsub_n jsub_0)))))) hyp
    · have hyp := (if_neg c37).symm.trans hyp
      exact t_X12_come_b124 C   h_x1 h_x2 h_x3 S (L.sub (jsub_s (jsub_s (jsub_s (jsub_s (jsub_n jsub_0)))))) hyp
  · have hyp := (if_neg c34).symm.trans hyp
    exact t_X12_come_b124 C   h_x1 h_x2 h_x3 S (L.sub (jsub_s (jsub_s (jsub_s (jsub_s (jsub_n jsub_0)))))) hyp
set_option maxHeartbeats 4000000 in
set_option maxRecDepth 100000 in
theorem t_X12_come_b75 {p : Program} {l : Launch} {e : Env} {s : State} {mi : MethodId} {args : Array Value} {below : List Frame} {meth : Method} {c : Code} {D : va_G} {cy : Nat → ClassId} {B sz : Nat} {sh : jm_S} {res : jm_M} {N : Nat} (C : jCx p s mi args meth c cX12_come 5 RX12 none D cy) {a0 : Nat} {x1 : Int} (h_x1 : jIn x1) {x2 : Int} (h_x2 : jIn x2) {m : jm_M} {H : Heap} {locs : List Loc} {ls : Array Slot} (S : jHs D cy B sz sh (jA B sz) s.heap H locs m) (L : jL ls [some (jR B a0), some (jI x1), some (jI x2), none, none]) (hyp : f_X12_come_b75 N sh a0 x1 x2 m = some res) : W p l e (jrm 2 0 0) s mi args below meth c H locs 0 0 (MQ below (jQc D cy B sz sh res none True) args s 0 0 (jA B sz)) (F0 mi 75 ls []) := by
  unfold f_X12_come_b75 at hyp
  refine jr_aload_n (pc := 75) C L dX12_come_75 rfl rfl ?_
  obtain ⟨v42, hv42, hyp⟩ := jbind hyp
  refine jr_getR (pc := 76) C S lf_X12_40 rfl hv42 dX12_come_76 ?_
  refine jr_iload_n (pc := 79) C L dX12_come_79 rfl rfl ?_
  refine jr_iconst (pc := 80) C dX12_come_80 ?_
  obtain ⟨m43, hm43, hyp⟩ := jbind hyp
  refine jr_ias (pc := 81) C S h_x1 (show jIn 1 from ⟨by decide, by decide⟩) hm43 dX12_come_81 (fun H locs S => ?_)
  refine jr_aload_n (pc := 82) C L dX12_come_82 rfl rfl ?_
  refine jr_iload_n (pc := 83) C L dX12_come_83 rfl rfl ?_
  refine jr_iconst (pc := 84) C dX12_come_84 ?_
  refine jr_iadd (pc := 85) C dX12_come_85 ?_
  refine jr_aload_n (pc := 86) C L dX12_come_86 rfl rfl ?_
  obtain ⟨v44, hv44, hyp⟩ := jbind hyp
  refine jr_getR (pc := 87) C S lf_X12_22 rfl hv44 dX12_come_87 ?_
  refine jr_iload_n (pc := 90) C L dX12_come_90 rfl rfl ?_
  refine jr_iconst (pc := 91) C dX12_come_91 ?_
  refine jr_iadd (pc := 92) C dX12_come_92 ?_
  obtain ⟨v45, hv45, hyp⟩ := jbind hyp
  have iv45 := jra_in S hv45
  refine jr_ial (pc := 93) C S (jIn_w _) hv45 dX12_come_93 ?_
  refine jr_iadd (pc := 94) C dX12_come_94 ?_
  obtain ⟨m46, hm46, hyp⟩ := jbind hyp
  refine jr_putI (pc := 95) C S lf_X12_168 fp_X12_25 rfl (jIn_w _) hm46 dX12_come_95 (fun H locs S => ?_)
  cases hyp
  exact jr_vret C S trivial dX12_come_98
set_option maxHeartbeats 4000000 in
set_option maxRecDepth 100000 in
theorem t_X12_come_b51 {p : Program} {l : Launch} {e : Env} {s : State} {mi : MethodId} {args : Array Value} {below : List Frame} {meth : Method} {c : Code} {D : va_G} {cy : Nat → ClassId} {B sz : Nat} {sh : jm_S} {res : jm_M} {N : Nat} (C : jCx p s mi args meth c cX12_come 5 RX12 none D cy) {a0 : Nat} {x1 : Int} (h_x1 : jIn x1) {x2 : Int} (h_x2 : jIn x2) {x3 : Int} (h_x3 : jIn x3) {m : jm_M} {H : Heap} {locs : List Loc} {ls : Array Slot} (S : jHs D cy B sz sh (jA B sz) s.heap H locs m) (L : jL ls [some (jR B a0), some (jI x1), some (jI x2), some (jI x3), none]) (hyp : f_X12_come_b51 N sh a0 x1 x2 x3 m = some res) : W p l e (jrm 2 0 0) s mi args below meth c H locs 0 0 (MQ below (jQc D cy B sz sh res none True) args s 0 0 (jA B sz)) (F0 mi 51 ls []) := by
  unfold f_X12_come_b51 at hyp
  refine jr_iload_n (pc := 51) C L dX12_come_51 rfl rfl ?_
  refine jr_bipush (pc := 52) C dX12_come_52 (by decide) ?_
  refine jr_icmp_ne (pc := 54) C h_x3 (show jIn 63 from ⟨by decide, by decide⟩) (tgt := 75) dX12_come_54 (by decide) (fun c47 => ?_) (fun c47 => ?_)
  · have hyp := (if_pos c47).symm.trans hyp
    refine jr_aload_n (pc := 57) C L dX12_come_57 rfl rfl ?_
    refine jr_aload_n (pc := 58) C L dX12_come_58 rfl rfl ?_
    obtain ⟨v48, hv48, hyp⟩ := jbind hyp
    refine jr_getR (pc := 59) C S lf_X12_49 rfl hv48 dX12_come_59 ?_
    refine jr_iload_n (pc := 62) C L dX12_come_62 rfl rfl ?_
    obtain ⟨u49, hu49, hyp⟩ := jbind hyp
    obtain ⟨q50, hq50, hyp⟩ := jbind hyp
    refine jr_callV_N (pc := 63) C S L (As := [jR B v48.toNat, jI x1]) (rest := []) (c_X12_keep h_x1 hq50) mv_X12_keep ml_X12_181 rfl (jck_spec hu49) (by decide) rfl rfl rfl (Nat.le_of_ble_eq_true rfl) ⟨Nat.le_refl 0, Nat.le_refl 0⟩ dX12_come_63 (fun p51 H locs S => ?_)
    refine jr_aload_n (pc := 66) C L dX12_come_66 rfl rfl ?_
    refine jr_aload_n (pc := 67) C L dX12_come_67 rfl rfl ?_
    obtain ⟨v52, hv52, hyp⟩ := jbind hyp
    refine jr_getR (pc := 68) C S lf_X12_46 rfl hv52 dX12_come_68 ?_
    refine jr_iload_n (pc := 71) C L dX12_come_71 rfl rfl ?_
    obtain ⟨u53, hu53, hyp⟩ := jbind hyp
    obtain ⟨q54, hq54, hyp⟩ := jbind hyp
    refine jr_callV_N (pc := 72) C S L (As := [jR B v52.toNat, jI x1]) (rest := []) (c_X12_copyFrom h_x1 hq54) mv_X12_copyFrom ml_X12_188 rfl (jck_spec hu53) (by decide) rfl rfl rfl (Nat.le_of_ble_eq_true rfl) ⟨Nat.le_refl 0, Nat.le_refl 0⟩ dX12_come_72 (fun p55 H locs S => ?_)
    exact t_X12_come_b75 C   h_x1 h_x2 S (L.sub (jsub_s (jsub_s (jsub_s (jsub_n (jsub_n jsub_0)))))) hyp
  · have hyp := (if_neg c47).symm.trans hyp
    exact t_X12_come_b75 C   h_x1 h_x2 S (L.sub (jsub_s (jsub_s (jsub_s (jsub_n (jsub_n jsub_0)))))) hyp
set_option maxHeartbeats 4000000 in
set_option maxRecDepth 100000 in
theorem t_X12_come_b36 {p : Program} {l : Launch} {e : Env} {s : State} {mi : MethodId} {args : Array Value} {below : List Frame} {meth : Method} {c : Code} {D : va_G} {cy : Nat → ClassId} {B sz : Nat} {sh : jm_S} {res : jm_M} {N : Nat} (C : jCx p s mi args meth c cX12_come 5 RX12 none D cy) {a0 : Nat} {x1 : Int} (h_x1 : jIn x1) {x2 : Int} (h_x2 : jIn x2) {x3 : Int} (h_x3 : jIn x3) {m : jm_M} {H : Heap} {locs : List Loc} {ls : Array Slot} (S : jHs D cy B sz sh (jA B sz) s.heap H locs m) (L : jL ls [some (jR B a0), some (jI x1), some (jI x2), some (jI x3), none]) (hyp : f_X12_come_b36 N sh a0 x1 x2 x3 m = some res) : W p l e (jrm 2 0 0) s mi args below meth c H locs 0 0 (MQ below (jQc D cy B sz sh res none True) args s 0 0 (jA B sz)) (F0 mi 36 ls []) := by
  unfold f_X12_come_b36 at hyp
  refine jr_iload_n (pc := 36) C L dX12_come_36 rfl rfl ?_
  refine jr_bipush (pc := 37) C dX12_come_37 (by decide) ?_
  refine jr_icmp_ne (pc := 39) C h_x3 (show jIn 63 from ⟨by decide, by decide⟩) (tgt := 99) dX12_come_39 (by decide) (fun c56 => ?_) (fun c56 => ?_)
  · have hyp := (if_pos c56).symm.trans hyp
    refine jr_aload_n (pc := 42) C L dX12_come_42 rfl rfl ?_
    obtain ⟨v57, hv57, hyp⟩ := jbind hyp
    refine jr_getR (pc := 43) C S lf_X12_40 rfl hv57 dX12_come_43 ?_
    refine jr_iload_n (pc := 46) C L dX12_come_46 rfl rfl ?_
    obtain ⟨v58, hv58, hyp⟩ := jbind hyp
    have iv58 := jra_in S hv58
    refine jr_ial (pc := 47) C S h_x1 hv58 dX12_come_47 ?_
    refine jr_if_ne (pc := 48) C iv58 (tgt := 99) dX12_come_48 (by decide) (fun c59 => ?_) (fun c59 => ?_)
    · have hyp := (if_pos c59).symm.trans hyp
      exact t_X12_come_b51 C   h_x1 h_x2 h_x3 S (L.sub (jsub_s (jsub_s (jsub_s (jsub_s (jsub_n jsub_0)))))) hyp
    · have hyp := (if_neg c59).symm.trans hyp
      exact t_X12_come_b99 C   h_x1 h_x2 h_x3 S (L.sub (jsub_s (jsub_s (jsub_s (jsub_s (jsub_n jsub_0)))))) hyp
  · have hyp := (if_neg c56).symm.trans hyp
    exact t_X12_come_b99 C   h_x1 h_x2 h_x3 S (L.sub (jsub_s (jsub_s (jsub_s (jsub_s (jsub_n jsub_0)))))) hyp
set_option maxHeartbeats 4000000 in
set_option maxRecDepth 100000 in
theorem t_X12_come_e {p : Program} {l : Launch} {e : Env} {s : State} {mi : MethodId} {args : Array Value} {below : List Frame} {meth : Method} {c : Code} {D : va_G} {cy : Nat → ClassId} {B sz : Nat} {sh : jm_S} {res : jm_M} {N : Nat} (C : jCx p s mi args meth c cX12_come 5 RX12 none D cy) {a0 : Nat} {m : jm_M} {H : Heap} {locs : List Loc} {ls : Array Slot} (S : jHs D cy B sz sh (jA B sz) s.heap H locs m) (L : jL ls [some (jR B a0), none, none, none, none]) (hyp : f_X12_come N sh a0 m = some res) : W p l e (jrm 2 0 0) s mi args below meth c H locs 0 0 (MQ below (jQc D cy B sz sh res none True) args s 0 0 (jA B sz)) (F0 mi 0 ls []) := by
  unfold f_X12_come at hyp
  refine jr_aload_n (pc := 0) C L dX12_come_0 rfl rfl ?_
  obtain ⟨v60, hv60, hyp⟩ := jbind hyp
  have iv60 := jrf_in S hv60
  refine jr_getI (pc := 1) C S lf_X12_165 rfl hv60 dX12_come_1 ?_
  refine jr_iconst (pc := 4) C dX12_come_4 ?_
  refine jr_isub (pc := 5) C dX12_come_5 ?_
  refine jr_istore_n (pc := 6) C L dX12_come_6 rfl (Nat.le_of_ble_eq_true rfl) (fun ls L => ?_)
  have L : jL ls [some (jR B a0), some (jI (jw (v60 - 1))), none, none, none] := L
  refine jr_aload_n (pc := 7) C L dX12_come_7 rfl rfl ?_
  obtain ⟨v61, hv61, hyp⟩ := jbind hyp
  refine jr_getR (pc := 8) C S lf_X12_37 rfl hv61 dX12_come_8 ?_
  refine jr_iload_n (pc := 11) C L dX12_come_11 rfl rfl ?_
  obtain ⟨v62, hv62, hyp⟩ := jbind hyp
  have iv62 := jra_in S hv62
  refine jr_ial (pc := 12) C S (jIn_w _) hv62 dX12_come_12 ?_
  refine jr_istore_n (pc := 13) C L dX12_come_13 rfl (Nat.le_of_ble_eq_true rfl) (fun ls L => ?_)
  have L : jL ls [some (jR B a0), some (jI (jw (v60 - 1))), some (jI v62), none, none] := L
  refine jr_aload_n (pc := 14) C L dX12_come_14 rfl rfl ?_
  obtain ⟨v63, hv63, hyp⟩ := jbind hyp
  refine jr_getR (pc := 15) C S lf_X12_19 rfl hv63 dX12_come_15 ?_
  refine jr_iload_n (pc := 18) C L dX12_come_18 rfl rfl ?_
  obtain ⟨v64, hv64, hyp⟩ := jbind hyp
  have iv64 := jra_in S hv64
  refine jr_ial (pc := 19) C S iv62 hv64 dX12_come_19 ?_
  refine jr_istore_n (pc := 20) C L dX12_come_20 rfl (Nat.le_of_ble_eq_true rfl) (fun ls L => ?_)
  have L : jL ls [some (jR B a0), some (jI (jw (v60 - 1))), some (jI v62), some (jI v64), none] := L
  refine jr_iload_n (pc := 21) C L dX12_come_21 rfl rfl ?_
  refine jr_bipush (pc := 22) C dX12_come_22 (by decide) ?_
  refine jr_icmp_ne (pc := 24) C iv64 (show jIn 59 from ⟨by decide, by decide⟩) (tgt := 36) dX12_come_24 (by decide) (fun c65 => ?_) (fun c65 => ?_)
  · have hyp := (if_pos c65).symm.trans hyp
    refine jr_aload_n (pc := 27) C L dX12_come_27 rfl rfl ?_
    obtain ⟨v66, hv66, hyp⟩ := jbind hyp
    refine jr_getR (pc := 28) C S lf_X12_40 rfl hv66 dX12_come_28 ?_
    refine jr_iload_n (pc := 31) C L dX12_come_31 rfl rfl ?_
    obtain ⟨v67, hv67, hyp⟩ := jbind hyp
    have iv67 := jra_in S hv67
    refine jr_ial (pc := 32) C S (jIn_w _) hv67 dX12_come_32 ?_
    refine jr_if_eq (pc := 33) C iv67 (tgt := 51) dX12_come_33 (by decide) (fun c68 => ?_) (fun c68 => ?_)
    · have hyp := (if_pos c68).symm.trans hyp
      exact t_X12_come_b51 C   (jIn_w _) iv62 iv64 S (L.sub (jsub_s (jsub_s (jsub_s (jsub_s (jsub_n jsub_0)))))) hyp
    · have hyp := (if_neg c68).symm.trans hyp
      exact t_X12_come_b36 C   (jIn_w _) iv62 iv64 S (L.sub (jsub_s (jsub_s (jsub_s (jsub_s (jsub_n jsub_0)))))) hyp
  · have hyp := (if_neg c65).symm.trans hyp
    exact t_X12_come_b36 C   (jIn_w _) iv62 iv64 S (L.sub (jsub_s (jsub_s (jsub_s (jsub_s (jsub_n jsub_0)))))) hyp
theorem c_X12_come {l : Launch} {D : va_G} {cy : Nat → ClassId} {B sz : Nat} {sh : jm_S} {res : jm_M} {N : Nat} {m : jm_M} {a0 : Nat} (hyp : f_X12_come N sh a0 m = some res) : jCt l D cy B sz sh 2 yX12_come cX12_come 5 none [jR B a0] m none res True :=
  jc_of (by decide) (fun v h => by rw [List.mem_singleton.mp h]; first | rfl | exact jR_cat _ _) (Nat.le_of_ble_eq_true rfl) (fun C S L => t_X12_come_e C   S L hyp)
set_option maxHeartbeats 4000000 in
set_option maxRecDepth 100000 in
theorem t_X12_work_b82 {p : Program} {l : Launch} {e : Env} {s : State} {mi : MethodId} {args : Array Value} {below : List Frame} {meth : Method} {c : Code} {D : va_G} {cy : Nat → ClassId} {B sz : Nat} {sh : jm_S} {res : jm_M} {N : Nat} {k68 : Nat → jm_M → Option jm_M} (C : jCx p s mi args meth c cX12_work 4 RX12 none D cy) (K68 : ∀ (a0 : Nat) , ∀ (m : jm_M) (H : Heap) (locs : List Loc) (ls : Array Slot), jHs D cy B sz sh (jA B sz) s.heap H locs m → jL ls [some (jR B a0), none, none, none] → k68 a0 m = some res → W p l e (jrm 5 0 0) s mi args below meth c H locs 0 0 (MQ below (jQc D cy B sz sh res none True) args s 0 0 (jA B sz)) (F0 mi 68 ls [])) {a0 : Nat} {m : jm_M} {H : Heap} {locs : List Loc} {ls : Array Slot} (S : jHs D cy B sz sh (jA B sz) s.heap H locs m) (L : jL ls [some (jR B a0), none, none, none]) (hyp : f_X12_work_b82 N sh k68 a0 m = some res) : W p l e (jrm 5 0 0) s mi args below meth c H locs 0 0 (MQ below (jQc D cy B sz sh res none True) args s 0 0 (jA B sz)) (F0 mi 82 ls []) := by
  unfold f_X12_work_b82 at hyp
  refine jr_aload_n (pc := 82) C L dX12_work_82 rfl rfl ?_
  obtain ⟨v1, hv1, hyp⟩ := jbind hyp
  have iv1 := jrf_in S hv1
  refine jr_getI (pc := 83) C S lf_X12_168 rfl hv1 dX12_work_83 ?_
  refine jr_if_lt (pc := 86) C iv1 (tgt := 96) dX12_work_86 (by decide) (fun c2 => ?_) (fun c2 => ?_)
  · have hyp := (if_pos c2).symm.trans hyp
    refine jr_aload_n (pc := 96) C L dX12_work_96 rfl rfl ?_
    obtain ⟨u3, hu3, hyp⟩ := jbind hyp
    obtain ⟨q4, hq4, hyp⟩ := jbind hyp
    refine jr_callV_N (pc := 97) C S L (As := []) (rest := []) (c_X12_come  hq4) mv_X12_come ml_X12_200 rfl (jck_spec hu3) (by decide) rfl rfl rfl (Nat.le_of_ble_eq_true rfl) ⟨Nat.le_refl 0, Nat.le_refl 0⟩ dX12_work_97 (fun p5 H locs S => ?_)
    refine jr_goto (pc := 100) C (tgt := 68) dX12_work_100 (by decide) ?_
    exact K68 a0  q4 _ _ _ S (L.sub (jsub_s (jsub_n (jsub_n (jsub_n jsub_0))))) hyp
  · have hyp := (if_neg c2).symm.trans hyp
    refine jr_aload_n (pc := 89) C L dX12_work_89 rfl rfl ?_
    obtain ⟨u6, hu6, hyp⟩ := jbind hyp
    obtain ⟨q7, hq7, hyp⟩ := jbind hyp
    refine jr_callV_N (pc := 90) C S L (As := []) (rest := []) (c_X12_begin  hq7) mv_X12_begin ml_X12_197 rfl (jck_spec hu6) (by decide) rfl rfl rfl (Nat.le_of_ble_eq_true rfl) ⟨Nat.le_refl 0, Nat.le_refl 0⟩ dX12_work_90 (fun p8 H locs S => ?_)
    refine jr_goto (pc := 93) C (tgt := 68) dX12_work_93 (by decide) ?_
    exact K68 a0  q7 _ _ _ S (L.sub (jsub_s (jsub_n (jsub_n (jsub_n jsub_0))))) hyp
set_option maxHeartbeats 4000000 in
set_option maxRecDepth 100000 in
theorem t_X12_work_b68 {p : Program} {l : Launch} {e : Env} {s : State} {mi : MethodId} {args : Array Value} {below : List Frame} {meth : Method} {c : Code} {D : va_G} {cy : Nat → ClassId} {B sz : Nat} {sh : jm_S} {res : jm_M} {N : Nat} {k68 : Nat → jm_M → Option jm_M} (C : jCx p s mi args meth c cX12_work 4 RX12 none D cy) (K68 : ∀ (a0 : Nat) , ∀ (m : jm_M) (H : Heap) (locs : List Loc) (ls : Array Slot), jHs D cy B sz sh (jA B sz) s.heap H locs m → jL ls [some (jR B a0), none, none, none] → k68 a0 m = some res → W p l e (jrm 5 0 0) s mi args below meth c H locs 0 0 (MQ below (jQc D cy B sz sh res none True) args s 0 0 (jA B sz)) (F0 mi 68 ls [])) {a0 : Nat} {m : jm_M} {H : Heap} {locs : List Loc} {ls : Array Slot} (S : jHs D cy B sz sh (jA B sz) s.heap H locs m) (L : jL ls [some (jR B a0), none, none, none]) (hyp : f_X12_work_b68 N sh k68 a0 m = some res) : W p l e (jrm 5 0 0) s mi args below meth c H locs 0 0 (MQ below (jQc D cy B sz sh res none True) args s 0 0 (jA B sz)) (F0 mi 68 ls []) := by
  unfold f_X12_work_b68 at hyp
  refine jr_aload_n (pc := 68) C L dX12_work_68 rfl rfl ?_
  obtain ⟨v9, hv9, hyp⟩ := jbind hyp
  have iv9 := jrf_in S hv9
  refine jr_getI (pc := 69) C S lf_X12_168 rfl hv9 dX12_work_69 ?_
  refine jr_if_ge (pc := 72) C iv9 (tgt := 82) dX12_work_72 (by decide) (fun c10 => ?_) (fun c10 => ?_)
  · have hyp := (if_pos c10).symm.trans hyp
    refine jr_aload_n (pc := 75) C L dX12_work_75 rfl rfl ?_
    obtain ⟨v11, hv11, hyp⟩ := jbind hyp
    have iv11 := jrf_in S hv11
    refine jr_getI (pc := 76) C S lf_X12_165 rfl hv11 dX12_work_76 ?_
    refine jr_if_le (pc := 79) C iv11 (tgt := 103) dX12_work_79 (by decide) (fun c12 => ?_) (fun c12 => ?_)
    · have hyp := (if_pos c12).symm.trans hyp
      exact t_X12_work_b82 C  K68  S (L.sub (jsub_s (jsub_n (jsub_n (jsub_n jsub_0))))) hyp
    · have hyp := (if_neg c12).symm.trans hyp
      cases hyp
      exact jr_vret C S trivial dX12_work_103
  · have hyp := (if_neg c10).symm.trans hyp
    exact t_X12_work_b82 C  K68  S (L.sub (jsub_s (jsub_n (jsub_n (jsub_n jsub_0))))) hyp
theorem t_X12_work_l68 {p : Program} {l : Launch} {e : Env} {s : State} {mi : MethodId} {args : Array Value} {below : List Frame} {meth : Method} {c : Code} {D : va_G} {cy : Nat → ClassId} {B sz : Nat} {sh : jm_S} {res : jm_M} {N : Nat} (C : jCx p s mi args meth c cX12_work 4 RX12 none D cy) : ∀ (n : Nat) (a0 : Nat), ∀ (m : jm_M) (H : Heap) (locs : List Loc) (ls : Array Slot), jHs D cy B sz sh (jA B sz) s.heap H locs m → jL ls [some (jR B a0), none, none, none] → f_X12_work_l68 N sh n a0 m = some res → W p l e (jrm 5 0 0) s mi args below meth c H locs 0 0 (MQ below (jQc D cy B sz sh res none True) args s 0 0 (jA B sz)) (F0 mi 68 ls []) := by
  intro n
  induction n with
  | zero => intro a0  m H locs ls S L hyp; cases hyp
  | succ n ih => intro a0  m H locs ls S L hyp; exact t_X12_work_b68 (N := N) C  ih  S L hyp
set_option maxHeartbeats 4000000 in
set_option maxRecDepth 100000 in
theorem t_X12_work_b37 {p : Program} {l : Launch} {e : Env} {s : State} {mi : MethodId} {args : Array Value} {below : List Frame} {meth : Method} {c : Code} {D : va_G} {cy : Nat → ClassId} {B sz : Nat} {sh : jm_S} {res : jm_M} {N : Nat} {k15 : Nat → Int → Int → jm_M → Option jm_M} (C : jCx p s mi args meth c cX12_work 4 RX12 none D cy) (K15 : ∀ (a0 : Nat) (x1 : Int) (x3 : Int) , jIn x1 → jIn x3 → ∀ (m : jm_M) (H : Heap) (locs : List Loc) (ls : Array Slot), jHs D cy B sz sh (jA B sz) s.heap H locs m → jL ls [some (jR B a0), some (jI x1), none, some (jI x3)] → k15 a0 x1 x3 m = some res → W p l e (jrm 5 0 0) s mi args below meth c H locs 0 0 (MQ below (jQc D cy B sz sh res none True) args s 0 0 (jA B sz)) (F0 mi 15 ls [])) {a0 : Nat} {x1 : Int} (h_x1 : jIn x1) {x3 : Int} (h_x3 : jIn x3) {r0 : Nat} {s1 : Int} (h_s1 : jIn s1) {s2 : Int} (h_s2 : jIn s2) {m : jm_M} {H : Heap} {locs : List Loc} {ls : Array Slot} (S : jHs D cy B sz sh (jA B sz) s.heap H locs m) (L : jL ls [some (jR B a0), some (jI x1), none, some (jI x3)]) (hyp : f_X12_work_b37 N sh k15 a0 x1 x3 r0 s1 s2 m = some res) : W p l e (jrm 5 0 0) s mi args below meth c H locs 0 0 (MQ below (jQc D cy B sz sh res none True) args s 0 0 (jA B sz)) (F0 mi 37 ls [jI s2, jI s1, jR B r0]) := by
  unfold f_X12_work_b37 at hyp
  obtain ⟨m13, hm13, hyp⟩ := jbind hyp
  refine jr_ias (pc := 37) C S h_s1 h_s2 hm13 dX12_work_37 (fun H locs S => ?_)
  refine jr_iinc (pc := 38) C L dX12_work_38 rfl (Nat.le_of_ble_eq_true rfl) (fun ls L => ?_)
  have L : jL ls [some (jR B a0), some (jI x1), none, some (jI (jw (x3 + 1)))] := L
  refine jr_goto (pc := 41) C (tgt := 15) dX12_work_41 (by decide) ?_
  exact K15 a0 x1 (jw (x3 + 1)) h_x1 (jIn_w _) m13 _ _ _ S (L.sub (jsub_s (jsub_s (jsub_n (jsub_s jsub_0))))) hyp
set_option maxHeartbeats 4000000 in
set_option maxRecDepth 100000 in
theorem t_X12_work_b15 {p : Program} {l : Launch} {e : Env} {s : State} {mi : MethodId} {args : Array Value} {below : List Frame} {meth : Method} {c : Code} {D : va_G} {cy : Nat → ClassId} {B sz : Nat} {sh : jm_S} {res : jm_M} {N : Nat} {k15 : Nat → Int → Int → jm_M → Option jm_M} (C : jCx p s mi args meth c cX12_work 4 RX12 none D cy) (K15 : ∀ (a0 : Nat) (x1 : Int) (x3 : Int) , jIn x1 → jIn x3 → ∀ (m : jm_M) (H : Heap) (locs : List Loc) (ls : Array Slot), jHs D cy B sz sh (jA B sz) s.heap H locs m → jL ls [some (jR B a0), some (jI x1), none, some (jI x3)] → k15 a0 x1 x3 m = some res → W p l e (jrm 5 0 0) s mi args below meth c H locs 0 0 (MQ below (jQc D cy B sz sh res none True) args s 0 0 (jA B sz)) (F0 mi 15 ls [])) {a0 : Nat} {x1 : Int} (h_x1 : jIn x1) {x3 : Int} (h_x3 : jIn x3) {m : jm_M} {H : Heap} {locs : List Loc} {ls : Array Slot} (S : jHs D cy B sz sh (jA B sz) s.heap H locs m) (L : jL ls [some (jR B a0), some (jI x1), none, some (jI x3)]) (hyp : f_X12_work_b15 N sh k15 a0 x1 x3 m = some res) : W p l e (jrm 5 0 0) s mi args below meth c H locs 0 0 (MQ below (jQc D cy B sz sh res none True) args s 0 0 (jA B sz)) (F0 mi 15 ls []) := by
  unfold f_X12_work_b15 at hyp
  refine jr_iload_n (pc := 15) C L dX12_work_15 rfl rfl ?_
  refine jr_aload_n (pc := 16) C L dX12_work_16 rfl rfl ?_
  obtain ⟨v14, hv14, hyp⟩ := jbind hyp
  have iv14 := jrf_in S hv14
  refine jr_getI (pc := 17) C S lf_X12_147 rfl hv14 dX12_work_17 ?_
  refine jr_icmp_ge (pc := 20) C h_x3 iv14 (tgt := 44) dX12_work_20 (by decide) (fun c15 => ?_) (fun c15 => ?_)
  · have hyp := (if_pos c15).symm.trans hyp
    refine jr_aload_n (pc := 23) C L dX12_work_23 rfl rfl ?_
    obtain ⟨v16, hv16, hyp⟩ := jbind hyp
    refine jr_getR (pc := 24) C S lf_X12_34 rfl hv16 dX12_work_24 ?_
    refine jr_iload_n (pc := 27) C L dX12_work_27 rfl rfl ?_
    refine jr_iload_n (pc := 28) C L dX12_work_28 rfl rfl ?_
    refine jr_if_ne (pc := 29) C h_x3 (tgt := 36) dX12_work_29 (by decide) (fun c17 => ?_) (fun c17 => ?_)
    · have hyp := (if_pos c17).symm.trans hyp
      refine jr_iconst (pc := 32) C dX12_work_32 ?_
      refine jr_goto (pc := 33) C (tgt := 37) dX12_work_33 (by decide) ?_
      exact t_X12_work_b37 C  K15 h_x1 h_x3 h_x3 (show jIn 0 from ⟨by decide, by decide⟩) S (L.sub (jsub_s (jsub_s (jsub_n (jsub_s jsub_0))))) hyp
    · have hyp := (if_neg c17).symm.trans hyp
      refine jr_iconst (pc := 36) C dX12_work_36 ?_
      exact t_X12_work_b37 C  K15 h_x1 h_x3 h_x3 (show jIn (-1) from ⟨by decide, by decide⟩) S (L.sub (jsub_s (jsub_s (jsub_n (jsub_s jsub_0))))) hyp
  · have hyp := (if_neg c15).symm.trans hyp
    refine jr_aload_n (pc := 44) C L dX12_work_44 rfl rfl ?_
    refine jr_iconst (pc := 45) C dX12_work_45 ?_
    obtain ⟨m18, hm18, hyp⟩ := jbind hyp
    refine jr_putI (pc := 46) C S lf_X12_165 fp_X12_12 rfl (show jIn 0 from ⟨by decide, by decide⟩) hm18 dX12_work_46 (fun H locs S => ?_)
    refine jr_aload_n (pc := 49) C L dX12_work_49 rfl rfl ?_
    refine jr_iconst (pc := 50) C dX12_work_50 ?_
    obtain ⟨m19, hm19, hyp⟩ := jbind hyp
    refine jr_putI (pc := 51) C S lf_X12_156 fp_X12_22 rfl (show jIn 0 from ⟨by decide, by decide⟩) hm19 dX12_work_51 (fun H locs S => ?_)
    refine jr_aload_n (pc := 54) C L dX12_work_54 rfl rfl ?_
    refine jr_bipush (pc := 55) C dX12_work_55 (by decide) ?_
    obtain ⟨m20, hm20, hyp⟩ := jbind hyp
    refine jr_putI (pc := 57) C S lf_X12_162 fp_X12_23 rfl (show jIn (-6) from ⟨by decide, by decide⟩) hm20 dX12_work_57 (fun H locs S => ?_)
    refine jr_aload_n (pc := 60) C L dX12_work_60 rfl rfl ?_
    refine jr_bipush (pc := 61) C dX12_work_61 (by decide) ?_
    refine jr_iload_n (pc := 63) C L dX12_work_63 rfl rfl ?_
    refine jr_imul (pc := 64) C dX12_work_64 ?_
    obtain ⟨m21, hm21, hyp⟩ := jbind hyp
    refine jr_putI (pc := 65) C S lf_X12_168 fp_X12_25 rfl (jIn_w _) hm21 dX12_work_65 (fun H locs S => ?_)
    exact t_X12_work_l68 C   N a0  m21 _ _ _ S (L.sub (jsub_s (jsub_n (jsub_n (jsub_n jsub_0))))) hyp
theorem t_X12_work_l15 {p : Program} {l : Launch} {e : Env} {s : State} {mi : MethodId} {args : Array Value} {below : List Frame} {meth : Method} {c : Code} {D : va_G} {cy : Nat → ClassId} {B sz : Nat} {sh : jm_S} {res : jm_M} {N : Nat} (C : jCx p s mi args meth c cX12_work 4 RX12 none D cy) : ∀ (n : Nat) (a0 : Nat) (x1 : Int) (x3 : Int), jIn x1 → jIn x3 → ∀ (m : jm_M) (H : Heap) (locs : List Loc) (ls : Array Slot), jHs D cy B sz sh (jA B sz) s.heap H locs m → jL ls [some (jR B a0), some (jI x1), none, some (jI x3)] → f_X12_work_l15 N sh n a0 x1 x3 m = some res → W p l e (jrm 5 0 0) s mi args below meth c H locs 0 0 (MQ below (jQc D cy B sz sh res none True) args s 0 0 (jA B sz)) (F0 mi 15 ls []) := by
  intro n
  induction n with
  | zero => intro a0 x1 x3 h_x1 h_x3 m H locs ls S L hyp; cases hyp
  | succ n ih => intro a0 x1 x3 h_x1 h_x3 m H locs ls S L hyp; exact t_X12_work_b15 (N := N) C  ih h_x1 h_x3 S L hyp
set_option maxHeartbeats 4000000 in
set_option maxRecDepth 100000 in
theorem t_X12_work_e {p : Program} {l : Launch} {e : Env} {s : State} {mi : MethodId} {args : Array Value} {below : List Frame} {meth : Method} {c : Code} {D : va_G} {cy : Nat → ClassId} {B sz : Nat} {sh : jm_S} {res : jm_M} {N : Nat} (C : jCx p s mi args meth c cX12_work 4 RX12 none D cy) {a0 : Nat} {x1 : Int} (h_x1 : jIn x1) {x2 : Int} (h_x2 : jIn x2) {m : jm_M} {H : Heap} {locs : List Loc} {ls : Array Slot} (S : jHs D cy B sz sh (jA B sz) s.heap H locs m) (L : jL ls [some (jR B a0), some (jI x1), some (jI x2), none]) (hyp : f_X12_work N sh a0 x1 x2 m = some res) : W p l e (jrm 5 0 0) s mi args below meth c H locs 0 0 (MQ below (jQc D cy B sz sh res none True) args s 0 0 (jA B sz)) (F0 mi 0 ls []) := by
  unfold f_X12_work at hyp
  refine jr_aload_n (pc := 0) C L dX12_work_0 rfl rfl ?_
  refine jr_aload_n (pc := 1) C L dX12_work_1 rfl rfl ?_
  obtain ⟨u22, hu22, hyp⟩ := jbind hyp
  obtain ⟨q23, hq23, hyp⟩ := jbind hyp
  refine jr_callV_I (pc := 2) C S L (As := []) (rest := [jR B a0]) (c_X12_states (m0 := m)  hq23) mv_X12_states ml_X12_194 rfl (jck_spec hu22) (by decide) rfl rfl rfl (by simp [jR_cat, jI_cat]) ⟨Nat.le_refl 0, Nat.le_refl 0⟩ dX12_work_2 (fun p24 H locs S => ?_)
  obtain ⟨m25, hm25, hyp⟩ := jbind hyp
  refine jr_putI (pc := 5) C S lf_X12_147 fp_X12_18 rfl p24 hm25 dX12_work_5 (fun H locs S => ?_)
  refine jr_aload_n (pc := 8) C L dX12_work_8 rfl rfl ?_
  refine jr_iload_n (pc := 9) C L dX12_work_9 rfl rfl ?_
  obtain ⟨z27, hz27, hyp⟩ := jbind hyp
  obtain ⟨m26, hm26, hyp⟩ := jbind hyp
  refine jr_putZ (pc := 10) C S lf_X12_144 fp_X12_19 rfl hz27 hm26 dX12_work_10 (fun H locs S => ?_)
  refine jr_iconst (pc := 13) C dX12_work_13 ?_
  refine jr_istore_n (pc := 14) C L dX12_work_14 rfl (Nat.le_of_ble_eq_true rfl) (fun ls L => ?_)
  have L : jL ls [some (jR B a0), some (jI x1), some (jI x2), some (jI 0)] := L
  exact t_X12_work_l15 C   N a0 x1 0 h_x1 (show jIn 0 from ⟨by decide, by decide⟩) m26 _ _ _ S (L.sub (jsub_s (jsub_s (jsub_n (jsub_s jsub_0))))) hyp
theorem c_X12_work {l : Launch} {D : va_G} {cy : Nat → ClassId} {B sz : Nat} {sh : jm_S} {res : jm_M} {N : Nat} {m : jm_M} {a0 : Nat} {x1 : Int} (h_x1 : jIn x1) {x2 : Int} (h_x2 : jIn x2) (hyp : f_X12_work N sh a0 x1 x2 m = some res) : jCt l D cy B sz sh 5 yX12_work cX12_work 4 none [jR B a0, jI x1, jI x2] m none res True :=
  jc_of (by decide) (fun v h => by simp only [List.mem_cons, List.not_mem_nil, or_false] at h; rcases h with rfl | rfl | rfl <;> first | rfl | exact jR_cat _ _) (Nat.le_of_ble_eq_true rfl) (fun C S L => t_X12_work_e C  h_x1 h_x2 S L hyp)
set_option maxHeartbeats 4000000 in
set_option maxRecDepth 100000 in
theorem t_X12_bestOf_b36 {p : Program} {l : Launch} {e : Env} {s : State} {mi : MethodId} {args : Array Value} {below : List Frame} {meth : Method} {c : Code} {D : va_G} {cy : Nat → ClassId} {B sz : Nat} {sh : jm_S} {res : Int} {N : Nat} {m0 : jm_M} {k4 : Nat → Int → Int → Option Int} (C : jCx p s mi args meth c cX12_bestOf 3 RX12 (some .int) D cy) (K4 : ∀ (a0 : Nat) (x1 : Int) (x2 : Int) , jIn x1 → jIn x2 → ∀ (H : Heap) (locs : List Loc) (ls : Array Slot), jHs D cy B sz sh (jA B sz) s.heap H locs m0 → jL ls [some (jR B a0), some (jI x1), some (jI x2)] → k4 a0 x1 x2 = some res → W p l e (jrm 1 0 0) s mi args below meth c H locs 0 0 (MQ below (jQc D cy B sz sh m0 (some (jI res)) (jIn res)) args s 0 0 (jA B sz)) (F0 mi 4 ls [])) {a0 : Nat} {x2 : Int} (h_x2 : jIn x2) {s0 : Int} (h_s0 : jIn s0) {H : Heap} {locs : List Loc} {ls : Array Slot} (S : jHs D cy B sz sh (jA B sz) s.heap H locs m0) (L : jL ls [some (jR B a0), none, some (jI x2)]) (hyp : f_X12_bestOf_b36 N sh k4 a0 x2 s0 m0 = some res) : W p l e (jrm 1 0 0) s mi args below meth c H locs 0 0 (MQ below (jQc D cy B sz sh m0 (some (jI res)) (jIn res)) args s 0 0 (jA B sz)) (F0 mi 36 ls [jI s0]) := by
  unfold f_X12_bestOf_b36 at hyp
  refine jr_istore_n (pc := 36) C L dX12_bestOf_36 rfl (Nat.le_of_ble_eq_true rfl) (fun ls L => ?_)
  have L : jL ls [some (jR B a0), some (jI s0), some (jI x2)] := L
  refine jr_iinc (pc := 37) C L dX12_bestOf_37 rfl (Nat.le_of_ble_eq_true rfl) (fun ls L => ?_)
  have L : jL ls [some (jR B a0), some (jI s0), some (jI (jw (x2 + 1)))] := L
  refine jr_goto (pc := 40) C (tgt := 4) dX12_bestOf_40 (by decide) ?_
  exact K4 a0 s0 (jw (x2 + 1)) h_s0 (jIn_w _)  _ _ _ S (L.sub (jsub_s (jsub_s (jsub_s jsub_0)))) hyp
set_option maxHeartbeats 4000000 in
set_option maxRecDepth 100000 in
theorem t_X12_bestOf_b4 {p : Program} {l : Launch} {e : Env} {s : State} {mi : MethodId} {args : Array Value} {below : List Frame} {meth : Method} {c : Code} {D : va_G} {cy : Nat → ClassId} {B sz : Nat} {sh : jm_S} {res : Int} {N : Nat} {m0 : jm_M} {k4 : Nat → Int → Int → Option Int} (C : jCx p s mi args meth c cX12_bestOf 3 RX12 (some .int) D cy) (K4 : ∀ (a0 : Nat) (x1 : Int) (x2 : Int) , jIn x1 → jIn x2 → ∀ (H : Heap) (locs : List Loc) (ls : Array Slot), jHs D cy B sz sh (jA B sz) s.heap H locs m0 → jL ls [some (jR B a0), some (jI x1), some (jI x2)] → k4 a0 x1 x2 = some res → W p l e (jrm 1 0 0) s mi args below meth c H locs 0 0 (MQ below (jQc D cy B sz sh m0 (some (jI res)) (jIn res)) args s 0 0 (jA B sz)) (F0 mi 4 ls [])) {a0 : Nat} {x1 : Int} (h_x1 : jIn x1) {x2 : Int} (h_x2 : jIn x2) {H : Heap} {locs : List Loc} {ls : Array Slot} (S : jHs D cy B sz sh (jA B sz) s.heap H locs m0) (L : jL ls [some (jR B a0), some (jI x1), some (jI x2)]) (hyp : f_X12_bestOf_b4 N sh k4 a0 x1 x2 m0 = some res) : W p l e (jrm 1 0 0) s mi args below meth c H locs 0 0 (MQ below (jQc D cy B sz sh m0 (some (jI res)) (jIn res)) args s 0 0 (jA B sz)) (F0 mi 4 ls []) := by
  unfold f_X12_bestOf_b4 at hyp
  refine jr_iload_n (pc := 4) C L dX12_bestOf_4 rfl rfl ?_
  refine jr_aload_n (pc := 5) C L dX12_bestOf_5 rfl rfl ?_
  obtain ⟨v1, hv1, hyp⟩ := jbind hyp
  have iv1 := jrf_in S hv1
  refine jr_getI (pc := 6) C S lf_X12_147 rfl hv1 dX12_bestOf_6 ?_
  refine jr_icmp_ge (pc := 9) C h_x2 iv1 (tgt := 43) dX12_bestOf_9 (by decide) (fun c2 => ?_) (fun c2 => ?_)
  · have hyp := (if_pos c2).symm.trans hyp
    refine jr_aload_n (pc := 12) C L dX12_bestOf_12 rfl rfl ?_
    refine jr_aload_n (pc := 13) C L dX12_bestOf_13 rfl rfl ?_
    obtain ⟨v3, hv3, hyp⟩ := jbind hyp
    refine jr_getR (pc := 14) C S lf_X12_34 rfl hv3 dX12_bestOf_14 ?_
    refine jr_iload_n (pc := 17) C L dX12_bestOf_17 rfl rfl ?_
    obtain ⟨v4, hv4, hyp⟩ := jbind hyp
    have iv4 := jra_in S hv4
    refine jr_ial (pc := 18) C S h_x2 hv4 dX12_bestOf_18 ?_
    refine jr_iload_n (pc := 19) C L dX12_bestOf_19 rfl rfl ?_
    obtain ⟨u5, hu5, hyp⟩ := jbind hyp
    obtain ⟨q6, hq6, hyp⟩ := jbind hyp
    refine jr_callV_I (pc := 20) C S L (As := [jI v4, jI x1]) (rest := []) (c_X12_isBetter (m0 := m0) iv4 h_x1 hq6) mv_X12_isBetter ml_X12_153 rfl (jck_spec hu5) (by decide) rfl rfl rfl (Nat.le_of_ble_eq_true rfl) ⟨Nat.le_refl 0, Nat.le_refl 0⟩ dX12_bestOf_20 (fun p7 H locs S => ?_)
    refine jr_if_eq (pc := 23) C p7 (tgt := 35) dX12_bestOf_23 (by decide) (fun c8 => ?_) (fun c8 => ?_)
    · have hyp := (if_pos c8).symm.trans hyp
      refine jr_iload_n (pc := 35) C L dX12_bestOf_35 rfl rfl ?_
      exact t_X12_bestOf_b36 C  K4 h_x2 h_x1 S (L.sub (jsub_s (jsub_n (jsub_s jsub_0)))) hyp
    · have hyp := (if_neg c8).symm.trans hyp
      refine jr_aload_n (pc := 26) C L dX12_bestOf_26 rfl rfl ?_
      obtain ⟨v9, hv9, hyp⟩ := jbind hyp
      refine jr_getR (pc := 27) C S lf_X12_34 rfl hv9 dX12_bestOf_27 ?_
      refine jr_iload_n (pc := 30) C L dX12_bestOf_30 rfl rfl ?_
      obtain ⟨v10, hv10, hyp⟩ := jbind hyp
      have iv10 := jra_in S hv10
      refine jr_ial (pc := 31) C S h_x2 hv10 dX12_bestOf_31 ?_
      refine jr_goto (pc := 32) C (tgt := 36) dX12_bestOf_32 (by decide) ?_
      exact t_X12_bestOf_b36 C  K4 h_x2 iv10 S (L.sub (jsub_s (jsub_n (jsub_s jsub_0)))) hyp
  · have hyp := (if_neg c2).symm.trans hyp
    refine jr_iload_n (pc := 43) C L dX12_bestOf_43 rfl rfl ?_
    cases hyp
    exact jr_iret C S h_x1 dX12_bestOf_44
theorem t_X12_bestOf_l4 {p : Program} {l : Launch} {e : Env} {s : State} {mi : MethodId} {args : Array Value} {below : List Frame} {meth : Method} {c : Code} {D : va_G} {cy : Nat → ClassId} {B sz : Nat} {sh : jm_S} {res : Int} {N : Nat} {m0 : jm_M} (C : jCx p s mi args meth c cX12_bestOf 3 RX12 (some .int) D cy) : ∀ (n : Nat) (a0 : Nat) (x1 : Int) (x2 : Int), jIn x1 → jIn x2 → ∀ (H : Heap) (locs : List Loc) (ls : Array Slot), jHs D cy B sz sh (jA B sz) s.heap H locs m0 → jL ls [some (jR B a0), some (jI x1), some (jI x2)] → f_X12_bestOf_l4 N sh n a0 x1 x2 m0 = some res → W p l e (jrm 1 0 0) s mi args below meth c H locs 0 0 (MQ below (jQc D cy B sz sh m0 (some (jI res)) (jIn res)) args s 0 0 (jA B sz)) (F0 mi 4 ls []) := by
  intro n
  induction n with
  | zero => intro a0 x1 x2 h_x1 h_x2 H locs ls S L hyp; cases hyp
  | succ n ih => intro a0 x1 x2 h_x1 h_x2 H locs ls S L hyp; exact t_X12_bestOf_b4 (N := N) C  ih h_x1 h_x2 S L hyp
set_option maxHeartbeats 4000000 in
set_option maxRecDepth 100000 in
theorem t_X12_bestOf_e {p : Program} {l : Launch} {e : Env} {s : State} {mi : MethodId} {args : Array Value} {below : List Frame} {meth : Method} {c : Code} {D : va_G} {cy : Nat → ClassId} {B sz : Nat} {sh : jm_S} {res : Int} {N : Nat} {m0 : jm_M} (C : jCx p s mi args meth c cX12_bestOf 3 RX12 (some .int) D cy) {a0 : Nat} {H : Heap} {locs : List Loc} {ls : Array Slot} (S : jHs D cy B sz sh (jA B sz) s.heap H locs m0) (L : jL ls [some (jR B a0), none, none]) (hyp : f_X12_bestOf N sh a0 m0 = some res) : W p l e (jrm 1 0 0) s mi args below meth c H locs 0 0 (MQ below (jQc D cy B sz sh m0 (some (jI res)) (jIn res)) args s 0 0 (jA B sz)) (F0 mi 0 ls []) := by
  unfold f_X12_bestOf at hyp
  refine jr_iconst (pc := 0) C dX12_bestOf_0 ?_
  refine jr_istore_n (pc := 1) C L dX12_bestOf_1 rfl (Nat.le_of_ble_eq_true rfl) (fun ls L => ?_)
  have L : jL ls [some (jR B a0), some (jI (-1)), none] := L
  refine jr_iconst (pc := 2) C dX12_bestOf_2 ?_
  refine jr_istore_n (pc := 3) C L dX12_bestOf_3 rfl (Nat.le_of_ble_eq_true rfl) (fun ls L => ?_)
  have L : jL ls [some (jR B a0), some (jI (-1)), some (jI 0)] := L
  exact t_X12_bestOf_l4 C   N a0 (-1) 0 (show jIn (-1) from ⟨by decide, by decide⟩) (show jIn 0 from ⟨by decide, by decide⟩)  _ _ _ S (L.sub (jsub_s (jsub_s (jsub_s jsub_0)))) hyp
theorem c_X12_bestOf {l : Launch} {D : va_G} {cy : Nat → ClassId} {B sz : Nat} {sh : jm_S} {res : Int} {N : Nat} {m0 : jm_M} {a0 : Nat} (hyp : f_X12_bestOf N sh a0 m0 = some res) : jCt l D cy B sz sh 1 yX12_bestOf cX12_bestOf 3 (some .int) [jR B a0] m0 (some (jI res)) m0 (jIn res) :=
  jc_of (by decide) (fun v h => by rw [List.mem_singleton.mp h]; first | rfl | exact jR_cat _ _) (Nat.le_of_ble_eq_true rfl) (fun C S L => t_X12_bestOf_e C   S L hyp)
set_option maxHeartbeats 4000000 in
set_option maxRecDepth 100000 in
theorem t_X12_worstOf_e {p : Program} {l : Launch} {e : Env} {s : State} {mi : MethodId} {args : Array Value} {below : List Frame} {meth : Method} {c : Code} {D : va_G} {cy : Nat → ClassId} {B sz : Nat} {sh : jm_S} {res : (Int × jm_M)} {N : Nat} (C : jCx p s mi args meth c cX12_worstOf 2 RX12 (some .int) D cy) {a0 : Nat} {x1 : Int} (h_x1 : jIn x1) {m : jm_M} {H : Heap} {locs : List Loc} {ls : Array Slot} (S : jHs D cy B sz sh (jA B sz) s.heap H locs m) (L : jL ls [some (jR B a0), some (jI x1)]) (hyp : f_X12_worstOf N sh a0 x1 m = some res) : W p l e (jrm 6 0 0) s mi args below meth c H locs 0 0 (MQ below (jQc D cy B sz sh res.2 (some (jI res.1)) (jIn res.1)) args s 0 0 (jA B sz)) (F0 mi 0 ls []) := by
  unfold f_X12_worstOf at hyp
  refine jr_aload_n (pc := 0) C L dX12_worstOf_0 rfl rfl ?_
  refine jr_iconst (pc := 1) C dX12_worstOf_1 ?_
  obtain ⟨m1, hm1, hyp⟩ := jbind hyp
  refine jr_putI (pc := 2) C S lf_X12_159 fp_X12_20 rfl (show jIn 0 from ⟨by decide, by decide⟩) hm1 dX12_worstOf_2 (fun H locs S => ?_)
  refine jr_aload_n (pc := 5) C L dX12_worstOf_5 rfl rfl ?_
  refine jr_iload_n (pc := 6) C L dX12_worstOf_6 rfl rfl ?_
  refine jr_iconst (pc := 7) C dX12_worstOf_7 ?_
  obtain ⟨u2, hu2, hyp⟩ := jbind hyp
  obtain ⟨q3, hq3, hyp⟩ := jbind hyp
  refine jr_callV_N (pc := 8) C S L (As := [jI x1, jI 1]) (rest := []) (c_X12_work h_x1 (show jIn 1 from ⟨by decide, by decide⟩) hq3) mv_X12_work ml_X12_203 rfl (jck_spec hu2) (by decide) rfl rfl rfl (Nat.le_of_ble_eq_true rfl) ⟨Nat.le_refl 0, Nat.le_refl 0⟩ dX12_worstOf_8 (fun p4 H locs S => ?_)
  refine jr_aload_n (pc := 11) C L dX12_worstOf_11 rfl rfl ?_
  obtain ⟨u5, hu5, hyp⟩ := jbind hyp
  obtain ⟨q6, hq6, hyp⟩ := jbind hyp
  refine jr_callV_I (pc := 12) C S L (As := []) (rest := []) (c_X12_bestOf (m0 := q3)  hq6) mv_X12_bestOf ml_X12_207 rfl (jck_spec hu5) (by decide) rfl rfl rfl (Nat.le_of_ble_eq_true rfl) ⟨Nat.le_refl 0, Nat.le_refl 0⟩ dX12_worstOf_12 (fun p7 H locs S => ?_)
  cases hyp
  exact jr_iret C S p7 dX12_worstOf_15
theorem c_X12_worstOf {l : Launch} {D : va_G} {cy : Nat → ClassId} {B sz : Nat} {sh : jm_S} {res : (Int × jm_M)} {N : Nat} {m : jm_M} {a0 : Nat} {x1 : Int} (h_x1 : jIn x1) (hyp : f_X12_worstOf N sh a0 x1 m = some res) : jCt l D cy B sz sh 6 yX12_worstOf cX12_worstOf 2 (some .int) [jR B a0, jI x1] m (some (jI res.1)) res.2 (jIn res.1) :=
  jc_of (by decide) (fun v h => by simp only [List.mem_cons, List.not_mem_nil, or_false] at h; rcases h with rfl | rfl <;> first | rfl | exact jR_cat _ _) (Nat.le_of_ble_eq_true rfl) (fun C S L => t_X12_worstOf_e C  h_x1 S L hyp)
set_option maxHeartbeats 4000000 in
set_option maxRecDepth 100000 in
theorem t_X12_choose_e {p : Program} {l : Launch} {e : Env} {s : State} {mi : MethodId} {args : Array Value} {below : List Frame} {meth : Method} {c : Code} {D : va_G} {cy : Nat → ClassId} {B sz : Nat} {sh : jm_S} {res : (Int × jm_M)} (C : jCx p s mi args meth c cX12_choose 2 RX12 (some .int) D cy) {a0 : Nat} {x1 : Int} (h_x1 : jIn x1) {m : jm_M} {H : Heap} {locs : List Loc} {ls : Array Slot} (S : jHs D cy B sz sh (jA B sz) s.heap H locs m) (L : jL ls [some (jR B a0), some (jI x1)]) (hyp : f_X12_choose sh a0 x1 m = some res) : W p l e (jrm 1 0 0) s mi args below meth c H locs 0 0 (MQ below (jQc D cy B sz sh res.2 (some (jI res.1)) (jIn res.1)) args s 0 0 (jA B sz)) (F0 mi 0 ls []) := by
  unfold f_X12_choose at hyp
  refine jr_iload_n (pc := 0) C L dX12_choose_0 rfl rfl ?_
  refine jr_iconst (pc := 1) C dX12_choose_1 ?_
  refine jr_bipush (pc := 2) C dX12_choose_2 (by decide) ?_
  obtain ⟨q1, hq1, hyp⟩ := jbind hyp
  refine jr_callS_I (pc := 4) C S L (As := [jI x1, jI 0, jI 9]) (rest := []) (c_X12_in (m0 := m) h_x1 (show jIn 0 from ⟨by decide, by decide⟩) (show jIn 9 from ⟨by decide, by decide⟩) hq1) ms_X12_in ml_X12_80 (by decide) rfl rfl rfl (Nat.le_of_ble_eq_true rfl) ⟨Nat.le_refl 0, Nat.le_refl 0⟩ dX12_choose_4 (fun p2 H locs S => ?_)
  refine jr_if_ne (pc := 7) C p2 (tgt := 13) dX12_choose_7 (by decide) (fun c3 => ?_) (fun c3 => ?_)
  · have hyp := (if_pos c3).symm.trans hyp
    refine jr_bipush (pc := 10) C dX12_choose_10 (by decide) ?_
    cases hyp
    exact jr_iret C S (show jIn (-2) from ⟨by decide, by decide⟩) dX12_choose_12
  · have hyp := (if_neg c3).symm.trans hyp
    refine jr_aload_n (pc := 13) C L dX12_choose_13 rfl rfl ?_
    obtain ⟨v4, hv4, hyp⟩ := jbind hyp
    have iv4 := jrf_in S hv4
    refine jr_getI (pc := 14) C S lf_X12_210 rfl hv4 dX12_choose_14 ?_
    refine jr_bipush (pc := 17) C dX12_choose_17 (by decide) ?_
    refine jr_icmp_ne (pc := 19) C iv4 (show jIn 20 from ⟨by decide, by decide⟩) (tgt := 25) dX12_choose_19 (by decide) (fun c5 => ?_) (fun c5 => ?_)
    · have hyp := (if_pos c5).symm.trans hyp
      refine jr_bipush (pc := 22) C dX12_choose_22 (by decide) ?_
      cases hyp
      exact jr_iret C S (show jIn (-4) from ⟨by decide, by decide⟩) dX12_choose_24
    · have hyp := (if_neg c5).symm.trans hyp
      refine jr_aload_n (pc := 25) C L dX12_choose_25 rfl rfl ?_
      obtain ⟨v6, hv6, hyp⟩ := jbind hyp
      refine jr_getR (pc := 26) C S lf_X12_28 rfl hv6 dX12_choose_26 ?_
      refine jr_aload_n (pc := 29) C L dX12_choose_29 rfl rfl ?_
      obtain ⟨v7, hv7, hyp⟩ := jbind hyp
      have iv7 := jrf_in S hv7
      refine jr_getI (pc := 30) C S lf_X12_210 rfl hv7 dX12_choose_30 ?_
      refine jr_iload_n (pc := 33) C L dX12_choose_33 rfl rfl ?_
      obtain ⟨m8, hm8, hyp⟩ := jbind hyp
      refine jr_ias (pc := 34) C S iv7 h_x1 hm8 dX12_choose_34 (fun H locs S => ?_)
      refine jr_aload_n (pc := 35) C L dX12_choose_35 rfl rfl ?_
      refine jr_dupR (pc := 36) C dX12_choose_36 ?_
      obtain ⟨v9, hv9, hyp⟩ := jbind hyp
      have iv9 := jrf_in S hv9
      refine jr_getI (pc := 37) C S lf_X12_210 rfl hv9 dX12_choose_37 ?_
      refine jr_iconst (pc := 40) C dX12_choose_40 ?_
      refine jr_iadd (pc := 41) C dX12_choose_41 ?_
      obtain ⟨m10, hm10, hyp⟩ := jbind hyp
      refine jr_putI (pc := 42) C S lf_X12_210 fp_X12_7 rfl (jIn_w _) hm10 dX12_choose_42 (fun H locs S => ?_)
      refine jr_aload_n (pc := 45) C L dX12_choose_45 rfl rfl ?_
      obtain ⟨v11, hv11, hyp⟩ := jbind hyp
      have iv11 := jrf_in S hv11
      refine jr_getI (pc := 46) C S lf_X12_210 rfl hv11 dX12_choose_46 ?_
      cases hyp
      exact jr_iret C S iv11 dX12_choose_49
theorem c_X12_choose {l : Launch} {D : va_G} {cy : Nat → ClassId} {B sz : Nat} {sh : jm_S} {res : (Int × jm_M)} {m : jm_M} {a0 : Nat} {x1 : Int} (h_x1 : jIn x1) (hyp : f_X12_choose sh a0 x1 m = some res) : jCt l D cy B sz sh 1 yX12_choose cX12_choose 2 (some .int) [jR B a0, jI x1] m (some (jI res.1)) res.2 (jIn res.1) :=
  jc_of (by decide) (fun v h => by simp only [List.mem_cons, List.not_mem_nil, or_false] at h; rcases h with rfl | rfl <;> first | rfl | exact jR_cat _ _) (Nat.le_of_ble_eq_true rfl) (fun C S L => t_X12_choose_e C  h_x1 S L hyp)
set_option maxHeartbeats 4000000 in
set_option maxRecDepth 100000 in
theorem t_X12_forget_e {p : Program} {l : Launch} {e : Env} {s : State} {mi : MethodId} {args : Array Value} {below : List Frame} {meth : Method} {c : Code} {D : va_G} {cy : Nat → ClassId} {B sz : Nat} {sh : jm_S} {res : (Int × jm_M)} (C : jCx p s mi args meth c cX12_forget 2 RX12 (some .int) D cy) {a0 : Nat} {m : jm_M} {H : Heap} {locs : List Loc} {ls : Array Slot} (S : jHs D cy B sz sh (jA B sz) s.heap H locs m) (L : jL ls [some (jR B a0), none]) (hyp : f_X12_forget sh a0 m = some res) : W p l e (jrm 0 0 0) s mi args below meth c H locs 0 0 (MQ below (jQc D cy B sz sh res.2 (some (jI res.1)) (jIn res.1)) args s 0 0 (jA B sz)) (F0 mi 0 ls []) := by
  unfold f_X12_forget at hyp
  refine jr_aload_n (pc := 0) C L dX12_forget_0 rfl rfl ?_
  obtain ⟨v1, hv1, hyp⟩ := jbind hyp
  have iv1 := jrf_in S hv1
  refine jr_getI (pc := 1) C S lf_X12_210 rfl hv1 dX12_forget_1 ?_
  refine jr_istore_n (pc := 4) C L dX12_forget_4 rfl (Nat.le_of_ble_eq_true rfl) (fun ls L => ?_)
  have L : jL ls [some (jR B a0), some (jI v1)] := L
  refine jr_aload_n (pc := 5) C L dX12_forget_5 rfl rfl ?_
  refine jr_iconst (pc := 6) C dX12_forget_6 ?_
  obtain ⟨m2, hm2, hyp⟩ := jbind hyp
  refine jr_putI (pc := 7) C S lf_X12_210 fp_X12_7 rfl (show jIn 0 from ⟨by decide, by decide⟩) hm2 dX12_forget_7 (fun H locs S => ?_)
  refine jr_iload_n (pc := 10) C L dX12_forget_10 rfl rfl ?_
  cases hyp
  exact jr_iret C S iv1 dX12_forget_11
theorem c_X12_forget {l : Launch} {D : va_G} {cy : Nat → ClassId} {B sz : Nat} {sh : jm_S} {res : (Int × jm_M)} {m : jm_M} {a0 : Nat} (hyp : f_X12_forget sh a0 m = some res) : jCt l D cy B sz sh 0 yX12_forget cX12_forget 2 (some .int) [jR B a0] m (some (jI res.1)) res.2 (jIn res.1) :=
  jc_of (by decide) (fun v h => by rw [List.mem_singleton.mp h]; first | rfl | exact jR_cat _ _) (Nat.le_of_ble_eq_true rfl) (fun C S L => t_X12_forget_e C   S L hyp)
set_option maxHeartbeats 4000000 in
set_option maxRecDepth 100000 in
theorem t_X12_nextDigit_e {p : Program} {l : Launch} {e : Env} {s : State} {mi : MethodId} {args : Array Value} {below : List Frame} {meth : Method} {c : Code} {D : va_G} {cy : Nat → ClassId} {B sz : Nat} {sh : jm_S} {res : (Int × jm_M)} (C : jCx p s mi args meth c cX12_nextDigit 1 RX12 (some .int) D cy) {a0 : Nat} {m : jm_M} {H : Heap} {locs : List Loc} {ls : Array Slot} (S : jHs D cy B sz sh (jA B sz) s.heap H locs m) (L : jL ls [some (jR B a0)]) (hyp : f_X12_nextDigit sh a0 m = some res) : W p l e (jrm 0 0 0) s mi args below meth c H locs 0 0 (MQ below (jQc D cy B sz sh res.2 (some (jI res.1)) (jIn res.1)) args s 0 0 (jA B sz)) (F0 mi 0 ls []) := by
  unfold f_X12_nextDigit at hyp
  refine jr_aload_n (pc := 0) C L dX12_nextDigit_0 rfl rfl ?_
  refine jr_dupR (pc := 1) C dX12_nextDigit_1 ?_
  obtain ⟨v1, hv1, hyp⟩ := jbind hyp
  have iv1 := jrf_in S hv1
  refine jr_getI (pc := 2) C S lf_X12_213 rfl hv1 dX12_nextDigit_2 ?_
  refine jr_iconst (pc := 5) C dX12_nextDigit_5 ?_
  refine jr_iadd (pc := 6) C dX12_nextDigit_6 ?_
  obtain ⟨m2, hm2, hyp⟩ := jbind hyp
  refine jr_putI (pc := 7) C S lf_X12_213 fp_X12_26 rfl (jIn_w _) hm2 dX12_nextDigit_7 (fun H locs S => ?_)
  refine jr_aload_n (pc := 10) C L dX12_nextDigit_10 rfl rfl ?_
  obtain ⟨v3, hv3, hyp⟩ := jbind hyp
  have iv3 := jrf_in S hv3
  refine jr_getI (pc := 11) C S lf_X12_213 rfl hv3 dX12_nextDigit_11 ?_
  refine jr_aload_n (pc := 14) C L dX12_nextDigit_14 rfl rfl ?_
  obtain ⟨v4, hv4, hyp⟩ := jbind hyp
  have iv4 := jrf_in S hv4
  refine jr_getI (pc := 15) C S lf_X12_210 rfl hv4 dX12_nextDigit_15 ?_
  refine jr_icmp_le (pc := 18) C iv3 iv4 (tgt := 25) dX12_nextDigit_18 (by decide) (fun c5 => ?_) (fun c5 => ?_)
  · have hyp := (if_pos c5).symm.trans hyp
    refine jr_iconst (pc := 21) C dX12_nextDigit_21 ?_
    refine jr_goto (pc := 22) C (tgt := 36) dX12_nextDigit_22 (by decide) ?_
    cases hyp
    exact jr_iret C S (show jIn 0 from ⟨by decide, by decide⟩) dX12_nextDigit_36
  · have hyp := (if_neg c5).symm.trans hyp
    refine jr_aload_n (pc := 25) C L dX12_nextDigit_25 rfl rfl ?_
    obtain ⟨v6, hv6, hyp⟩ := jbind hyp
    refine jr_getR (pc := 26) C S lf_X12_28 rfl hv6 dX12_nextDigit_26 ?_
    refine jr_aload_n (pc := 29) C L dX12_nextDigit_29 rfl rfl ?_
    obtain ⟨v7, hv7, hyp⟩ := jbind hyp
    have iv7 := jrf_in S hv7
    refine jr_getI (pc := 30) C S lf_X12_213 rfl hv7 dX12_nextDigit_30 ?_
    refine jr_iconst (pc := 33) C dX12_nextDigit_33 ?_
    refine jr_isub (pc := 34) C dX12_nextDigit_34 ?_
    obtain ⟨v8, hv8, hyp⟩ := jbind hyp
    have iv8 := jra_in S hv8
    refine jr_ial (pc := 35) C S (jIn_w _) hv8 dX12_nextDigit_35 ?_
    cases hyp
    exact jr_iret C S iv8 dX12_nextDigit_36
theorem c_X12_nextDigit {l : Launch} {D : va_G} {cy : Nat → ClassId} {B sz : Nat} {sh : jm_S} {res : (Int × jm_M)} {m : jm_M} {a0 : Nat} (hyp : f_X12_nextDigit sh a0 m = some res) : jCt l D cy B sz sh 0 yX12_nextDigit cX12_nextDigit 1 (some .int) [jR B a0] m (some (jI res.1)) res.2 (jIn res.1) :=
  jc_of (by decide) (fun v h => by rw [List.mem_singleton.mp h]; first | rfl | exact jR_cat _ _) (Nat.le_of_ble_eq_true rfl) (fun C S L => t_X12_nextDigit_e C   S L hyp)
set_option maxHeartbeats 4000000 in
set_option maxRecDepth 100000 in
theorem t_X12_run_b348 {p : Program} {l : Launch} {e : Env} {s : State} {mi : MethodId} {args : Array Value} {below : List Frame} {meth : Method} {c : Code} {D : va_G} {cy : Nat → ClassId} {B sz : Nat} {sh : jm_S} {res : (Int × jm_M)} {N : Nat} {k48 : Nat → Int → Int → Int → Int → Int → Int → jm_M → Option (Int × jm_M)} (C : jCx p s mi args meth c cX12_run 10 RX12 (some .int) D cy) (K48 : ∀ (a0 : Nat) (x2 : Int) (x3 : Int) (x4 : Int) (x5 : Int) (x6 : Int) (x7 : Int) , jIn x2 → jIn x3 → jIn x4 → jIn x5 → jIn x6 → jIn x7 → ∀ (m : jm_M) (H : Heap) (locs : List Loc) (ls : Array Slot), jHs D cy B sz sh (jA B sz) s.heap H locs m → jL ls [some (jR B a0), none, some (jI x2), some (jI x3), some (jI x4), some (jI x5), some (jI x6), some (jI x7), none, none] → k48 a0 x2 x3 x4 x5 x6 x7 m = some res → W p l e (jrm 3 0 0) s mi args below meth c H locs 0 0 (MQ below (jQc D cy B sz sh res.2 (some (jI res.1)) (jIn res.1)) args s 0 0 (jA B sz)) (F0 mi 48 ls [])) {a0 : Nat} {x2 : Int} (h_x2 : jIn x2) {x3 : Int} (h_x3 : jIn x3) {x4 : Int} (h_x4 : jIn x4) {x5 : Int} (h_x5 : jIn x5) {x6 : Int} (h_x6 : jIn x6) {x7 : Int} (h_x7 : jIn x7) {m : jm_M} {H : Heap} {locs : List Loc} {ls : Array Slot} (S : jHs D cy B sz sh (jA B sz) s.heap H locs m) (L : jL ls [some (jR B a0), none, some (jI x2), some (jI x3), some (jI x4), some (jI x5), some (jI x6), some (jI x7), none, none]) (hyp : f_X12_run_b348 N sh k48 a0 x2 x3 x4 x5 x6 x7 m = some res) : W p l e (jrm 3 0 0) s mi args below meth c H locs 0 0 (MQ below (jQc D cy B sz sh res.2 (some (jI res.1)) (jIn res.1)) args s 0 0 (jA B sz)) (F0 mi 348 ls []) := by
  unfold f_X12_run_b348 at hyp
  refine jr_goto (pc := 348) C (tgt := 48) dX12_run_348 (by decide) ?_
  exact K48 a0 x2 x3 x4 x5 x6 x7 h_x2 h_x3 h_x4 h_x5 h_x6 h_x7 m _ _ _ S (L.sub (jsub_s (jsub_n (jsub_s (jsub_s (jsub_s (jsub_s (jsub_s (jsub_s (jsub_n (jsub_n jsub_0))))))))))) hyp
set_option maxHeartbeats 4000000 in
set_option maxRecDepth 100000 in
theorem t_X12_run_b316 {p : Program} {l : Launch} {e : Env} {s : State} {mi : MethodId} {args : Array Value} {below : List Frame} {meth : Method} {c : Code} {D : va_G} {cy : Nat → ClassId} {B sz : Nat} {sh : jm_S} {res : (Int × jm_M)} {N : Nat} {k48 : Nat → Int → Int → Int → Int → Int → Int → jm_M → Option (Int × jm_M)} (C : jCx p s mi args meth c cX12_run 10 RX12 (some .int) D cy) (K48 : ∀ (a0 : Nat) (x2 : Int) (x3 : Int) (x4 : Int) (x5 : Int) (x6 : Int) (x7 : Int) , jIn x2 → jIn x3 → jIn x4 → jIn x5 → jIn x6 → jIn x7 → ∀ (m : jm_M) (H : Heap) (locs : List Loc) (ls : Array Slot), jHs D cy B sz sh (jA B sz) s.heap H locs m → jL ls [some (jR B a0), none, some (jI x2), some (jI x3), some (jI x4), some (jI x5), some (jI x6), some (jI x7), none, none] → k48 a0 x2 x3 x4 x5 x6 x7 m = some res → W p l e (jrm 3 0 0) s mi args below meth c H locs 0 0 (MQ below (jQc D cy B sz sh res.2 (some (jI res.1)) (jIn res.1)) args s 0 0 (jA B sz)) (F0 mi 48 ls [])) {a0 : Nat} {x2 : Int} (h_x2 : jIn x2) {x3 : Int} (h_x3 : jIn x3) {x4 : Int} (h_x4 : jIn x4) {x5 : Int} (h_x5 : jIn x5) {x6 : Int} (h_x6 : jIn x6) {s0 : Int} (h_s0 : jIn s0) {m : jm_M} {H : Heap} {locs : List Loc} {ls : Array Slot} (S : jHs D cy B sz sh (jA B sz) s.heap H locs m) (L : jL ls [some (jR B a0), none, some (jI x2), some (jI x3), some (jI x4), some (jI x5), some (jI x6), none, none, none]) (hyp : f_X12_run_b316 N sh k48 a0 x2 x3 x4 x5 x6 s0 m = some res) : W p l e (jrm 3 0 0) s mi args below meth c H locs 0 0 (MQ below (jQc D cy B sz sh res.2 (some (jI res.1)) (jIn res.1)) args s 0 0 (jA B sz)) (F0 mi 316 ls [jI s0]) := by
  unfold f_X12_run_b316 at hyp
  refine jr_istore (pc := 316) C L dX12_run_316 (Nat.le_of_ble_eq_true rfl) (fun ls L => ?_)
  have L : jL ls [some (jR B a0), none, some (jI x2), some (jI x3), some (jI x4), some (jI x5), some (jI x6), some (jI s0), none, none] := L
  refine jr_goto (pc := 318) C (tgt := 348) dX12_run_318 (by decide) ?_
  exact t_X12_run_b348 C  K48 h_x2 h_x3 h_x4 h_x5 h_x6 h_s0 S (L.sub (jsub_s (jsub_n (jsub_s (jsub_s (jsub_s (jsub_s (jsub_s (jsub_s (jsub_n (jsub_n jsub_0))))))))))) hyp
set_option maxHeartbeats 4000000 in
set_option maxRecDepth 100000 in
theorem t_X12_run_b249 {p : Program} {l : Launch} {e : Env} {s : State} {mi : MethodId} {args : Array Value} {below : List Frame} {meth : Method} {c : Code} {D : va_G} {cy : Nat → ClassId} {B sz : Nat} {sh : jm_S} {res : (Int × jm_M)} {N : Nat} {k48 : Nat → Int → Int → Int → Int → Int → Int → jm_M → Option (Int × jm_M)} (C : jCx p s mi args meth c cX12_run 10 RX12 (some .int) D cy) (K48 : ∀ (a0 : Nat) (x2 : Int) (x3 : Int) (x4 : Int) (x5 : Int) (x6 : Int) (x7 : Int) , jIn x2 → jIn x3 → jIn x4 → jIn x5 → jIn x6 → jIn x7 → ∀ (m : jm_M) (H : Heap) (locs : List Loc) (ls : Array Slot), jHs D cy B sz sh (jA B sz) s.heap H locs m → jL ls [some (jR B a0), none, some (jI x2), some (jI x3), some (jI x4), some (jI x5), some (jI x6), some (jI x7), none, none] → k48 a0 x2 x3 x4 x5 x6 x7 m = some res → W p l e (jrm 3 0 0) s mi args below meth c H locs 0 0 (MQ below (jQc D cy B sz sh res.2 (some (jI res.1)) (jIn res.1)) args s 0 0 (jA B sz)) (F0 mi 48 ls [])) {a0 : Nat} {x2 : Int} (h_x2 : jIn x2) {x3 : Int} (h_x3 : jIn x3) {x5 : Int} (h_x5 : jIn x5) {x6 : Int} (h_x6 : jIn x6) {x7 : Int} (h_x7 : jIn x7) {s0 : Int} (h_s0 : jIn s0) {s1 : Int} (h_s1 : jIn s1) {m : jm_M} {H : Heap} {locs : List Loc} {ls : Array Slot} (S : jHs D cy B sz sh (jA B sz) s.heap H locs m) (L : jL ls [some (jR B a0), none, some (jI x2), some (jI x3), none, some (jI x5), some (jI x6), some (jI x7), none, none]) (hyp : f_X12_run_b249 N sh k48 a0 x2 x3 x5 x6 x7 s0 s1 m = some res) : W p l e (jrm 3 0 0) s mi args below meth c H locs 0 0 (MQ below (jQc D cy B sz sh res.2 (some (jI res.1)) (jIn res.1)) args s 0 0 (jA B sz)) (F0 mi 249 ls [jI s1, jI s0]) := by
  unfold f_X12_run_b249 at hyp
  refine jr_iadd (pc := 249) C dX12_run_249 ?_
  refine jr_istore (pc := 250) C L dX12_run_250 (Nat.le_of_ble_eq_true rfl) (fun ls L => ?_)
  have L : jL ls [some (jR B a0), none, some (jI x2), some (jI x3), some (jI (jw (s0 + s1))), some (jI x5), some (jI x6), some (jI x7), none, none] := L
  refine jr_goto (pc := 252) C (tgt := 348) dX12_run_252 (by decide) ?_
  exact t_X12_run_b348 C  K48 h_x2 h_x3 (jIn_w _) h_x5 h_x6 h_x7 S (L.sub (jsub_s (jsub_n (jsub_s (jsub_s (jsub_s (jsub_s (jsub_s (jsub_s (jsub_n (jsub_n jsub_0))))))))))) hyp
set_option maxHeartbeats 4000000 in
set_option maxRecDepth 100000 in
theorem t_X12_run_b227 {p : Program} {l : Launch} {e : Env} {s : State} {mi : MethodId} {args : Array Value} {below : List Frame} {meth : Method} {c : Code} {D : va_G} {cy : Nat → ClassId} {B sz : Nat} {sh : jm_S} {res : (Int × jm_M)} {N : Nat} {k48 : Nat → Int → Int → Int → Int → Int → Int → jm_M → Option (Int × jm_M)} (C : jCx p s mi args meth c cX12_run 10 RX12 (some .int) D cy) (K48 : ∀ (a0 : Nat) (x2 : Int) (x3 : Int) (x4 : Int) (x5 : Int) (x6 : Int) (x7 : Int) , jIn x2 → jIn x3 → jIn x4 → jIn x5 → jIn x6 → jIn x7 → ∀ (m : jm_M) (H : Heap) (locs : List Loc) (ls : Array Slot), jHs D cy B sz sh (jA B sz) s.heap H locs m → jL ls [some (jR B a0), none, some (jI x2), some (jI x3), some (jI x4), some (jI x5), some (jI x6), some (jI x7), none, none] → k48 a0 x2 x3 x4 x5 x6 x7 m = some res → W p l e (jrm 3 0 0) s mi args below meth c H locs 0 0 (MQ below (jQc D cy B sz sh res.2 (some (jI res.1)) (jIn res.1)) args s 0 0 (jA B sz)) (F0 mi 48 ls [])) {a0 : Nat} {x2 : Int} (h_x2 : jIn x2) {x3 : Int} (h_x3 : jIn x3) {x4 : Int} (h_x4 : jIn x4) {x5 : Int} (h_x5 : jIn x5) {x7 : Int} (h_x7 : jIn x7) {s0 : Int} (h_s0 : jIn s0) {s1 : Int} (h_s1 : jIn s1) {m : jm_M} {H : Heap} {locs : List Loc} {ls : Array Slot} (S : jHs D cy B sz sh (jA B sz) s.heap H locs m) (L : jL ls [some (jR B a0), none, some (jI x2), some (jI x3), some (jI x4), some (jI x5), none, some (jI x7), none, none]) (hyp : f_X12_run_b227 N sh k48 a0 x2 x3 x4 x5 x7 s0 s1 m = some res) : W p l e (jrm 3 0 0) s mi args below meth c H locs 0 0 (MQ below (jQc D cy B sz sh res.2 (some (jI res.1)) (jIn res.1)) args s 0 0 (jA B sz)) (F0 mi 227 ls [jI s1, jI s0]) := by
  unfold f_X12_run_b227 at hyp
  refine jr_iadd (pc := 227) C dX12_run_227 ?_
  refine jr_istore (pc := 228) C L dX12_run_228 (Nat.le_of_ble_eq_true rfl) (fun ls L => ?_)
  have L : jL ls [some (jR B a0), none, some (jI x2), some (jI x3), some (jI x4), some (jI x5), some (jI (jw (s0 + s1))), some (jI x7), none, none] := L
  refine jr_iload (pc := 230) C L dX12_run_230 rfl ?_
  refine jr_aload_n (pc := 232) C L dX12_run_232 rfl rfl ?_
  obtain ⟨v1, hv1, hyp⟩ := jbind hyp
  have iv1 := jrf_in S hv1
  refine jr_getI (pc := 233) C S lf_X12_127 rfl hv1 dX12_run_233 ?_
  refine jr_if_eq (pc := 236) C iv1 (tgt := 243) dX12_run_236 (by decide) (fun c2 => ?_) (fun c2 => ?_)
  · have hyp := (if_pos c2).symm.trans hyp
    refine jr_aload_n (pc := 243) C L dX12_run_243 rfl rfl ?_
    obtain ⟨v3, hv3, hyp⟩ := jbind hyp
    refine jr_getR (pc := 244) C S lf_X12_7 rfl hv3 dX12_run_244 ?_
    refine jr_iconst (pc := 247) C dX12_run_247 ?_
    obtain ⟨v4, hv4, hyp⟩ := jbind hyp
    have iv4 := jra_in S hv4
    refine jr_ial (pc := 248) C S (show jIn 2 from ⟨by decide, by decide⟩) hv4 dX12_run_248 ?_
    exact t_X12_run_b249 C  K48 h_x2 h_x3 h_x5 (jIn_w _) h_x7 h_x4 iv4 S (L.sub (jsub_s (jsub_n (jsub_s (jsub_s (jsub_n (jsub_s (jsub_s (jsub_s (jsub_n (jsub_n jsub_0))))))))))) hyp
  · have hyp := (if_neg c2).symm.trans hyp
    refine jr_iconst (pc := 239) C dX12_run_239 ?_
    refine jr_goto (pc := 240) C (tgt := 249) dX12_run_240 (by decide) ?_
    exact t_X12_run_b249 C  K48 h_x2 h_x3 h_x5 (jIn_w _) h_x7 h_x4 (show jIn 1 from ⟨by decide, by decide⟩) S (L.sub (jsub_s (jsub_n (jsub_s (jsub_s (jsub_n (jsub_s (jsub_s (jsub_s (jsub_n (jsub_n jsub_0))))))))))) hyp
set_option maxHeartbeats 4000000 in
set_option maxRecDepth 100000 in
theorem t_X12_run_b163 {p : Program} {l : Launch} {e : Env} {s : State} {mi : MethodId} {args : Array Value} {below : List Frame} {meth : Method} {c : Code} {D : va_G} {cy : Nat → ClassId} {B sz : Nat} {sh : jm_S} {res : (Int × jm_M)} {N : Nat} {k48 : Nat → Int → Int → Int → Int → Int → Int → jm_M → Option (Int × jm_M)} (C : jCx p s mi args meth c cX12_run 10 RX12 (some .int) D cy) (K48 : ∀ (a0 : Nat) (x2 : Int) (x3 : Int) (x4 : Int) (x5 : Int) (x6 : Int) (x7 : Int) , jIn x2 → jIn x3 → jIn x4 → jIn x5 → jIn x6 → jIn x7 → ∀ (m : jm_M) (H : Heap) (locs : List Loc) (ls : Array Slot), jHs D cy B sz sh (jA B sz) s.heap H locs m → jL ls [some (jR B a0), none, some (jI x2), some (jI x3), some (jI x4), some (jI x5), some (jI x6), some (jI x7), none, none] → k48 a0 x2 x3 x4 x5 x6 x7 m = some res → W p l e (jrm 3 0 0) s mi args below meth c H locs 0 0 (MQ below (jQc D cy B sz sh res.2 (some (jI res.1)) (jIn res.1)) args s 0 0 (jA B sz)) (F0 mi 48 ls [])) {a0 : Nat} {x2 : Int} (h_x2 : jIn x2) {x3 : Int} (h_x3 : jIn x3) {x4 : Int} (h_x4 : jIn x4) {x5 : Int} (h_x5 : jIn x5) {x6 : Int} (h_x6 : jIn x6) {x7 : Int} (h_x7 : jIn x7) {r0 : Nat} {s1 : Int} (h_s1 : jIn s1) {s2 : Int} (h_s2 : jIn s2) {m : jm_M} {H : Heap} {locs : List Loc} {ls : Array Slot} (S : jHs D cy B sz sh (jA B sz) s.heap H locs m) (L : jL ls [some (jR B a0), none, some (jI x2), some (jI x3), some (jI x4), some (jI x5), some (jI x6), some (jI x7), none, none]) (hyp : f_X12_run_b163 N sh k48 a0 x2 x3 x4 x5 x6 x7 r0 s1 s2 m = some res) : W p l e (jrm 3 0 0) s mi args below meth c H locs 0 0 (MQ below (jQc D cy B sz sh res.2 (some (jI res.1)) (jIn res.1)) args s 0 0 (jA B sz)) (F0 mi 163 ls [jI s2, jI s1, jR B r0]) := by
  unfold f_X12_run_b163 at hyp
  refine jr_isub (pc := 163) C dX12_run_163 ?_
  obtain ⟨m5, hm5, hyp⟩ := jbind hyp
  refine jr_putI (pc := 164) C S lf_X12_165 fp_X12_12 rfl (jIn_w _) hm5 dX12_run_164 (fun H locs S => ?_)
  refine jr_goto (pc := 167) C (tgt := 48) dX12_run_167 (by decide) ?_
  exact K48 a0 x2 x3 x4 x5 x6 x7 h_x2 h_x3 h_x4 h_x5 h_x6 h_x7 m5 _ _ _ S (L.sub (jsub_s (jsub_n (jsub_s (jsub_s (jsub_s (jsub_s (jsub_s (jsub_s (jsub_n (jsub_n jsub_0))))))))))) hyp
set_option maxHeartbeats 4000000 in
set_option maxRecDepth 100000 in
theorem t_X12_run_b141 {p : Program} {l : Launch} {e : Env} {s : State} {mi : MethodId} {args : Array Value} {below : List Frame} {meth : Method} {c : Code} {D : va_G} {cy : Nat → ClassId} {B sz : Nat} {sh : jm_S} {res : (Int × jm_M)} {N : Nat} {k48 : Nat → Int → Int → Int → Int → Int → Int → jm_M → Option (Int × jm_M)} (C : jCx p s mi args meth c cX12_run 10 RX12 (some .int) D cy) (K48 : ∀ (a0 : Nat) (x2 : Int) (x3 : Int) (x4 : Int) (x5 : Int) (x6 : Int) (x7 : Int) , jIn x2 → jIn x3 → jIn x4 → jIn x5 → jIn x6 → jIn x7 → ∀ (m : jm_M) (H : Heap) (locs : List Loc) (ls : Array Slot), jHs D cy B sz sh (jA B sz) s.heap H locs m → jL ls [some (jR B a0), none, some (jI x2), some (jI x3), some (jI x4), some (jI x5), some (jI x6), some (jI x7), none, none] → k48 a0 x2 x3 x4 x5 x6 x7 m = some res → W p l e (jrm 3 0 0) s mi args below meth c H locs 0 0 (MQ below (jQc D cy B sz sh res.2 (some (jI res.1)) (jIn res.1)) args s 0 0 (jA B sz)) (F0 mi 48 ls [])) {a0 : Nat} {x2 : Int} (h_x2 : jIn x2) {x3 : Int} (h_x3 : jIn x3) {x4 : Int} (h_x4 : jIn x4) {x5 : Int} (h_x5 : jIn x5) {x6 : Int} (h_x6 : jIn x6) {x8 : Int} (h_x8 : jIn x8) {s0 : Int} (h_s0 : jIn s0) {m : jm_M} {H : Heap} {locs : List Loc} {ls : Array Slot} (S : jHs D cy B sz sh (jA B sz) s.heap H locs m) (L : jL ls [some (jR B a0), none, some (jI x2), some (jI x3), some (jI x4), some (jI x5), some (jI x6), none, some (jI x8), none]) (hyp : f_X12_run_b141 N sh k48 a0 x2 x3 x4 x5 x6 x8 s0 m = some res) : W p l e (jrm 3 0 0) s mi args below meth c H locs 0 0 (MQ below (jQc D cy B sz sh res.2 (some (jI res.1)) (jIn res.1)) args s 0 0 (jA B sz)) (F0 mi 141 ls [jI s0]) := by
  unfold f_X12_run_b141 at hyp
  refine jr_istore (pc := 141) C L dX12_run_141 (Nat.le_of_ble_eq_true rfl) (fun ls L => ?_)
  have L : jL ls [some (jR B a0), none, some (jI x2), some (jI x3), some (jI x4), some (jI x5), some (jI x6), some (jI s0), some (jI x8), none] := L
  refine jr_aload_n (pc := 143) C L dX12_run_143 rfl rfl ?_
  refine jr_dupR (pc := 144) C dX12_run_144 ?_
  obtain ⟨v6, hv6, hyp⟩ := jbind hyp
  have iv6 := jrf_in S hv6
  refine jr_getI (pc := 145) C S lf_X12_165 rfl hv6 dX12_run_145 ?_
  refine jr_aload_n (pc := 148) C L dX12_run_148 rfl rfl ?_
  obtain ⟨v7, hv7, hyp⟩ := jbind hyp
  refine jr_getR (pc := 149) C S lf_X12_43 rfl hv7 dX12_run_149 ?_
  refine jr_iload (pc := 152) C L dX12_run_152 rfl ?_
  obtain ⟨v8, hv8, hyp⟩ := jbind hyp
  have iv8 := jra_in S hv8
  refine jr_ial (pc := 154) C S h_x8 hv8 dX12_run_154 ?_
  refine jr_if_ge (pc := 155) C iv8 (tgt := 162) dX12_run_155 (by decide) (fun c9 => ?_) (fun c9 => ?_)
  · have hyp := (if_pos c9).symm.trans hyp
    refine jr_iconst (pc := 158) C dX12_run_158 ?_
    refine jr_goto (pc := 159) C (tgt := 163) dX12_run_159 (by decide) ?_
    exact t_X12_run_b163 C  K48 h_x2 h_x3 h_x4 h_x5 h_x6 h_s0 iv6 (show jIn 1 from ⟨by decide, by decide⟩) S (L.sub (jsub_s (jsub_n (jsub_s (jsub_s (jsub_s (jsub_s (jsub_s (jsub_s (jsub_n (jsub_n jsub_0))))))))))) hyp
  · have hyp := (if_neg c9).symm.trans hyp
    refine jr_iconst (pc := 162) C dX12_run_162 ?_
    exact t_X12_run_b163 C  K48 h_x2 h_x3 h_x4 h_x5 h_x6 h_s0 iv6 (show jIn 0 from ⟨by decide, by decide⟩) S (L.sub (jsub_s (jsub_n (jsub_s (jsub_s (jsub_s (jsub_s (jsub_s (jsub_s (jsub_n (jsub_n jsub_0))))))))))) hyp
set_option maxHeartbeats 4000000 in
set_option maxRecDepth 100000 in
theorem t_X12_run_b60 {p : Program} {l : Launch} {e : Env} {s : State} {mi : MethodId} {args : Array Value} {below : List Frame} {meth : Method} {c : Code} {D : va_G} {cy : Nat → ClassId} {B sz : Nat} {sh : jm_S} {res : (Int × jm_M)} {N : Nat} {k48 : Nat → Int → Int → Int → Int → Int → Int → jm_M → Option (Int × jm_M)} (C : jCx p s mi args meth c cX12_run 10 RX12 (some .int) D cy) (K48 : ∀ (a0 : Nat) (x2 : Int) (x3 : Int) (x4 : Int) (x5 : Int) (x6 : Int) (x7 : Int) , jIn x2 → jIn x3 → jIn x4 → jIn x5 → jIn x6 → jIn x7 → ∀ (m : jm_M) (H : Heap) (locs : List Loc) (ls : Array Slot), jHs D cy B sz sh (jA B sz) s.heap H locs m → jL ls [some (jR B a0), none, some (jI x2), some (jI x3), some (jI x4), some (jI x5), some (jI x6), some (jI x7), none, none] → k48 a0 x2 x3 x4 x5 x6 x7 m = some res → W p l e (jrm 3 0 0) s mi args below meth c H locs 0 0 (MQ below (jQc D cy B sz sh res.2 (some (jI res.1)) (jIn res.1)) args s 0 0 (jA B sz)) (F0 mi 48 ls [])) {a0 : Nat} {x2 : Int} (h_x2 : jIn x2) {x3 : Int} (h_x3 : jIn x3) {x4 : Int} (h_x4 : jIn x4) {x5 : Int} (h_x5 : jIn x5) {x6 : Int} (h_x6 : jIn x6) {x7 : Int} (h_x7 : jIn x7) {m : jm_M} {H : Heap} {locs : List Loc} {ls : Array Slot} (S : jHs D cy B sz sh (jA B sz) s.heap H locs m) (L : jL ls [some (jR B a0), none, some (jI x2), some (jI x3), some (jI x4), some (jI x5), some (jI x6), some (jI x7), none, none]) (hyp : f_X12_run_b60 N sh k48 a0 x2 x3 x4 x5 x6 x7 m = some res) : W p l e (jrm 3 0 0) s mi args below meth c H locs 0 0 (MQ below (jQc D cy B sz sh res.2 (some (jI res.1)) (jIn res.1)) args s 0 0 (jA B sz)) (F0 mi 60 ls []) := by
  unfold f_X12_run_b60 at hyp
  refine jr_iload (pc := 60) C L dX12_run_60 rfl ?_
  refine jr_if_ge (pc := 62) C h_x7 (tgt := 170) dX12_run_62 (by decide) (fun c10 => ?_) (fun c10 => ?_)
  · have hyp := (if_pos c10).symm.trans hyp
    refine jr_aload_n (pc := 65) C L dX12_run_65 rfl rfl ?_
    obtain ⟨v11, hv11, hyp⟩ := jbind hyp
    have iv11 := jrf_in S hv11
    refine jr_getI (pc := 66) C S lf_X12_165 rfl hv11 dX12_run_66 ?_
    refine jr_iconst (pc := 69) C dX12_run_69 ?_
    refine jr_isub (pc := 70) C dX12_run_70 ?_
    refine jr_istore (pc := 71) C L dX12_run_71 (Nat.le_of_ble_eq_true rfl) (fun ls L => ?_)
    have L : jL ls [some (jR B a0), none, some (jI x2), some (jI x3), some (jI x4), some (jI x5), some (jI x6), some (jI x7), some (jI (jw (v11 - 1))), none] := L
    refine jr_aload_n (pc := 73) C L dX12_run_73 rfl rfl ?_
    obtain ⟨v12, hv12, hyp⟩ := jbind hyp
    refine jr_getR (pc := 74) C S lf_X12_43 rfl hv12 dX12_run_74 ?_
    refine jr_iload (pc := 77) C L dX12_run_77 rfl ?_
    refine jr_dup2 (pc := 79) C dX12_run_79 ?_
    obtain ⟨v13, hv13, hyp⟩ := jbind hyp
    have iv13 := jra_in S hv13
    refine jr_ial (pc := 80) C S (jIn_w _) hv13 dX12_run_80 ?_
    refine jr_iconst (pc := 81) C dX12_run_81 ?_
    refine jr_isub (pc := 82) C dX12_run_82 ?_
    obtain ⟨m14, hm14, hyp⟩ := jbind hyp
    refine jr_ias (pc := 83) C S (jIn_w _) (jIn_w _) hm14 dX12_run_83 (fun H locs S => ?_)
    refine jr_aload_n (pc := 84) C L dX12_run_84 rfl rfl ?_
    obtain ⟨v15, hv15, hyp⟩ := jbind hyp
    refine jr_getR (pc := 85) C S lf_X12_37 rfl hv15 dX12_run_85 ?_
    refine jr_iload (pc := 88) C L dX12_run_88 rfl ?_
    obtain ⟨v16, hv16, hyp⟩ := jbind hyp
    have iv16 := jra_in S hv16
    refine jr_ial (pc := 90) C S (jIn_w _) hv16 dX12_run_90 ?_
    refine jr_istore (pc := 91) C L dX12_run_91 (Nat.le_of_ble_eq_true rfl) (fun ls L => ?_)
    have L : jL ls [some (jR B a0), none, some (jI x2), some (jI x3), some (jI x4), some (jI x5), some (jI x6), some (jI x7), some (jI (jw (v11 - 1))), some (jI v16)] := L
    refine jr_aload_n (pc := 93) C L dX12_run_93 rfl rfl ?_
    obtain ⟨v17, hv17, hyp⟩ := jbind hyp
    refine jr_getR (pc := 94) C S lf_X12_43 rfl hv17 dX12_run_94 ?_
    refine jr_iload (pc := 97) C L dX12_run_97 rfl ?_
    obtain ⟨v18, hv18, hyp⟩ := jbind hyp
    have iv18 := jra_in S hv18
    refine jr_ial (pc := 99) C S (jIn_w _) hv18 dX12_run_99 ?_
    refine jr_if_ge (pc := 100) C iv18 (tgt := 108) dX12_run_100 (by decide) (fun c19 => ?_) (fun c19 => ?_)
    · have hyp := (if_pos c19).symm.trans hyp
      refine jr_bipush (pc := 103) C dX12_run_103 (by decide) ?_
      refine jr_goto (pc := 105) C (tgt := 141) dX12_run_105 (by decide) ?_
      exact t_X12_run_b141 C  K48 h_x2 h_x3 h_x4 h_x5 h_x6 (jIn_w _) (show jIn (-6) from ⟨by decide, by decide⟩) S (L.sub (jsub_s (jsub_n (jsub_s (jsub_s (jsub_s (jsub_s (jsub_s (jsub_n (jsub_s (jsub_n jsub_0))))))))))) hyp
    · have hyp := (if_neg c19).symm.trans hyp
      refine jr_aload_n (pc := 108) C L dX12_run_108 rfl rfl ?_
      obtain ⟨v20, hv20, hyp⟩ := jbind hyp
      refine jr_getR (pc := 109) C S lf_X12_19 rfl hv20 dX12_run_109 ?_
      refine jr_iload (pc := 112) C L dX12_run_112 rfl ?_
      obtain ⟨v21, hv21, hyp⟩ := jbind hyp
      have iv21 := jra_in S hv21
      refine jr_ial (pc := 114) C S iv16 hv21 dX12_run_114 ?_
      refine jr_bipush (pc := 115) C dX12_run_115 (by decide) ?_
      refine jr_icmp_ne (pc := 117) C iv21 (show jIn 59 from ⟨by decide, by decide⟩) (tgt := 137) dX12_run_117 (by decide) (fun c22 => ?_) (fun c22 => ?_)
      · have hyp := (if_pos c22).symm.trans hyp
        refine jr_iload (pc := 120) C L dX12_run_120 rfl ?_
        refine jr_iconst (pc := 122) C dX12_run_122 ?_
        refine jr_iadd (pc := 123) C dX12_run_123 ?_
        refine jr_aload_n (pc := 124) C L dX12_run_124 rfl rfl ?_
        obtain ⟨v23, hv23, hyp⟩ := jbind hyp
        refine jr_getR (pc := 125) C S lf_X12_22 rfl hv23 dX12_run_125 ?_
        refine jr_iload (pc := 128) C L dX12_run_128 rfl ?_
        refine jr_iconst (pc := 130) C dX12_run_130 ?_
        refine jr_iadd (pc := 131) C dX12_run_131 ?_
        obtain ⟨v24, hv24, hyp⟩ := jbind hyp
        have iv24 := jra_in S hv24
        refine jr_ial (pc := 132) C S (jIn_w _) hv24 dX12_run_132 ?_
        refine jr_iadd (pc := 133) C dX12_run_133 ?_
        refine jr_goto (pc := 134) C (tgt := 141) dX12_run_134 (by decide) ?_
        exact t_X12_run_b141 C  K48 h_x2 h_x3 h_x4 h_x5 h_x6 (jIn_w _) (jIn_w _) S (L.sub (jsub_s (jsub_n (jsub_s (jsub_s (jsub_s (jsub_s (jsub_s (jsub_n (jsub_s (jsub_n jsub_0))))))))))) hyp
      · have hyp := (if_neg c22).symm.trans hyp
        refine jr_iload (pc := 137) C L dX12_run_137 rfl ?_
        refine jr_iconst (pc := 139) C dX12_run_139 ?_
        refine jr_iadd (pc := 140) C dX12_run_140 ?_
        exact t_X12_run_b141 C  K48 h_x2 h_x3 h_x4 h_x5 h_x6 (jIn_w _) (jIn_w _) S (L.sub (jsub_s (jsub_n (jsub_s (jsub_s (jsub_s (jsub_s (jsub_s (jsub_n (jsub_s (jsub_n jsub_0))))))))))) hyp
  · have hyp := (if_neg c10).symm.trans hyp
    refine jr_iload (pc := 170) C L dX12_run_170 rfl ?_
    refine jr_istore (pc := 172) C L dX12_run_172 (Nat.le_of_ble_eq_true rfl) (fun ls L => ?_)
    have L : jL ls [some (jR B a0), none, some (jI x2), some (jI x3), some (jI x4), some (jI x5), some (jI x6), some (jI x7), some (jI x7), none] := L
    refine jr_aload_n (pc := 174) C L dX12_run_174 rfl rfl ?_
    obtain ⟨v25, hv25, hyp⟩ := jbind hyp
    refine jr_getR (pc := 175) C S lf_X12_19 rfl hv25 dX12_run_175 ?_
    refine jr_iload (pc := 178) C L dX12_run_178 rfl ?_
    obtain ⟨v26, hv26, hyp⟩ := jbind hyp
    have iv26 := jra_in S hv26
    refine jr_ial (pc := 180) C S h_x7 hv26 dX12_run_180 ?_
    refine jr_istore (pc := 181) C L dX12_run_181 (Nat.le_of_ble_eq_true rfl) (fun ls L => ?_)
    have L : jL ls [some (jR B a0), none, some (jI x2), some (jI x3), some (jI x4), some (jI x5), some (jI x6), some (jI x7), some (jI x7), some (jI v26)] := L
    refine jr_bipush (pc := 183) C dX12_run_183 (by decide) ?_
    refine jr_istore (pc := 185) C L dX12_run_185 (Nat.le_of_ble_eq_true rfl) (fun ls L => ?_)
    have L : jL ls [some (jR B a0), none, some (jI x2), some (jI x3), some (jI x4), some (jI x5), some (jI x6), some (jI (-6)), some (jI x7), some (jI v26)] := L
    refine jr_iload (pc := 187) C L dX12_run_187 rfl ?_
    refine jr_bipush (pc := 189) C dX12_run_189 (by decide) ?_
    refine jr_bipush (pc := 191) C dX12_run_191 (by decide) ?_
    obtain ⟨q27, hq27, hyp⟩ := jbind hyp
    refine jr_callS_I (pc := 193) C S L (As := [jI v26, jI 48, jI 55]) (rest := []) (c_X12_in (m0 := m) iv26 (show jIn 48 from ⟨by decide, by decide⟩) (show jIn 55 from ⟨by decide, by decide⟩) hq27) ms_X12_in ml_X12_80 (by decide) rfl rfl rfl (Nat.le_of_ble_eq_true rfl) ⟨Nat.le_refl 0, Nat.le_refl 0⟩ dX12_run_193 (fun p28 H locs S => ?_)
    refine jr_if_eq (pc := 196) C p28 (tgt := 255) dX12_run_196 (by decide) (fun c29 => ?_) (fun c29 => ?_)
    · have hyp := (if_pos c29).symm.trans hyp
      refine jr_iload (pc := 255) C L dX12_run_255 rfl ?_
      refine jr_bipush (pc := 257) C dX12_run_257 (by decide) ?_
      refine jr_icmp_ne (pc := 259) C iv26 (show jIn 59 from ⟨by decide, by decide⟩) (tgt := 279) dX12_run_259 (by decide) (fun c30 => ?_) (fun c30 => ?_)
      · have hyp := (if_pos c30).symm.trans hyp
        refine jr_aload_n (pc := 262) C L dX12_run_262 rfl rfl ?_
        refine jr_iload (pc := 263) C L dX12_run_263 rfl ?_
        refine jr_iconst (pc := 265) C dX12_run_265 ?_
        refine jr_iconst (pc := 266) C dX12_run_266 ?_
        obtain ⟨u31, hu31, hyp⟩ := jbind hyp
        obtain ⟨q32, hq32, hyp⟩ := jbind hyp
        refine jr_callV_N (pc := 267) C S L (As := [jI x7, jI 0, jI 1]) (rest := []) (c_X12_pile h_x7 (show jIn 0 from ⟨by decide, by decide⟩) (show jIn 1 from ⟨by decide, by decide⟩) hq32) mv_X12_pile ml_X12_174 rfl (jck_spec hu31) (by decide) rfl rfl rfl (Nat.le_of_ble_eq_true rfl) ⟨Nat.le_refl 0, Nat.le_refl 0⟩ dX12_run_267 (fun p33 H locs S => ?_)
        refine jr_iload (pc := 270) C L dX12_run_270 rfl ?_
        refine jr_iconst (pc := 272) C dX12_run_272 ?_
        refine jr_iadd (pc := 273) C dX12_run_273 ?_
        refine jr_istore (pc := 274) C L dX12_run_274 (Nat.le_of_ble_eq_true rfl) (fun ls L => ?_)
        have L : jL ls [some (jR B a0), none, some (jI x2), some (jI x3), some (jI x4), some (jI x5), some (jI x6), some (jI (jw (x7 + 1))), some (jI x7), some (jI v26)] := L
        refine jr_goto (pc := 276) C (tgt := 348) dX12_run_276 (by decide) ?_
        exact t_X12_run_b348 C  K48 h_x2 h_x3 h_x4 h_x5 h_x6 (jIn_w _) S (L.sub (jsub_s (jsub_n (jsub_s (jsub_s (jsub_s (jsub_s (jsub_s (jsub_s (jsub_n (jsub_n jsub_0))))))))))) hyp
      · have hyp := (if_neg c30).symm.trans hyp
        refine jr_iload (pc := 279) C L dX12_run_279 rfl ?_
        refine jr_bipush (pc := 281) C dX12_run_281 (by decide) ?_
        refine jr_icmp_ne (pc := 283) C iv26 (show jIn 63 from ⟨by decide, by decide⟩) (tgt := 321) dX12_run_283 (by decide) (fun c34 => ?_) (fun c34 => ?_)
        · have hyp := (if_pos c34).symm.trans hyp
          refine jr_aload_n (pc := 286) C L dX12_run_286 rfl rfl ?_
          obtain ⟨u35, hu35, hyp⟩ := jbind hyp
          obtain ⟨q36, hq36, hyp⟩ := jbind hyp
          refine jr_callV_I (pc := 287) C S L (As := []) (rest := []) (c_X12_nextDigit  hq36) mv_X12_nextDigit ml_X12_216 rfl (jck_spec hu35) (by decide) rfl rfl rfl (Nat.le_of_ble_eq_true rfl) ⟨Nat.le_refl 0, Nat.le_refl 0⟩ dX12_run_287 (fun p37 H locs S => ?_)
          refine jr_iconst (pc := 290) C dX12_run_290 ?_
          refine jr_irem (pc := 291) C p37 (show jIn 2 from ⟨by decide, by decide⟩) (by decide) dX12_run_291 ?_
          refine jr_if_ne (pc := 292) C (jIn_rem _ p37) (tgt := 302) dX12_run_292 (by decide) (fun c38 => ?_) (fun c38 => ?_)
          · have hyp := (if_pos c38).symm.trans hyp
            refine jr_iload (pc := 295) C L dX12_run_295 rfl ?_
            refine jr_iconst (pc := 297) C dX12_run_297 ?_
            refine jr_iadd (pc := 298) C dX12_run_298 ?_
            refine jr_goto (pc := 299) C (tgt := 316) dX12_run_299 (by decide) ?_
            exact t_X12_run_b316 C  K48 h_x2 h_x3 h_x4 h_x5 h_x6 (jIn_w _) S (L.sub (jsub_s (jsub_n (jsub_s (jsub_s (jsub_s (jsub_s (jsub_s (jsub_n (jsub_n (jsub_n jsub_0))))))))))) hyp
          · have hyp := (if_neg c38).symm.trans hyp
            refine jr_iload (pc := 302) C L dX12_run_302 rfl ?_
            refine jr_iconst (pc := 304) C dX12_run_304 ?_
            refine jr_iadd (pc := 305) C dX12_run_305 ?_
            refine jr_aload_n (pc := 306) C L dX12_run_306 rfl rfl ?_
            obtain ⟨v39, hv39, hyp⟩ := jbind hyp
            refine jr_getR (pc := 307) C S lf_X12_22 rfl hv39 dX12_run_307 ?_
            refine jr_iload (pc := 310) C L dX12_run_310 rfl ?_
            refine jr_iconst (pc := 312) C dX12_run_312 ?_
            refine jr_iadd (pc := 313) C dX12_run_313 ?_
            obtain ⟨v40, hv40, hyp⟩ := jbind hyp
            have iv40 := jra_in S hv40
            refine jr_ial (pc := 314) C S (jIn_w _) hv40 dX12_run_314 ?_
            refine jr_iadd (pc := 315) C dX12_run_315 ?_
            exact t_X12_run_b316 C  K48 h_x2 h_x3 h_x4 h_x5 h_x6 (jIn_w _) S (L.sub (jsub_s (jsub_n (jsub_s (jsub_s (jsub_s (jsub_s (jsub_s (jsub_n (jsub_n (jsub_n jsub_0))))))))))) hyp
        · have hyp := (if_neg c34).symm.trans hyp
          refine jr_iload (pc := 321) C L dX12_run_321 rfl ?_
          obtain ⟨q41, hq41, hyp⟩ := jbind hyp
          refine jr_callS_I (pc := 323) C S L (As := [jI v26]) (rest := []) (c_X12_isLoop (m0 := m) iv26 hq41) ms_X12_isLoop ml_X12_91 (by decide) rfl rfl rfl (Nat.le_of_ble_eq_true rfl) ⟨Nat.le_refl 0, Nat.le_refl 0⟩ dX12_run_323 (fun p42 H locs S => ?_)
          refine jr_if_eq (pc := 326) C p42 (tgt := 348) dX12_run_326 (by decide) (fun c43 => ?_) (fun c43 => ?_)
          · have hyp := (if_pos c43).symm.trans hyp
            exact t_X12_run_b348 C  K48 h_x2 h_x3 h_x4 h_x5 h_x6 (show jIn (-6) from ⟨by decide, by decide⟩) S (L.sub (jsub_s (jsub_n (jsub_s (jsub_s (jsub_s (jsub_s (jsub_s (jsub_s (jsub_n (jsub_n jsub_0))))))))))) hyp
          · have hyp := (if_neg c43).symm.trans hyp
            refine jr_aload_n (pc := 329) C L dX12_run_329 rfl rfl ?_
            refine jr_iload (pc := 330) C L dX12_run_330 rfl ?_
            refine jr_iconst (pc := 332) C dX12_run_332 ?_
            refine jr_aload_n (pc := 333) C L dX12_run_333 rfl rfl ?_
            obtain ⟨u44, hu44, hyp⟩ := jbind hyp
            obtain ⟨q45, hq45, hyp⟩ := jbind hyp
            refine jr_callV_I (pc := 334) C S L (As := []) (rest := [jI 0, jI x7, jR B a0]) (c_X12_nextDigit  hq45) mv_X12_nextDigit ml_X12_216 rfl (jck_spec hu44) (by decide) rfl rfl rfl (by simp [jR_cat, jI_cat]) ⟨Nat.le_refl 0, Nat.le_refl 0⟩ dX12_run_334 (fun p46 H locs S => ?_)
            refine jr_iload (pc := 337) C L dX12_run_337 rfl ?_
            obtain ⟨q47, hq47, hyp⟩ := jbind hyp
            refine jr_callS_I (pc := 339) C S L (As := [jI v26]) (rest := [jI q45.1, jI 0, jI x7, jR B a0]) (c_X12_timesOf (m0 := q45.2) iv26 hq47) ms_X12_timesOf ml_X12_185 (by decide) rfl rfl rfl (by simp [jR_cat, jI_cat]) ⟨Nat.le_refl 0, Nat.le_refl 0⟩ dX12_run_339 (fun p48 H locs S => ?_)
            refine jr_iconst (pc := 342) C dX12_run_342 ?_
            refine jr_iadd (pc := 343) C dX12_run_343 ?_
            by_cases c49 : jw (q47 + 1) = 0
            · exact absurd ((if_pos c49).symm.trans hyp) (by intro h; cases h)
            have hyp := (if_neg c49).symm.trans hyp
            refine jr_irem (pc := 344) C p46 (jIn_w _) c49 dX12_run_344 ?_
            obtain ⟨u50, hu50, hyp⟩ := jbind hyp
            obtain ⟨q51, hq51, hyp⟩ := jbind hyp
            refine jr_callV_N (pc := 345) C S L (As := [jI x7, jI 0, jI (jrem q45.1 (jw (q47 + 1)))]) (rest := []) (c_X12_pile h_x7 (show jIn 0 from ⟨by decide, by decide⟩) (jIn_rem _ p46) hq51) mv_X12_pile ml_X12_174 rfl (jck_spec hu50) (by decide) rfl rfl rfl (Nat.le_of_ble_eq_true rfl) ⟨Nat.le_refl 0, Nat.le_refl 0⟩ dX12_run_345 (fun p52 H locs S => ?_)
            exact t_X12_run_b348 C  K48 h_x2 h_x3 h_x4 h_x5 h_x6 (show jIn (-6) from ⟨by decide, by decide⟩) S (L.sub (jsub_s (jsub_n (jsub_s (jsub_s (jsub_s (jsub_s (jsub_s (jsub_s (jsub_n (jsub_n jsub_0))))))))))) hyp
    · have hyp := (if_neg c29).symm.trans hyp
      refine jr_aload_n (pc := 199) C L dX12_run_199 rfl rfl ?_
      refine jr_iload_n (pc := 200) C L dX12_run_200 rfl rfl ?_
      refine jr_iload (pc := 201) C L dX12_run_201 rfl ?_
      refine jr_bipush (pc := 203) C dX12_run_203 (by decide) ?_
      refine jr_isub (pc := 205) C dX12_run_205 ?_
      obtain ⟨u53, hu53, hyp⟩ := jbind hyp
      obtain ⟨q54, hq54, hyp⟩ := jbind hyp
      refine jr_callV_I (pc := 206) C S L (As := [jI x3, jI (jw (v26 - 48))]) (rest := []) (c_X12_fetch h_x3 (jIn_w _) hq54) mv_X12_fetch ml_X12_150 rfl (jck_spec hu53) (by decide) rfl rfl rfl (Nat.le_of_ble_eq_true rfl) ⟨Nat.le_refl 0, Nat.le_refl 0⟩ dX12_run_206 (fun p55 H locs S => ?_)
      refine jr_istore_n (pc := 209) C L dX12_run_209 rfl (Nat.le_of_ble_eq_true rfl) (fun ls L => ?_)
      have L : jL ls [some (jR B a0), none, some (jI x2), some (jI q54.1), some (jI x4), some (jI x5), some (jI x6), some (jI (-6)), some (jI x7), some (jI v26)] := L
      refine jr_iinc (pc := 210) C L dX12_run_210 rfl (Nat.le_of_ble_eq_true rfl) (fun ls L => ?_)
      have L : jL ls [some (jR B a0), none, some (jI x2), some (jI q54.1), some (jI x4), some (jI (jw (x5 + 1))), some (jI x6), some (jI (-6)), some (jI x7), some (jI v26)] := L
      refine jr_iload (pc := 213) C L dX12_run_213 rfl ?_
      refine jr_aload_n (pc := 215) C L dX12_run_215 rfl rfl ?_
      obtain ⟨v56, hv56, hyp⟩ := jbind hyp
      have iv56 := jrf_in S hv56
      refine jr_getI (pc := 216) C S lf_X12_127 rfl hv56 dX12_run_216 ?_
      refine jr_if_eq (pc := 219) C iv56 (tgt := 226) dX12_run_219 (by decide) (fun c57 => ?_) (fun c57 => ?_)
      · have hyp := (if_pos c57).symm.trans hyp
        refine jr_iconst (pc := 226) C dX12_run_226 ?_
        exact t_X12_run_b227 C  K48 h_x2 p55 h_x4 (jIn_w _) (show jIn (-6) from ⟨by decide, by decide⟩) h_x6 (show jIn 1 from ⟨by decide, by decide⟩) S (L.sub (jsub_s (jsub_n (jsub_s (jsub_s (jsub_s (jsub_s (jsub_n (jsub_s (jsub_n (jsub_n jsub_0))))))))))) hyp
      · have hyp := (if_neg c57).symm.trans hyp
        refine jr_iconst (pc := 222) C dX12_run_222 ?_
        refine jr_goto (pc := 223) C (tgt := 227) dX12_run_223 (by decide) ?_
        exact t_X12_run_b227 C  K48 h_x2 p55 h_x4 (jIn_w _) (show jIn (-6) from ⟨by decide, by decide⟩) h_x6 (show jIn 0 from ⟨by decide, by decide⟩) S (L.sub (jsub_s (jsub_n (jsub_s (jsub_s (jsub_s (jsub_s (jsub_n (jsub_s (jsub_n (jsub_n jsub_0))))))))))) hyp
set_option maxHeartbeats 4000000 in
set_option maxRecDepth 100000 in
theorem t_X12_run_b48 {p : Program} {l : Launch} {e : Env} {s : State} {mi : MethodId} {args : Array Value} {below : List Frame} {meth : Method} {c : Code} {D : va_G} {cy : Nat → ClassId} {B sz : Nat} {sh : jm_S} {res : (Int × jm_M)} {N : Nat} {k48 : Nat → Int → Int → Int → Int → Int → Int → jm_M → Option (Int × jm_M)} (C : jCx p s mi args meth c cX12_run 10 RX12 (some .int) D cy) (K48 : ∀ (a0 : Nat) (x2 : Int) (x3 : Int) (x4 : Int) (x5 : Int) (x6 : Int) (x7 : Int) , jIn x2 → jIn x3 → jIn x4 → jIn x5 → jIn x6 → jIn x7 → ∀ (m : jm_M) (H : Heap) (locs : List Loc) (ls : Array Slot), jHs D cy B sz sh (jA B sz) s.heap H locs m → jL ls [some (jR B a0), none, some (jI x2), some (jI x3), some (jI x4), some (jI x5), some (jI x6), some (jI x7), none, none] → k48 a0 x2 x3 x4 x5 x6 x7 m = some res → W p l e (jrm 3 0 0) s mi args below meth c H locs 0 0 (MQ below (jQc D cy B sz sh res.2 (some (jI res.1)) (jIn res.1)) args s 0 0 (jA B sz)) (F0 mi 48 ls [])) {a0 : Nat} {x2 : Int} (h_x2 : jIn x2) {x3 : Int} (h_x3 : jIn x3) {x4 : Int} (h_x4 : jIn x4) {x5 : Int} (h_x5 : jIn x5) {x6 : Int} (h_x6 : jIn x6) {x7 : Int} (h_x7 : jIn x7) {m : jm_M} {H : Heap} {locs : List Loc} {ls : Array Slot} (S : jHs D cy B sz sh (jA B sz) s.heap H locs m) (L : jL ls [some (jR B a0), none, some (jI x2), some (jI x3), some (jI x4), some (jI x5), some (jI x6), some (jI x7), none, none]) (hyp : f_X12_run_b48 N sh k48 a0 x2 x3 x4 x5 x6 x7 m = some res) : W p l e (jrm 3 0 0) s mi args below meth c H locs 0 0 (MQ below (jQc D cy B sz sh res.2 (some (jI res.1)) (jIn res.1)) args s 0 0 (jA B sz)) (F0 mi 48 ls []) := by
  unfold f_X12_run_b48 at hyp
  refine jr_iload (pc := 48) C L dX12_run_48 rfl ?_
  refine jr_if_ge (pc := 50) C h_x7 (tgt := 60) dX12_run_50 (by decide) (fun c58 => ?_) (fun c58 => ?_)
  · have hyp := (if_pos c58).symm.trans hyp
    refine jr_aload_n (pc := 53) C L dX12_run_53 rfl rfl ?_
    obtain ⟨v59, hv59, hyp⟩ := jbind hyp
    have iv59 := jrf_in S hv59
    refine jr_getI (pc := 54) C S lf_X12_165 rfl hv59 dX12_run_54 ?_
    refine jr_if_le (pc := 57) C iv59 (tgt := 351) dX12_run_57 (by decide) (fun c60 => ?_) (fun c60 => ?_)
    · have hyp := (if_pos c60).symm.trans hyp
      exact t_X12_run_b60 C  K48 h_x2 h_x3 h_x4 h_x5 h_x6 h_x7 S (L.sub (jsub_s (jsub_n (jsub_s (jsub_s (jsub_s (jsub_s (jsub_s (jsub_s (jsub_n (jsub_n jsub_0))))))))))) hyp
    · have hyp := (if_neg c60).symm.trans hyp
      refine jr_iload_n (pc := 351) C L dX12_run_351 rfl rfl ?_
      refine jr_if_ne (pc := 352) C h_x2 (tgt := 360) dX12_run_352 (by decide) (fun c61 => ?_) (fun c61 => ?_)
      · have hyp := (if_pos c61).symm.trans hyp
        refine jr_iload (pc := 355) C L dX12_run_355 rfl ?_
        refine jr_goto (pc := 357) C (tgt := 397) dX12_run_357 (by decide) ?_
        cases hyp
        exact jr_iret C S h_x4 dX12_run_397
      · have hyp := (if_neg c61).symm.trans hyp
        refine jr_iload_n (pc := 360) C L dX12_run_360 rfl rfl ?_
        refine jr_iconst (pc := 361) C dX12_run_361 ?_
        refine jr_icmp_ne (pc := 362) C h_x2 (show jIn 1 from ⟨by decide, by decide⟩) (tgt := 370) dX12_run_362 (by decide) (fun c62 => ?_) (fun c62 => ?_)
        · have hyp := (if_pos c62).symm.trans hyp
          refine jr_iload (pc := 365) C L dX12_run_365 rfl ?_
          refine jr_goto (pc := 367) C (tgt := 397) dX12_run_367 (by decide) ?_
          cases hyp
          exact jr_iret C S h_x5 dX12_run_397
        · have hyp := (if_neg c62).symm.trans hyp
          refine jr_iload_n (pc := 370) C L dX12_run_370 rfl rfl ?_
          refine jr_iconst (pc := 371) C dX12_run_371 ?_
          refine jr_icmp_ne (pc := 372) C h_x2 (show jIn 2 from ⟨by decide, by decide⟩) (tgt := 380) dX12_run_372 (by decide) (fun c63 => ?_) (fun c63 => ?_)
          · have hyp := (if_pos c63).symm.trans hyp
            refine jr_iload (pc := 375) C L dX12_run_375 rfl ?_
            refine jr_goto (pc := 377) C (tgt := 397) dX12_run_377 (by decide) ?_
            cases hyp
            exact jr_iret C S h_x6 dX12_run_397
          · have hyp := (if_neg c63).symm.trans hyp
            refine jr_iload_n (pc := 380) C L dX12_run_380 rfl rfl ?_
            refine jr_iconst (pc := 381) C dX12_run_381 ?_
            refine jr_icmp_ne (pc := 382) C h_x2 (show jIn 3 from ⟨by decide, by decide⟩) (tgt := 392) dX12_run_382 (by decide) (fun c64 => ?_) (fun c64 => ?_)
            · have hyp := (if_pos c64).symm.trans hyp
              refine jr_aload_n (pc := 385) C L dX12_run_385 rfl rfl ?_
              obtain ⟨v65, hv65, hyp⟩ := jbind hyp
              have iv65 := jrf_in S hv65
              refine jr_getI (pc := 386) C S lf_X12_213 rfl hv65 dX12_run_386 ?_
              refine jr_goto (pc := 389) C (tgt := 397) dX12_run_389 (by decide) ?_
              cases hyp
              exact jr_iret C S iv65 dX12_run_397
            · have hyp := (if_neg c64).symm.trans hyp
              refine jr_aload_n (pc := 392) C L dX12_run_392 rfl rfl ?_
              refine jr_iload_n (pc := 393) C L dX12_run_393 rfl rfl ?_
              obtain ⟨u66, hu66, hyp⟩ := jbind hyp
              obtain ⟨q67, hq67, hyp⟩ := jbind hyp
              refine jr_callV_I (pc := 394) C S L (As := [jI x3]) (rest := []) (c_X12_linesIn (m0 := m) h_x3 hq67) mv_X12_linesIn ml_X12_219 rfl (jck_spec hu66) (by decide) rfl rfl rfl (Nat.le_of_ble_eq_true rfl) ⟨Nat.le_refl 0, Nat.le_refl 0⟩ dX12_run_394 (fun p68 H locs S => ?_)
              cases hyp
              exact jr_iret C S p68 dX12_run_397
  · have hyp := (if_neg c58).symm.trans hyp
    exact t_X12_run_b60 C  K48 h_x2 h_x3 h_x4 h_x5 h_x6 h_x7 S (L.sub (jsub_s (jsub_n (jsub_s (jsub_s (jsub_s (jsub_s (jsub_s (jsub_s (jsub_n (jsub_n jsub_0))))))))))) hyp
theorem t_X12_run_l48 {p : Program} {l : Launch} {e : Env} {s : State} {mi : MethodId} {args : Array Value} {below : List Frame} {meth : Method} {c : Code} {D : va_G} {cy : Nat → ClassId} {B sz : Nat} {sh : jm_S} {res : (Int × jm_M)} {N : Nat} (C : jCx p s mi args meth c cX12_run 10 RX12 (some .int) D cy) : ∀ (n : Nat) (a0 : Nat) (x2 : Int) (x3 : Int) (x4 : Int) (x5 : Int) (x6 : Int) (x7 : Int), jIn x2 → jIn x3 → jIn x4 → jIn x5 → jIn x6 → jIn x7 → ∀ (m : jm_M) (H : Heap) (locs : List Loc) (ls : Array Slot), jHs D cy B sz sh (jA B sz) s.heap H locs m → jL ls [some (jR B a0), none, some (jI x2), some (jI x3), some (jI x4), some (jI x5), some (jI x6), some (jI x7), none, none] → f_X12_run_l48 N sh n a0 x2 x3 x4 x5 x6 x7 m = some res → W p l e (jrm 3 0 0) s mi args below meth c H locs 0 0 (MQ below (jQc D cy B sz sh res.2 (some (jI res.1)) (jIn res.1)) args s 0 0 (jA B sz)) (F0 mi 48 ls []) := by
  intro n
  induction n with
  | zero => intro a0 x2 x3 x4 x5 x6 x7 h_x2 h_x3 h_x4 h_x5 h_x6 h_x7 m H locs ls S L hyp; cases hyp
  | succ n ih => intro a0 x2 x3 x4 x5 x6 x7 h_x2 h_x3 h_x4 h_x5 h_x6 h_x7 m H locs ls S L hyp; exact t_X12_run_b48 (N := N) C  ih h_x2 h_x3 h_x4 h_x5 h_x6 h_x7 S L hyp
set_option maxHeartbeats 4000000 in
set_option maxRecDepth 100000 in
theorem t_X12_run_e {p : Program} {l : Launch} {e : Env} {s : State} {mi : MethodId} {args : Array Value} {below : List Frame} {meth : Method} {c : Code} {D : va_G} {cy : Nat → ClassId} {B sz : Nat} {sh : jm_S} {res : (Int × jm_M)} {N : Nat} (C : jCx p s mi args meth c cX12_run 10 RX12 (some .int) D cy) {a0 : Nat} {x1 : Int} (h_x1 : jIn x1) {x2 : Int} (h_x2 : jIn x2) {m : jm_M} {H : Heap} {locs : List Loc} {ls : Array Slot} (S : jHs D cy B sz sh (jA B sz) s.heap H locs m) (L : jL ls [some (jR B a0), some (jI x1), some (jI x2), none, none, none, none, none, none, none]) (hyp : f_X12_run N sh a0 x1 x2 m = some res) : W p l e (jrm 3 0 0) s mi args below meth c H locs 0 0 (MQ below (jQc D cy B sz sh res.2 (some (jI res.1)) (jIn res.1)) args s 0 0 (jA B sz)) (F0 mi 0 ls []) := by
  unfold f_X12_run at hyp
  refine jr_iload_n (pc := 0) C L dX12_run_0 rfl rfl ?_
  obtain ⟨q69, hq69, hyp⟩ := jbind hyp
  refine jr_callS_I (pc := 1) C S L (As := [jI x1]) (rest := []) (c_X12_isProgram (m0 := m) h_x1 hq69) ms_X12_isProgram ml_X12_103 (by decide) rfl rfl rfl (Nat.le_of_ble_eq_true rfl) ⟨Nat.le_refl 0, Nat.le_refl 0⟩ dX12_run_1 (fun p70 H locs S => ?_)
  refine jr_if_ne (pc := 4) C p70 (tgt := 9) dX12_run_4 (by decide) (fun c71 => ?_) (fun c71 => ?_)
  · have hyp := (if_pos c71).symm.trans hyp
    refine jr_iconst (pc := 7) C dX12_run_7 ?_
    cases hyp
    exact jr_iret C S (show jIn (-1) from ⟨by decide, by decide⟩) dX12_run_8
  · have hyp := (if_neg c71).symm.trans hyp
    refine jr_iload_n (pc := 9) C L dX12_run_9 rfl rfl ?_
    refine jr_iconst (pc := 10) C dX12_run_10 ?_
    refine jr_iconst (pc := 11) C dX12_run_11 ?_
    obtain ⟨q72, hq72, hyp⟩ := jbind hyp
    refine jr_callS_I (pc := 12) C S L (As := [jI x2, jI 0, jI 4]) (rest := []) (c_X12_in (m0 := m) h_x2 (show jIn 0 from ⟨by decide, by decide⟩) (show jIn 4 from ⟨by decide, by decide⟩) hq72) ms_X12_in ml_X12_80 (by decide) rfl rfl rfl (Nat.le_of_ble_eq_true rfl) ⟨Nat.le_refl 0, Nat.le_refl 0⟩ dX12_run_12 (fun p73 H locs S => ?_)
    refine jr_if_ne (pc := 15) C p73 (tgt := 21) dX12_run_15 (by decide) (fun c74 => ?_) (fun c74 => ?_)
    · have hyp := (if_pos c74).symm.trans hyp
      refine jr_bipush (pc := 18) C dX12_run_18 (by decide) ?_
      cases hyp
      exact jr_iret C S (show jIn (-2) from ⟨by decide, by decide⟩) dX12_run_20
    · have hyp := (if_neg c74).symm.trans hyp
      refine jr_iconst (pc := 21) C dX12_run_21 ?_
      refine jr_istore_n (pc := 22) C L dX12_run_22 rfl (Nat.le_of_ble_eq_true rfl) (fun ls L => ?_)
      have L : jL ls [some (jR B a0), some (jI x1), some (jI x2), some (jI 0), none, none, none, none, none, none] := L
      refine jr_iconst (pc := 23) C dX12_run_23 ?_
      refine jr_istore (pc := 24) C L dX12_run_24 (Nat.le_of_ble_eq_true rfl) (fun ls L => ?_)
      have L : jL ls [some (jR B a0), some (jI x1), some (jI x2), some (jI 0), some (jI 0), none, none, none, none, none] := L
      refine jr_iconst (pc := 26) C dX12_run_26 ?_
      refine jr_istore (pc := 27) C L dX12_run_27 (Nat.le_of_ble_eq_true rfl) (fun ls L => ?_)
      have L : jL ls [some (jR B a0), some (jI x1), some (jI x2), some (jI 0), some (jI 0), some (jI 0), none, none, none, none] := L
      refine jr_iconst (pc := 29) C dX12_run_29 ?_
      refine jr_istore (pc := 30) C L dX12_run_30 (Nat.le_of_ble_eq_true rfl) (fun ls L => ?_)
      have L : jL ls [some (jR B a0), some (jI x1), some (jI x2), some (jI 0), some (jI 0), some (jI 0), some (jI 0), none, none, none] := L
      refine jr_aload_n (pc := 32) C L dX12_run_32 rfl rfl ?_
      refine jr_iconst (pc := 33) C dX12_run_33 ?_
      obtain ⟨m75, hm75, hyp⟩ := jbind hyp
      refine jr_putI (pc := 34) C S lf_X12_213 fp_X12_26 rfl (show jIn 0 from ⟨by decide, by decide⟩) hm75 dX12_run_34 (fun H locs S => ?_)
      refine jr_aload_n (pc := 37) C L dX12_run_37 rfl rfl ?_
      refine jr_iconst (pc := 38) C dX12_run_38 ?_
      obtain ⟨m76, hm76, hyp⟩ := jbind hyp
      refine jr_putI (pc := 39) C S lf_X12_165 fp_X12_12 rfl (show jIn 0 from ⟨by decide, by decide⟩) hm76 dX12_run_39 (fun H locs S => ?_)
      refine jr_bipush (pc := 42) C dX12_run_42 (by decide) ?_
      refine jr_iload_n (pc := 44) C L dX12_run_44 rfl rfl ?_
      refine jr_imul (pc := 45) C dX12_run_45 ?_
      refine jr_istore (pc := 46) C L dX12_run_46 (Nat.le_of_ble_eq_true rfl) (fun ls L => ?_)
      have L : jL ls [some (jR B a0), some (jI x1), some (jI x2), some (jI 0), some (jI 0), some (jI 0), some (jI 0), some (jI (jw (30 * x1))), none, none] := L
      exact t_X12_run_l48 C   N a0 x2 0 0 0 0 (jw (30 * x1)) h_x2 (show jIn 0 from ⟨by decide, by decide⟩) (show jIn 0 from ⟨by decide, by decide⟩) (show jIn 0 from ⟨by decide, by decide⟩) (show jIn 0 from ⟨by decide, by decide⟩) (jIn_w _) m76 _ _ _ S (L.sub (jsub_s (jsub_n (jsub_s (jsub_s (jsub_s (jsub_s (jsub_s (jsub_s (jsub_n (jsub_n jsub_0))))))))))) hyp
theorem c_X12_run {l : Launch} {D : va_G} {cy : Nat → ClassId} {B sz : Nat} {sh : jm_S} {res : (Int × jm_M)} {N : Nat} {m : jm_M} {a0 : Nat} {x1 : Int} (h_x1 : jIn x1) {x2 : Int} (h_x2 : jIn x2) (hyp : f_X12_run N sh a0 x1 x2 m = some res) : jCt l D cy B sz sh 3 yX12_run cX12_run 10 (some .int) [jR B a0, jI x1, jI x2] m (some (jI res.1)) res.2 (jIn res.1) :=
  jc_of (by decide) (fun v h => by simp only [List.mem_cons, List.not_mem_nil, or_false] at h; rcases h with rfl | rfl | rfl <;> first | rfl | exact jR_cat _ _) (Nat.le_of_ble_eq_true rfl) (fun C S L => t_X12_run_e C  h_x1 h_x2 S L hyp)
