set_option maxHeartbeats 4000000 in
set_option maxRecDepth 100000 in
theorem t_X5_aheadRow_e {p : Program} {l : Launch} {e : Env} {s : State} {mi : MethodId} {args : Array Value} {below : List Frame} {meth : Method} {c : Code} {D : va_G} {cy : Nat → ClassId} {B sz : Nat} {sh : jm_S} {res : Nat} {m0 : jm_M} (C : jCx p s mi args meth c cX5_aheadRow 5 RX5 (some (.array .int)) D cy) {a0 : Nat} {x1 : Int} (h_x1 : jIn x1) {x2 : Int} (h_x2 : jIn x2) {a3 : Nat} {H : Heap} {locs : List Loc} {ls : Array Slot} (S : jHs D cy B sz sh (jA B sz) s.heap H locs m0) (L : jL ls [some (jR B a0), some (jI x1), some (jI x2), some (jR B a3), none]) (hyp : f_X5_aheadRow sh a0 x1 x2 a3 m0 = some res) : W p l e (jrm 0 0 0) s mi args below meth c H locs 0 0 (MQ below (jQc D cy B sz sh m0 (some (jR B res)) True) args s 0 0 (jA B sz)) (F0 mi 0 ls []) := by
  unfold f_X5_aheadRow at hyp
  refine jr_iconst (pc := 0) C dX5_aheadRow_0 ?_
  refine jr_iload_n (pc := 1) C L dX5_aheadRow_1 rfl rfl ?_
  refine jr_imul (pc := 2) C dX5_aheadRow_2 ?_
  refine jr_iload_n (pc := 3) C L dX5_aheadRow_3 rfl rfl ?_
  refine jr_iadd (pc := 4) C dX5_aheadRow_4 ?_
  refine jr_istore (pc := 5) C L dX5_aheadRow_5 (Nat.le_of_ble_eq_true rfl) (fun ls L => ?_)
  have L : jL ls [some (jR B a0), some (jI x1), some (jI x2), some (jR B a3), some (jI (jw ((jw (4 * x1)) + x2)))] := L
  refine jr_iload_n (pc := 7) C L dX5_aheadRow_7 rfl rfl ?_
  refine jr_iconst (pc := 8) C dX5_aheadRow_8 ?_
  refine jr_icmp_ge (pc := 9) C h_x2 (show jIn 4 from ⟨by decide, by decide⟩) (tgt := 37) dX5_aheadRow_9 (by decide) (fun c1 => ?_) (fun c1 => ?_)
  · have hyp := (if_pos c1).symm.trans hyp
    refine jr_iload (pc := 12) C L dX5_aheadRow_12 rfl ?_
    refine jr_if_lt (pc := 14) C (jIn_w _) (tgt := 37) dX5_aheadRow_14 (by decide) (fun c2 => ?_) (fun c2 => ?_)
    · have hyp := (if_pos c2).symm.trans hyp
      refine jr_aload_n (pc := 37) C L dX5_aheadRow_37 rfl rfl ?_
      cases hyp
      exact jr_aret C (by first | exact Or.inl ⟨_, rfl⟩ | exact Or.inr ⟨_, rfl⟩) S trivial dX5_aheadRow_38
    · have hyp := (if_neg c2).symm.trans hyp
      refine jr_iload (pc := 17) C L dX5_aheadRow_17 rfl ?_
      refine jr_aload_n (pc := 19) C L dX5_aheadRow_19 rfl rfl ?_
      obtain ⟨v3, hv3, hyp⟩ := jbind hyp
      refine jr_getR (pc := 20) C S lf_X5_23 rfl hv3 dX5_aheadRow_20 ?_
      obtain ⟨v4, hv4, hyp⟩ := jbind hyp
      refine jr_alen (pc := 23) C S hv4 dX5_aheadRow_23 ?_
      refine jr_icmp_ge (pc := 24) C (jIn_w _) (jlen_in hv4) (tgt := 37) dX5_aheadRow_24 (by decide) (fun c5 => ?_) (fun c5 => ?_)
      · have hyp := (if_pos c5).symm.trans hyp
        refine jr_aload_n (pc := 27) C L dX5_aheadRow_27 rfl rfl ?_
        obtain ⟨v6, hv6, hyp⟩ := jbind hyp
        refine jr_getR (pc := 28) C S lf_X5_23 rfl hv6 dX5_aheadRow_28 ?_
        refine jr_iload (pc := 31) C L dX5_aheadRow_31 rfl ?_
        obtain ⟨v7, hv7, hyp⟩ := jbind hyp
        refine jr_aal (pc := 33) C S (by decide) (jIn_w _) hv7 dX5_aheadRow_33 ?_
        refine jr_goto (pc := 34) C (tgt := 38) dX5_aheadRow_34 (by decide) ?_
        cases hyp
        exact jr_aret C (by first | exact Or.inl ⟨_, rfl⟩ | exact Or.inr ⟨_, rfl⟩) S trivial dX5_aheadRow_38
      · have hyp := (if_neg c5).symm.trans hyp
        refine jr_aload_n (pc := 37) C L dX5_aheadRow_37 rfl rfl ?_
        cases hyp
        exact jr_aret C (by first | exact Or.inl ⟨_, rfl⟩ | exact Or.inr ⟨_, rfl⟩) S trivial dX5_aheadRow_38
  · have hyp := (if_neg c1).symm.trans hyp
    refine jr_aload_n (pc := 37) C L dX5_aheadRow_37 rfl rfl ?_
    cases hyp
    exact jr_aret C (by first | exact Or.inl ⟨_, rfl⟩ | exact Or.inr ⟨_, rfl⟩) S trivial dX5_aheadRow_38
theorem c_X5_aheadRow {l : Launch} {D : va_G} {cy : Nat → ClassId} {B sz : Nat} {sh : jm_S} {res : Nat} {m0 : jm_M} {a0 : Nat} {x1 : Int} (h_x1 : jIn x1) {x2 : Int} (h_x2 : jIn x2) {a3 : Nat} (hyp : f_X5_aheadRow sh a0 x1 x2 a3 m0 = some res) : jCt l D cy B sz sh 0 yX5_aheadRow cX5_aheadRow 5 (some (.array .int)) [jR B a0, jI x1, jI x2, jR B a3] m0 (some (jR B res)) m0 True :=
  jc_of (by decide) (fun v h => by simp only [List.mem_cons, List.not_mem_nil, or_false] at h; rcases h with rfl | rfl | rfl | rfl <;> first | rfl | exact jR_cat _ _) (Nat.le_of_ble_eq_true rfl) (fun C S L => t_X5_aheadRow_e C  h_x1 h_x2 S L hyp)
set_option maxHeartbeats 4000000 in
set_option maxRecDepth 100000 in
theorem t_X5_raise_b2 {p : Program} {l : Launch} {e : Env} {s : State} {mi : MethodId} {args : Array Value} {below : List Frame} {meth : Method} {c : Code} {D : va_G} {cy : Nat → ClassId} {B sz : Nat} {sh : jm_S} {res : jm_M} {N : Nat} {k2 : Nat → Nat → Nat → Int → jm_M → Option jm_M} (C : jCx p s mi args meth c cX5_raise 4 RX5 none D cy) (K2 : ∀ (a0 : Nat) (a1 : Nat) (a2 : Nat) (x3 : Int) , jIn x3 → ∀ (m : jm_M) (H : Heap) (locs : List Loc) (ls : Array Slot), jHs D cy B sz sh (jA B sz) s.heap H locs m → jL ls [some (jR B a0), some (jR B a1), some (jR B a2), some (jI x3)] → k2 a0 a1 a2 x3 m = some res → W p l e (jrm 1 0 0) s mi args below meth c H locs 0 0 (MQ below (jQc D cy B sz sh res none True) args s 0 0 (jA B sz)) (F0 mi 2 ls [])) {a0 : Nat} {a1 : Nat} {a2 : Nat} {x3 : Int} (h_x3 : jIn x3) {m : jm_M} {H : Heap} {locs : List Loc} {ls : Array Slot} (S : jHs D cy B sz sh (jA B sz) s.heap H locs m) (L : jL ls [some (jR B a0), some (jR B a1), some (jR B a2), some (jI x3)]) (hyp : f_X5_raise_b2 N sh k2 a0 a1 a2 x3 m = some res) : W p l e (jrm 1 0 0) s mi args below meth c H locs 0 0 (MQ below (jQc D cy B sz sh res none True) args s 0 0 (jA B sz)) (F0 mi 2 ls []) := by
  unfold f_X5_raise_b2 at hyp
  refine jr_iload_n (pc := 2) C L dX5_raise_2 rfl rfl ?_
  refine jr_aload_n (pc := 3) C L dX5_raise_3 rfl rfl ?_
  obtain ⟨v1, hv1, hyp⟩ := jbind hyp
  refine jr_getR (pc := 4) C S lf_X5_30 rfl hv1 dX5_raise_4 ?_
  obtain ⟨v2, hv2, hyp⟩ := jbind hyp
  have iv2 := jrf_in S hv2
  refine jr_getI (pc := 7) C S lf_X5_70 rfl hv2 dX5_raise_7 ?_
  refine jr_icmp_ge (pc := 10) C h_x3 iv2 (tgt := 43) dX5_raise_10 (by decide) (fun c3 => ?_) (fun c3 => ?_)
  · have hyp := (if_pos c3).symm.trans hyp
    refine jr_iload_n (pc := 13) C L dX5_raise_13 rfl rfl ?_
    refine jr_aload_n (pc := 14) C L dX5_raise_14 rfl rfl ?_
    obtain ⟨v4, hv4, hyp⟩ := jbind hyp
    refine jr_alen (pc := 15) C S hv4 dX5_raise_15 ?_
    refine jr_icmp_ge (pc := 16) C h_x3 (jlen_in hv4) (tgt := 43) dX5_raise_16 (by decide) (fun c5 => ?_) (fun c5 => ?_)
    · have hyp := (if_pos c5).symm.trans hyp
      refine jr_iload_n (pc := 19) C L dX5_raise_19 rfl rfl ?_
      refine jr_aload_n (pc := 20) C L dX5_raise_20 rfl rfl ?_
      obtain ⟨v6, hv6, hyp⟩ := jbind hyp
      refine jr_alen (pc := 21) C S hv6 dX5_raise_21 ?_
      refine jr_icmp_ge (pc := 22) C h_x3 (jlen_in hv6) (tgt := 43) dX5_raise_22 (by decide) (fun c7 => ?_) (fun c7 => ?_)
      · have hyp := (if_pos c7).symm.trans hyp
        refine jr_aload_n (pc := 25) C L dX5_raise_25 rfl rfl ?_
        refine jr_iload_n (pc := 26) C L dX5_raise_26 rfl rfl ?_
        refine jr_aload_n (pc := 27) C L dX5_raise_27 rfl rfl ?_
        refine jr_iload_n (pc := 28) C L dX5_raise_28 rfl rfl ?_
        obtain ⟨v8, hv8, hyp⟩ := jbind hyp
        have iv8 := jra_in S hv8
        refine jr_ial (pc := 29) C S h_x3 hv8 dX5_raise_29 ?_
        refine jr_aload_n (pc := 30) C L dX5_raise_30 rfl rfl ?_
        refine jr_iload_n (pc := 31) C L dX5_raise_31 rfl rfl ?_
        obtain ⟨v9, hv9, hyp⟩ := jbind hyp
        have iv9 := jra_in S hv9
        refine jr_ial (pc := 32) C S h_x3 hv9 dX5_raise_32 ?_
        obtain ⟨q10, hq10, hyp⟩ := jbind hyp
        refine jr_callS_I (pc := 33) C S L (As := [jI v8, jI v9]) (rest := [jI x3, jR B a1]) (c_J9_max_7cf53 (m0 := m) iv8 iv9 hq10) ms_J9_max_7cf53 ml_X5_133 (by decide) rfl rfl rfl (by simp [jR_cat, jI_cat]) ⟨Nat.le_refl 0, Nat.le_refl 0⟩ dX5_raise_33 (fun p11 H locs S => ?_)
        obtain ⟨m12, hm12, hyp⟩ := jbind hyp
        refine jr_ias (pc := 36) C S h_x3 p11 hm12 dX5_raise_36 (fun H locs S => ?_)
        refine jr_iinc (pc := 37) C L dX5_raise_37 rfl (Nat.le_of_ble_eq_true rfl) (fun ls L => ?_)
        have L : jL ls [some (jR B a0), some (jR B a1), some (jR B a2), some (jI (jw (x3 + 1)))] := L
        refine jr_goto (pc := 40) C (tgt := 2) dX5_raise_40 (by decide) ?_
        exact K2 a0 a1 a2 (jw (x3 + 1)) (jIn_w _) m12 _ _ _ S (L.sub (jsub_s (jsub_s (jsub_s (jsub_s jsub_0))))) hyp
      · have hyp := (if_neg c7).symm.trans hyp
        cases hyp
        exact jr_vret C S trivial dX5_raise_43
    · have hyp := (if_neg c5).symm.trans hyp
      cases hyp
      exact jr_vret C S trivial dX5_raise_43
  · have hyp := (if_neg c3).symm.trans hyp
    cases hyp
    exact jr_vret C S trivial dX5_raise_43
theorem t_X5_raise_l2 {p : Program} {l : Launch} {e : Env} {s : State} {mi : MethodId} {args : Array Value} {below : List Frame} {meth : Method} {c : Code} {D : va_G} {cy : Nat → ClassId} {B sz : Nat} {sh : jm_S} {res : jm_M} {N : Nat} (C : jCx p s mi args meth c cX5_raise 4 RX5 none D cy) : ∀ (n : Nat) (a0 : Nat) (a1 : Nat) (a2 : Nat) (x3 : Int), jIn x3 → ∀ (m : jm_M) (H : Heap) (locs : List Loc) (ls : Array Slot), jHs D cy B sz sh (jA B sz) s.heap H locs m → jL ls [some (jR B a0), some (jR B a1), some (jR B a2), some (jI x3)] → f_X5_raise_l2 N sh n a0 a1 a2 x3 m = some res → W p l e (jrm 1 0 0) s mi args below meth c H locs 0 0 (MQ below (jQc D cy B sz sh res none True) args s 0 0 (jA B sz)) (F0 mi 2 ls []) := by
  intro n
  induction n with
  | zero => intro a0 a1 a2 x3 h_x3 m H locs ls S L hyp; cases hyp
  | succ n ih => intro a0 a1 a2 x3 h_x3 m H locs ls S L hyp; exact t_X5_raise_b2 (N := N) C  ih h_x3 S L hyp
set_option maxHeartbeats 4000000 in
set_option maxRecDepth 100000 in
theorem t_X5_raise_e {p : Program} {l : Launch} {e : Env} {s : State} {mi : MethodId} {args : Array Value} {below : List Frame} {meth : Method} {c : Code} {D : va_G} {cy : Nat → ClassId} {B sz : Nat} {sh : jm_S} {res : jm_M} {N : Nat} (C : jCx p s mi args meth c cX5_raise 4 RX5 none D cy) {a0 : Nat} {a1 : Nat} {a2 : Nat} {m : jm_M} {H : Heap} {locs : List Loc} {ls : Array Slot} (S : jHs D cy B sz sh (jA B sz) s.heap H locs m) (L : jL ls [some (jR B a0), some (jR B a1), some (jR B a2), none]) (hyp : f_X5_raise N sh a0 a1 a2 m = some res) : W p l e (jrm 1 0 0) s mi args below meth c H locs 0 0 (MQ below (jQc D cy B sz sh res none True) args s 0 0 (jA B sz)) (F0 mi 0 ls []) := by
  unfold f_X5_raise at hyp
  refine jr_iconst (pc := 0) C dX5_raise_0 ?_
  refine jr_istore_n (pc := 1) C L dX5_raise_1 rfl (Nat.le_of_ble_eq_true rfl) (fun ls L => ?_)
  have L : jL ls [some (jR B a0), some (jR B a1), some (jR B a2), some (jI 0)] := L
  exact t_X5_raise_l2 C   N a0 a1 a2 0 (show jIn 0 from ⟨by decide, by decide⟩) m _ _ _ S (L.sub (jsub_s (jsub_s (jsub_s (jsub_s jsub_0))))) hyp
theorem c_X5_raise {l : Launch} {D : va_G} {cy : Nat → ClassId} {B sz : Nat} {sh : jm_S} {res : jm_M} {N : Nat} {m : jm_M} {a0 : Nat} {a1 : Nat} {a2 : Nat} (hyp : f_X5_raise N sh a0 a1 a2 m = some res) : jCt l D cy B sz sh 1 yX5_raise cX5_raise 4 none [jR B a0, jR B a1, jR B a2] m none res True :=
  jc_of (by decide) (fun v h => by simp only [List.mem_cons, List.not_mem_nil, or_false] at h; rcases h with rfl | rfl | rfl <;> first | rfl | exact jR_cat _ _) (Nat.le_of_ble_eq_true rfl) (fun C S L => t_X5_raise_e C   S L hyp)
set_option maxHeartbeats 4000000 in
set_option maxRecDepth 100000 in
theorem t_X5_copy_b2 {p : Program} {l : Launch} {e : Env} {s : State} {mi : MethodId} {args : Array Value} {below : List Frame} {meth : Method} {c : Code} {D : va_G} {cy : Nat → ClassId} {B sz : Nat} {sh : jm_S} {res : jm_M} {N : Nat} {k2 : Nat → Nat → Nat → Int → jm_M → Option jm_M} (C : jCx p s mi args meth c cX5_copy 4 RX5 none D cy) (K2 : ∀ (a0 : Nat) (a1 : Nat) (a2 : Nat) (x3 : Int) , jIn x3 → ∀ (m : jm_M) (H : Heap) (locs : List Loc) (ls : Array Slot), jHs D cy B sz sh (jA B sz) s.heap H locs m → jL ls [some (jR B a0), some (jR B a1), some (jR B a2), some (jI x3)] → k2 a0 a1 a2 x3 m = some res → W p l e (jrm 0 0 0) s mi args below meth c H locs 0 0 (MQ below (jQc D cy B sz sh res none True) args s 0 0 (jA B sz)) (F0 mi 2 ls [])) {a0 : Nat} {a1 : Nat} {a2 : Nat} {x3 : Int} (h_x3 : jIn x3) {m : jm_M} {H : Heap} {locs : List Loc} {ls : Array Slot} (S : jHs D cy B sz sh (jA B sz) s.heap H locs m) (L : jL ls [some (jR B a0), some (jR B a1), some (jR B a2), some (jI x3)]) (hyp : f_X5_copy_b2 N sh k2 a0 a1 a2 x3 m = some res) : W p l e (jrm 0 0 0) s mi args below meth c H locs 0 0 (MQ below (jQc D cy B sz sh res none True) args s 0 0 (jA B sz)) (F0 mi 2 ls []) := by
  unfold f_X5_copy_b2 at hyp
  refine jr_iload_n (pc := 2) C L dX5_copy_2 rfl rfl ?_
  refine jr_aload_n (pc := 3) C L dX5_copy_3 rfl rfl ?_
  obtain ⟨v1, hv1, hyp⟩ := jbind hyp
  refine jr_getR (pc := 4) C S lf_X5_30 rfl hv1 dX5_copy_4 ?_
  obtain ⟨v2, hv2, hyp⟩ := jbind hyp
  have iv2 := jrf_in S hv2
  refine jr_getI (pc := 7) C S lf_X5_70 rfl hv2 dX5_copy_7 ?_
  refine jr_icmp_ge (pc := 10) C h_x3 iv2 (tgt := 37) dX5_copy_10 (by decide) (fun c3 => ?_) (fun c3 => ?_)
  · have hyp := (if_pos c3).symm.trans hyp
    refine jr_iload_n (pc := 13) C L dX5_copy_13 rfl rfl ?_
    refine jr_aload_n (pc := 14) C L dX5_copy_14 rfl rfl ?_
    obtain ⟨v4, hv4, hyp⟩ := jbind hyp
    refine jr_alen (pc := 15) C S hv4 dX5_copy_15 ?_
    refine jr_icmp_ge (pc := 16) C h_x3 (jlen_in hv4) (tgt := 37) dX5_copy_16 (by decide) (fun c5 => ?_) (fun c5 => ?_)
    · have hyp := (if_pos c5).symm.trans hyp
      refine jr_iload_n (pc := 19) C L dX5_copy_19 rfl rfl ?_
      refine jr_aload_n (pc := 20) C L dX5_copy_20 rfl rfl ?_
      obtain ⟨v6, hv6, hyp⟩ := jbind hyp
      refine jr_alen (pc := 21) C S hv6 dX5_copy_21 ?_
      refine jr_icmp_ge (pc := 22) C h_x3 (jlen_in hv6) (tgt := 37) dX5_copy_22 (by decide) (fun c7 => ?_) (fun c7 => ?_)
      · have hyp := (if_pos c7).symm.trans hyp
        refine jr_aload_n (pc := 25) C L dX5_copy_25 rfl rfl ?_
        refine jr_iload_n (pc := 26) C L dX5_copy_26 rfl rfl ?_
        refine jr_aload_n (pc := 27) C L dX5_copy_27 rfl rfl ?_
        refine jr_iload_n (pc := 28) C L dX5_copy_28 rfl rfl ?_
        obtain ⟨v8, hv8, hyp⟩ := jbind hyp
        have iv8 := jra_in S hv8
        refine jr_ial (pc := 29) C S h_x3 hv8 dX5_copy_29 ?_
        obtain ⟨m9, hm9, hyp⟩ := jbind hyp
        refine jr_ias (pc := 30) C S h_x3 iv8 hm9 dX5_copy_30 (fun H locs S => ?_)
        refine jr_iinc (pc := 31) C L dX5_copy_31 rfl (Nat.le_of_ble_eq_true rfl) (fun ls L => ?_)
        have L : jL ls [some (jR B a0), some (jR B a1), some (jR B a2), some (jI (jw (x3 + 1)))] := L
        refine jr_goto (pc := 34) C (tgt := 2) dX5_copy_34 (by decide) ?_
        exact K2 a0 a1 a2 (jw (x3 + 1)) (jIn_w _) m9 _ _ _ S (L.sub (jsub_s (jsub_s (jsub_s (jsub_s jsub_0))))) hyp
      · have hyp := (if_neg c7).symm.trans hyp
        cases hyp
        exact jr_vret C S trivial dX5_copy_37
    · have hyp := (if_neg c5).symm.trans hyp
      cases hyp
      exact jr_vret C S trivial dX5_copy_37
  · have hyp := (if_neg c3).symm.trans hyp
    cases hyp
    exact jr_vret C S trivial dX5_copy_37
theorem t_X5_copy_l2 {p : Program} {l : Launch} {e : Env} {s : State} {mi : MethodId} {args : Array Value} {below : List Frame} {meth : Method} {c : Code} {D : va_G} {cy : Nat → ClassId} {B sz : Nat} {sh : jm_S} {res : jm_M} {N : Nat} (C : jCx p s mi args meth c cX5_copy 4 RX5 none D cy) : ∀ (n : Nat) (a0 : Nat) (a1 : Nat) (a2 : Nat) (x3 : Int), jIn x3 → ∀ (m : jm_M) (H : Heap) (locs : List Loc) (ls : Array Slot), jHs D cy B sz sh (jA B sz) s.heap H locs m → jL ls [some (jR B a0), some (jR B a1), some (jR B a2), some (jI x3)] → f_X5_copy_l2 N sh n a0 a1 a2 x3 m = some res → W p l e (jrm 0 0 0) s mi args below meth c H locs 0 0 (MQ below (jQc D cy B sz sh res none True) args s 0 0 (jA B sz)) (F0 mi 2 ls []) := by
  intro n
  induction n with
  | zero => intro a0 a1 a2 x3 h_x3 m H locs ls S L hyp; cases hyp
  | succ n ih => intro a0 a1 a2 x3 h_x3 m H locs ls S L hyp; exact t_X5_copy_b2 (N := N) C  ih h_x3 S L hyp
set_option maxHeartbeats 4000000 in
set_option maxRecDepth 100000 in
theorem t_X5_copy_e {p : Program} {l : Launch} {e : Env} {s : State} {mi : MethodId} {args : Array Value} {below : List Frame} {meth : Method} {c : Code} {D : va_G} {cy : Nat → ClassId} {B sz : Nat} {sh : jm_S} {res : jm_M} {N : Nat} (C : jCx p s mi args meth c cX5_copy 4 RX5 none D cy) {a0 : Nat} {a1 : Nat} {a2 : Nat} {m : jm_M} {H : Heap} {locs : List Loc} {ls : Array Slot} (S : jHs D cy B sz sh (jA B sz) s.heap H locs m) (L : jL ls [some (jR B a0), some (jR B a1), some (jR B a2), none]) (hyp : f_X5_copy N sh a0 a1 a2 m = some res) : W p l e (jrm 0 0 0) s mi args below meth c H locs 0 0 (MQ below (jQc D cy B sz sh res none True) args s 0 0 (jA B sz)) (F0 mi 0 ls []) := by
  unfold f_X5_copy at hyp
  refine jr_iconst (pc := 0) C dX5_copy_0 ?_
  refine jr_istore_n (pc := 1) C L dX5_copy_1 rfl (Nat.le_of_ble_eq_true rfl) (fun ls L => ?_)
  have L : jL ls [some (jR B a0), some (jR B a1), some (jR B a2), some (jI 0)] := L
  exact t_X5_copy_l2 C   N a0 a1 a2 0 (show jIn 0 from ⟨by decide, by decide⟩) m _ _ _ S (L.sub (jsub_s (jsub_s (jsub_s (jsub_s jsub_0))))) hyp
theorem c_X5_copy {l : Launch} {D : va_G} {cy : Nat → ClassId} {B sz : Nat} {sh : jm_S} {res : jm_M} {N : Nat} {m : jm_M} {a0 : Nat} {a1 : Nat} {a2 : Nat} (hyp : f_X5_copy N sh a0 a1 a2 m = some res) : jCt l D cy B sz sh 0 yX5_copy cX5_copy 4 none [jR B a0, jR B a1, jR B a2] m none res True :=
  jc_of (by decide) (fun v h => by simp only [List.mem_cons, List.not_mem_nil, or_false] at h; rcases h with rfl | rfl | rfl <;> first | rfl | exact jR_cat _ _) (Nat.le_of_ble_eq_true rfl) (fun C S L => t_X5_copy_e C   S L hyp)
set_option maxHeartbeats 4000000 in
set_option maxRecDepth 100000 in
theorem t_X5_lookLoop_b28 {p : Program} {l : Launch} {e : Env} {s : State} {mi : MethodId} {args : Array Value} {below : List Frame} {meth : Method} {c : Code} {D : va_G} {cy : Nat → ClassId} {B sz : Nat} {sh : jm_S} {res : jm_M} {N : Nat} {rec : Nat → Int → Int → Nat → Nat → jm_M → Option jm_M} {kr : Nat} {k28 : Nat → Int → Int → Nat → Nat → Int → Int → jm_M → Option jm_M} (C : jCx p s mi args meth c cX5_lookLoop 8 RX5 none D cy) (hkr : 2 ≤ kr) (hrec : ∀ (a0 : Nat) (x1 : Int) (x2 : Int) (a3 : Nat) (a4 : Nat), jIn x1 → jIn x2 → ∀ (m : jm_M) (res : jm_M), rec a0 x1 x2 a3 a4 m = some res → jCt l D cy B sz sh kr yX5_look cX5_look 8 none [jR B a0, jI x1, jI x2, jR B a3, jR B a4] m none res True) (K28 : ∀ (a0 : Nat) (x1 : Int) (x2 : Int) (a4 : Nat) (a5 : Nat) (x6 : Int) (x7 : Int) , jIn x1 → jIn x2 → jIn x6 → jIn x7 → ∀ (m : jm_M) (H : Heap) (locs : List Loc) (ls : Array Slot), jHs D cy B sz sh (jA B sz) s.heap H locs m → jL ls [some (jR B a0), some (jI x1), some (jI x2), none, some (jR B a4), some (jR B a5), some (jI x6), some (jI x7)] → k28 a0 x1 x2 a4 a5 x6 x7 m = some res → W p l e (jrm (kr + 1) 0 0) s mi args below meth c H locs 0 0 (MQ below (jQc D cy B sz sh res none True) args s 0 0 (jA B sz)) (F0 mi 28 ls [])) {a0 : Nat} {x1 : Int} (h_x1 : jIn x1) {x2 : Int} (h_x2 : jIn x2) {a4 : Nat} {a5 : Nat} {x6 : Int} (h_x6 : jIn x6) {x7 : Int} (h_x7 : jIn x7) {m : jm_M} {H : Heap} {locs : List Loc} {ls : Array Slot} (S : jHs D cy B sz sh (jA B sz) s.heap H locs m) (L : jL ls [some (jR B a0), some (jI x1), some (jI x2), none, some (jR B a4), some (jR B a5), some (jI x6), some (jI x7)]) (hyp : f_X5_lookLoop_b28 N sh rec k28 a0 x1 x2 a4 a5 x6 x7 m = some res) : W p l e (jrm (kr + 1) 0 0) s mi args below meth c H locs 0 0 (MQ below (jQc D cy B sz sh res none True) args s 0 0 (jA B sz)) (F0 mi 28 ls []) := by
  unfold f_X5_lookLoop_b28 at hyp
  refine jr_iload (pc := 28) C L dX5_lookLoop_28 rfl ?_
  refine jr_iload (pc := 30) C L dX5_lookLoop_30 rfl ?_
  refine jr_icmp_ge (pc := 32) C h_x7 h_x6 (tgt := 68) dX5_lookLoop_32 (by decide) (fun c1 => ?_) (fun c1 => ?_)
  · have hyp := (if_pos c1).symm.trans hyp
    refine jr_aload_n (pc := 35) C L dX5_lookLoop_35 rfl rfl ?_
    refine jr_aload_n (pc := 36) C L dX5_lookLoop_36 rfl rfl ?_
    obtain ⟨v2, hv2, hyp⟩ := jbind hyp
    refine jr_getR (pc := 37) C S lf_X5_40 rfl hv2 dX5_lookLoop_37 ?_
    refine jr_iload_n (pc := 40) C L dX5_lookLoop_40 rfl rfl ?_
    obtain ⟨u3, hu3, hyp⟩ := jbind hyp
    obtain ⟨q4, hq4, hyp⟩ := jbind hyp
    refine jr_callV_I (pc := 41) C S L (As := [jI x1]) (rest := [jR B a0]) (c_X10_firstPart (m0 := m) h_x1 hq4) mv_X10_firstPart ml_X5_105 rfl (jck_spec hu3) (by omega) rfl rfl rfl (by simp [jR_cat, jI_cat]) ⟨Nat.le_refl 0, Nat.le_refl 0⟩ dX5_lookLoop_41 (fun p5 H locs S => ?_)
    refine jr_iload_n (pc := 44) C L dX5_lookLoop_44 rfl rfl ?_
    refine jr_iconst (pc := 45) C dX5_lookLoop_45 ?_
    refine jr_iadd (pc := 46) C dX5_lookLoop_46 ?_
    refine jr_aload (pc := 47) C L dX5_lookLoop_47 rfl ?_
    refine jr_aload (pc := 49) C L dX5_lookLoop_49 rfl ?_
    obtain ⟨u6, hu6, hyp⟩ := jbind hyp
    obtain ⟨q7, hq7, hyp⟩ := jbind hyp
    refine jr_callV_N (pc := 51) C S L (As := [jI q4, jI (jw (x2 + 1)), jR B a4, jR B a5]) (rest := []) (hrec a0 q4 (jw (x2 + 1)) a4 a5 p5 (jIn_w _) m q7 hq7) mv_X5_look ml_X5_101 rfl (jck_spec hu6) (by omega) rfl rfl rfl (Nat.le_of_ble_eq_true rfl) ⟨Nat.le_refl 0, Nat.le_refl 0⟩ dX5_lookLoop_51 (fun p8 H locs S => ?_)
    refine jr_aload_n (pc := 54) C L dX5_lookLoop_54 rfl rfl ?_
    refine jr_aload (pc := 55) C L dX5_lookLoop_55 rfl ?_
    refine jr_aload (pc := 57) C L dX5_lookLoop_57 rfl ?_
    obtain ⟨u9, hu9, hyp⟩ := jbind hyp
    obtain ⟨q10, hq10, hyp⟩ := jbind hyp
    refine jr_callV_N (pc := 59) C S L (As := [jR B a4, jR B a5]) (rest := []) (c_X5_raise  hq10) mv_X5_raise ml_X5_119 rfl (jck_spec hu9) (by omega) rfl rfl rfl (Nat.le_of_ble_eq_true rfl) ⟨Nat.le_refl 0, Nat.le_refl 0⟩ dX5_lookLoop_59 (fun p11 H locs S => ?_)
    refine jr_iinc (pc := 62) C L dX5_lookLoop_62 rfl (Nat.le_of_ble_eq_true rfl) (fun ls L => ?_)
    have L : jL ls [some (jR B a0), some (jI x1), some (jI x2), none, some (jR B a4), some (jR B a5), some (jI x6), some (jI (jw (x7 + 1)))] := L
    refine jr_goto (pc := 65) C (tgt := 28) dX5_lookLoop_65 (by decide) ?_
    exact K28 a0 x1 x2 a4 a5 x6 (jw (x7 + 1)) h_x1 h_x2 h_x6 (jIn_w _) q10 _ _ _ S (L.sub (jsub_s (jsub_s (jsub_s (jsub_n (jsub_s (jsub_s (jsub_s (jsub_s jsub_0))))))))) hyp
  · have hyp := (if_neg c1).symm.trans hyp
    cases hyp
    exact jr_vret C S trivial dX5_lookLoop_68
theorem t_X5_lookLoop_l28 {p : Program} {l : Launch} {e : Env} {s : State} {mi : MethodId} {args : Array Value} {below : List Frame} {meth : Method} {c : Code} {D : va_G} {cy : Nat → ClassId} {B sz : Nat} {sh : jm_S} {res : jm_M} {N : Nat} {rec : Nat → Int → Int → Nat → Nat → jm_M → Option jm_M} {kr : Nat} (C : jCx p s mi args meth c cX5_lookLoop 8 RX5 none D cy) (hkr : 2 ≤ kr) (hrec : ∀ (a0 : Nat) (x1 : Int) (x2 : Int) (a3 : Nat) (a4 : Nat), jIn x1 → jIn x2 → ∀ (m : jm_M) (res : jm_M), rec a0 x1 x2 a3 a4 m = some res → jCt l D cy B sz sh kr yX5_look cX5_look 8 none [jR B a0, jI x1, jI x2, jR B a3, jR B a4] m none res True) : ∀ (n : Nat) (a0 : Nat) (x1 : Int) (x2 : Int) (a4 : Nat) (a5 : Nat) (x6 : Int) (x7 : Int), jIn x1 → jIn x2 → jIn x6 → jIn x7 → ∀ (m : jm_M) (H : Heap) (locs : List Loc) (ls : Array Slot), jHs D cy B sz sh (jA B sz) s.heap H locs m → jL ls [some (jR B a0), some (jI x1), some (jI x2), none, some (jR B a4), some (jR B a5), some (jI x6), some (jI x7)] → f_X5_lookLoop_l28 N sh rec n a0 x1 x2 a4 a5 x6 x7 m = some res → W p l e (jrm (kr + 1) 0 0) s mi args below meth c H locs 0 0 (MQ below (jQc D cy B sz sh res none True) args s 0 0 (jA B sz)) (F0 mi 28 ls []) := by
  intro n
  induction n with
  | zero => intro a0 x1 x2 a4 a5 x6 x7 h_x1 h_x2 h_x6 h_x7 m H locs ls S L hyp; cases hyp
  | succ n ih => intro a0 x1 x2 a4 a5 x6 x7 h_x1 h_x2 h_x6 h_x7 m H locs ls S L hyp; exact t_X5_lookLoop_b28 (N := N) C hkr hrec ih h_x1 h_x2 h_x6 h_x7 S L hyp
set_option maxHeartbeats 4000000 in
set_option maxRecDepth 100000 in
theorem t_X5_lookLoop_e {p : Program} {l : Launch} {e : Env} {s : State} {mi : MethodId} {args : Array Value} {below : List Frame} {meth : Method} {c : Code} {D : va_G} {cy : Nat → ClassId} {B sz : Nat} {sh : jm_S} {res : jm_M} {N : Nat} {rec : Nat → Int → Int → Nat → Nat → jm_M → Option jm_M} {kr : Nat} (C : jCx p s mi args meth c cX5_lookLoop 8 RX5 none D cy) (hkr : 2 ≤ kr) (hrec : ∀ (a0 : Nat) (x1 : Int) (x2 : Int) (a3 : Nat) (a4 : Nat), jIn x1 → jIn x2 → ∀ (m : jm_M) (res : jm_M), rec a0 x1 x2 a3 a4 m = some res → jCt l D cy B sz sh kr yX5_look cX5_look 8 none [jR B a0, jI x1, jI x2, jR B a3, jR B a4] m none res True) {a0 : Nat} {x1 : Int} (h_x1 : jIn x1) {x2 : Int} (h_x2 : jIn x2) {a3 : Nat} {a4 : Nat} {m : jm_M} {H : Heap} {locs : List Loc} {ls : Array Slot} (S : jHs D cy B sz sh (jA B sz) s.heap H locs m) (L : jL ls [some (jR B a0), some (jI x1), some (jI x2), some (jR B a3), some (jR B a4), none, none, none]) (hyp : f_X5_lookLoop N sh rec a0 x1 x2 a3 a4 m = some res) : W p l e (jrm (kr + 1) 0 0) s mi args below meth c H locs 0 0 (MQ below (jQc D cy B sz sh res none True) args s 0 0 (jA B sz)) (F0 mi 0 ls []) := by
  unfold f_X5_lookLoop at hyp
  refine jr_aload_n (pc := 0) C L dX5_lookLoop_0 rfl rfl ?_
  obtain ⟨v12, hv12, hyp⟩ := jbind hyp
  refine jr_getR (pc := 1) C S lf_X5_20 rfl hv12 dX5_lookLoop_1 ?_
  refine jr_iload_n (pc := 4) C L dX5_lookLoop_4 rfl rfl ?_
  obtain ⟨v13, hv13, hyp⟩ := jbind hyp
  refine jr_aal (pc := 5) C S (by decide) h_x2 hv13 dX5_lookLoop_5 ?_
  refine jr_astore (pc := 6) C L dX5_lookLoop_6 (Nat.le_of_ble_eq_true rfl) (fun ls L => ?_)
  have L : jL ls [some (jR B a0), some (jI x1), some (jI x2), some (jR B a3), some (jR B a4), some (jR B v13.toNat), none, none] := L
  refine jr_aload_n (pc := 8) C L dX5_lookLoop_8 rfl rfl ?_
  obtain ⟨v14, hv14, hyp⟩ := jbind hyp
  refine jr_getR (pc := 9) C S lf_X5_40 rfl hv14 dX5_lookLoop_9 ?_
  refine jr_iload_n (pc := 12) C L dX5_lookLoop_12 rfl rfl ?_
  obtain ⟨u15, hu15, hyp⟩ := jbind hyp
  obtain ⟨q16, hq16, hyp⟩ := jbind hyp
  refine jr_callV_I (pc := 13) C S L (As := [jI x1]) (rest := []) (c_X10_timesAt (m0 := m) h_x1 hq16) mv_X10_timesAt ml_X5_116 rfl (jck_spec hu15) (by omega) rfl rfl rfl (Nat.le_of_ble_eq_true rfl) ⟨Nat.le_refl 0, Nat.le_refl 0⟩ dX5_lookLoop_13 (fun p17 H locs S => ?_)
  refine jr_istore (pc := 16) C L dX5_lookLoop_16 (Nat.le_of_ble_eq_true rfl) (fun ls L => ?_)
  have L : jL ls [some (jR B a0), some (jI x1), some (jI x2), some (jR B a3), some (jR B a4), some (jR B v13.toNat), some (jI q16), none] := L
  refine jr_aload_n (pc := 18) C L dX5_lookLoop_18 rfl rfl ?_
  refine jr_aload_n (pc := 19) C L dX5_lookLoop_19 rfl rfl ?_
  refine jr_aload (pc := 20) C L dX5_lookLoop_20 rfl ?_
  obtain ⟨u18, hu18, hyp⟩ := jbind hyp
  obtain ⟨q19, hq19, hyp⟩ := jbind hyp
  refine jr_callV_N (pc := 22) C S L (As := [jR B a3, jR B a4]) (rest := []) (c_X5_copy  hq19) mv_X5_copy ml_X5_126 rfl (jck_spec hu18) (by omega) rfl rfl rfl (Nat.le_of_ble_eq_true rfl) ⟨Nat.le_refl 0, Nat.le_refl 0⟩ dX5_lookLoop_22 (fun p20 H locs S => ?_)
  refine jr_iconst (pc := 25) C dX5_lookLoop_25 ?_
  refine jr_istore (pc := 26) C L dX5_lookLoop_26 (Nat.le_of_ble_eq_true rfl) (fun ls L => ?_)
  have L : jL ls [some (jR B a0), some (jI x1), some (jI x2), some (jR B a3), some (jR B a4), some (jR B v13.toNat), some (jI q16), some (jI 0)] := L
  exact t_X5_lookLoop_l28 C hkr hrec  N a0 x1 x2 a4 v13.toNat q16 0 h_x1 h_x2 p17 (show jIn 0 from ⟨by decide, by decide⟩) q19 _ _ _ S (L.sub (jsub_s (jsub_s (jsub_s (jsub_n (jsub_s (jsub_s (jsub_s (jsub_s jsub_0))))))))) hyp
theorem c_X5_lookLoop {l : Launch} {D : va_G} {cy : Nat → ClassId} {B sz : Nat} {sh : jm_S} {res : jm_M} {N : Nat} {rec : Nat → Int → Int → Nat → Nat → jm_M → Option jm_M} {kr : Nat} {m : jm_M} (hkr : 2 ≤ kr) (hrec : ∀ (a0 : Nat) (x1 : Int) (x2 : Int) (a3 : Nat) (a4 : Nat), jIn x1 → jIn x2 → ∀ (m : jm_M) (res : jm_M), rec a0 x1 x2 a3 a4 m = some res → jCt l D cy B sz sh kr yX5_look cX5_look 8 none [jR B a0, jI x1, jI x2, jR B a3, jR B a4] m none res True) {a0 : Nat} {x1 : Int} (h_x1 : jIn x1) {x2 : Int} (h_x2 : jIn x2) {a3 : Nat} {a4 : Nat} (hyp : f_X5_lookLoop N sh rec a0 x1 x2 a3 a4 m = some res) : jCt l D cy B sz sh (kr + 1) yX5_lookLoop cX5_lookLoop 8 none [jR B a0, jI x1, jI x2, jR B a3, jR B a4] m none res True :=
  jc_of (by decide) (fun v h => by simp only [List.mem_cons, List.not_mem_nil, or_false] at h; rcases h with rfl | rfl | rfl | rfl | rfl <;> first | rfl | exact jR_cat _ _) (Nat.le_of_ble_eq_true rfl) (fun C S L => t_X5_lookLoop_e C hkr hrec h_x1 h_x2 S L hyp)
set_option maxHeartbeats 4000000 in
set_option maxRecDepth 100000 in
theorem t_X7_stepOf_b10 {p : Program} {l : Launch} {e : Env} {s : State} {mi : MethodId} {args : Array Value} {below : List Frame} {meth : Method} {c : Code} {D : va_G} {cy : Nat → ClassId} {B sz : Nat} {sh : jm_S} {res : Int} {m0 : jm_M} (C : jCx p s mi args meth c cX7_stepOf 6 RX7 (some .int) D cy) {x2 : Int} (h_x2 : jIn x2) {H : Heap} {locs : List Loc} {ls : Array Slot} (S : jHs D cy B sz sh (jA B sz) s.heap H locs m0) (L : jL ls [none, none, some (jI x2), none, none, none]) (hyp : f_X7_stepOf_b10 sh x2 m0 = some res) : W p l e (jrm 0 0 0) s mi args below meth c H locs 0 0 (MQ below (jQc D cy B sz sh m0 (some (jI res)) (jIn res)) args s 0 0 (jA B sz)) (F0 mi 10 ls []) := by
  unfold f_X7_stepOf_b10 at hyp
  refine jr_iconst (pc := 10) C dX7_stepOf_10 ?_
  refine jr_iload_n (pc := 11) C L dX7_stepOf_11 rfl rfl ?_
  refine jr_imul (pc := 12) C dX7_stepOf_12 ?_
  cases hyp
  exact jr_iret C S (jIn_w _) dX7_stepOf_13
set_option maxHeartbeats 4000000 in
set_option maxRecDepth 100000 in
theorem t_X7_stepOf_b88 {p : Program} {l : Launch} {e : Env} {s : State} {mi : MethodId} {args : Array Value} {below : List Frame} {meth : Method} {c : Code} {D : va_G} {cy : Nat → ClassId} {B sz : Nat} {sh : jm_S} {res : Int} {m0 : jm_M} (C : jCx p s mi args meth c cX7_stepOf 6 RX7 (some .int) D cy) {x2 : Int} (h_x2 : jIn x2) {H : Heap} {locs : List Loc} {ls : Array Slot} (S : jHs D cy B sz sh (jA B sz) s.heap H locs m0) (L : jL ls [none, none, some (jI x2), none, none, none]) (hyp : f_X7_stepOf_b88 sh x2 m0 = some res) : W p l e (jrm 0 0 0) s mi args below meth c H locs 0 0 (MQ below (jQc D cy B sz sh m0 (some (jI res)) (jIn res)) args s 0 0 (jA B sz)) (F0 mi 88 ls []) := by
  unfold f_X7_stepOf_b88 at hyp
  refine jr_iconst (pc := 88) C dX7_stepOf_88 ?_
  refine jr_iload_n (pc := 89) C L dX7_stepOf_89 rfl rfl ?_
  refine jr_imul (pc := 90) C dX7_stepOf_90 ?_
  cases hyp
  exact jr_iret C S (jIn_w _) dX7_stepOf_91
set_option maxHeartbeats 4000000 in
set_option maxRecDepth 100000 in
theorem t_X7_stepOf_b58 {p : Program} {l : Launch} {e : Env} {s : State} {mi : MethodId} {args : Array Value} {below : List Frame} {meth : Method} {c : Code} {D : va_G} {cy : Nat → ClassId} {B sz : Nat} {sh : jm_S} {res : Int} {m0 : jm_M} (C : jCx p s mi args meth c cX7_stepOf 6 RX7 (some .int) D cy) {a0 : Nat} {x1 : Int} (h_x1 : jIn x1) {x2 : Int} (h_x2 : jIn x2) {s0 : Int} (h_s0 : jIn s0) {H : Heap} {locs : List Loc} {ls : Array Slot} (S : jHs D cy B sz sh (jA B sz) s.heap H locs m0) (L : jL ls [some (jR B a0), some (jI x1), some (jI x2), none, none, none]) (hyp : f_X7_stepOf_b58 sh a0 x1 x2 s0 m0 = some res) : W p l e (jrm 0 0 0) s mi args below meth c H locs 0 0 (MQ below (jQc D cy B sz sh m0 (some (jI res)) (jIn res)) args s 0 0 (jA B sz)) (F0 mi 58 ls [jI s0]) := by
  unfold f_X7_stepOf_b58 at hyp
  refine jr_istore (pc := 58) C L dX7_stepOf_58 (Nat.le_of_ble_eq_true rfl) (fun ls L => ?_)
  have L : jL ls [some (jR B a0), some (jI x1), some (jI x2), none, none, some (jI s0)] := L
  refine jr_iload (pc := 60) C L dX7_stepOf_60 rfl ?_
  refine jr_if_lt (pc := 62) C h_s0 (tgt := 88) dX7_stepOf_62 (by decide) (fun c1 => ?_) (fun c1 => ?_)
  · have hyp := (if_pos c1).symm.trans hyp
    exact t_X7_stepOf_b88 C   h_x2 S (L.sub (jsub_n (jsub_n (jsub_s (jsub_n (jsub_n (jsub_n jsub_0))))))) hyp
  · have hyp := (if_neg c1).symm.trans hyp
    refine jr_iload (pc := 65) C L dX7_stepOf_65 rfl ?_
    refine jr_bipush (pc := 67) C dX7_stepOf_67 (by decide) ?_
    refine jr_icmp_ge (pc := 69) C h_s0 (show jIn 65 from ⟨by decide, by decide⟩) (tgt := 88) dX7_stepOf_69 (by decide) (fun c2 => ?_) (fun c2 => ?_)
    · have hyp := (if_pos c2).symm.trans hyp
      refine jr_iconst (pc := 72) C dX7_stepOf_72 ?_
      refine jr_iload_n (pc := 73) C L dX7_stepOf_73 rfl rfl ?_
      refine jr_imul (pc := 74) C dX7_stepOf_74 ?_
      refine jr_aload_n (pc := 75) C L dX7_stepOf_75 rfl rfl ?_
      obtain ⟨v3, hv3, hyp⟩ := jbind hyp
      refine jr_getR (pc := 76) C S lf_X7_32 rfl hv3 dX7_stepOf_76 ?_
      refine jr_iload_n (pc := 79) C L dX7_stepOf_79 rfl rfl ?_
      obtain ⟨v4, hv4, hyp⟩ := jbind hyp
      refine jr_aal (pc := 80) C S (by decide) h_x1 hv4 dX7_stepOf_80 ?_
      refine jr_iload (pc := 81) C L dX7_stepOf_81 rfl ?_
      obtain ⟨v5, hv5, hyp⟩ := jbind hyp
      have iv5 := jra_in S hv5
      refine jr_ial (pc := 83) C S h_s0 hv5 dX7_stepOf_83 ?_
      refine jr_iadd (pc := 84) C dX7_stepOf_84 ?_
      refine jr_goto (pc := 85) C (tgt := 91) dX7_stepOf_85 (by decide) ?_
      cases hyp
      exact jr_iret C S (jIn_w _) dX7_stepOf_91
    · have hyp := (if_neg c2).symm.trans hyp
      exact t_X7_stepOf_b88 C   h_x2 S (L.sub (jsub_n (jsub_n (jsub_s (jsub_n (jsub_n (jsub_n jsub_0))))))) hyp
set_option maxHeartbeats 4000000 in
set_option maxRecDepth 100000 in
theorem t_X7_stepOf_b57 {p : Program} {l : Launch} {e : Env} {s : State} {mi : MethodId} {args : Array Value} {below : List Frame} {meth : Method} {c : Code} {D : va_G} {cy : Nat → ClassId} {B sz : Nat} {sh : jm_S} {res : Int} {m0 : jm_M} (C : jCx p s mi args meth c cX7_stepOf 6 RX7 (some .int) D cy) {a0 : Nat} {x1 : Int} (h_x1 : jIn x1) {x2 : Int} (h_x2 : jIn x2) {H : Heap} {locs : List Loc} {ls : Array Slot} (S : jHs D cy B sz sh (jA B sz) s.heap H locs m0) (L : jL ls [some (jR B a0), some (jI x1), some (jI x2), none, none, none]) (hyp : f_X7_stepOf_b57 sh a0 x1 x2 m0 = some res) : W p l e (jrm 0 0 0) s mi args below meth c H locs 0 0 (MQ below (jQc D cy B sz sh m0 (some (jI res)) (jIn res)) args s 0 0 (jA B sz)) (F0 mi 57 ls []) := by
  unfold f_X7_stepOf_b57 at hyp
  refine jr_iconst (pc := 57) C dX7_stepOf_57 ?_
  exact t_X7_stepOf_b58 C   h_x1 h_x2 (show jIn 0 from ⟨by decide, by decide⟩) S (L.sub (jsub_s (jsub_s (jsub_s (jsub_n (jsub_n (jsub_n jsub_0))))))) hyp
set_option maxHeartbeats 4000000 in
set_option maxRecDepth 100000 in
theorem t_X7_stepOf_e {p : Program} {l : Launch} {e : Env} {s : State} {mi : MethodId} {args : Array Value} {below : List Frame} {meth : Method} {c : Code} {D : va_G} {cy : Nat → ClassId} {B sz : Nat} {sh : jm_S} {res : Int} {m0 : jm_M} (C : jCx p s mi args meth c cX7_stepOf 6 RX7 (some .int) D cy) {a0 : Nat} {x1 : Int} (h_x1 : jIn x1) {x2 : Int} (h_x2 : jIn x2) {H : Heap} {locs : List Loc} {ls : Array Slot} (S : jHs D cy B sz sh (jA B sz) s.heap H locs m0) (L : jL ls [some (jR B a0), some (jI x1), some (jI x2), none, none, none]) (hyp : f_X7_stepOf sh a0 x1 x2 m0 = some res) : W p l e (jrm 0 0 0) s mi args below meth c H locs 0 0 (MQ below (jQc D cy B sz sh m0 (some (jI res)) (jIn res)) args s 0 0 (jA B sz)) (F0 mi 0 ls []) := by
  unfold f_X7_stepOf at hyp
  refine jr_iload_n (pc := 0) C L dX7_stepOf_0 rfl rfl ?_
  refine jr_if_lt (pc := 1) C h_x1 (tgt := 10) dX7_stepOf_1 (by decide) (fun c6 => ?_) (fun c6 => ?_)
  · have hyp := (if_pos c6).symm.trans hyp
    exact t_X7_stepOf_b10 C   h_x2 S (L.sub (jsub_n (jsub_n (jsub_s (jsub_n (jsub_n (jsub_n jsub_0))))))) hyp
  · have hyp := (if_neg c6).symm.trans hyp
    refine jr_iload_n (pc := 4) C L dX7_stepOf_4 rfl rfl ?_
    refine jr_bipush (pc := 5) C dX7_stepOf_5 (by decide) ?_
    refine jr_icmp_lt (pc := 7) C h_x1 (show jIn 8 from ⟨by decide, by decide⟩) (tgt := 14) dX7_stepOf_7 (by decide) (fun c7 => ?_) (fun c7 => ?_)
    · have hyp := (if_pos c7).symm.trans hyp
      refine jr_aload_n (pc := 14) C L dX7_stepOf_14 rfl rfl ?_
      obtain ⟨v8, hv8, hyp⟩ := jbind hyp
      refine jr_getR (pc := 15) C S lf_X7_27 rfl hv8 dX7_stepOf_15 ?_
      refine jr_aload_n (pc := 18) C L dX7_stepOf_18 rfl rfl ?_
      obtain ⟨v9, hv9, hyp⟩ := jbind hyp
      refine jr_getR (pc := 19) C S lf_X7_9 rfl hv9 dX7_stepOf_19 ?_
      refine jr_iload_n (pc := 22) C L dX7_stepOf_22 rfl rfl ?_
      obtain ⟨v10, hv10, hyp⟩ := jbind hyp
      have iv10 := jra_in S hv10
      refine jr_ial (pc := 23) C S h_x1 hv10 dX7_stepOf_23 ?_
      obtain ⟨v11, hv11, hyp⟩ := jbind hyp
      have iv11 := jra_in S hv11
      refine jr_ial (pc := 24) C S iv10 hv11 dX7_stepOf_24 ?_
      refine jr_istore_n (pc := 25) C L dX7_stepOf_25 rfl (Nat.le_of_ble_eq_true rfl) (fun ls L => ?_)
      have L : jL ls [some (jR B a0), some (jI x1), some (jI x2), some (jI v11), none, none] := L
      refine jr_aload_n (pc := 26) C L dX7_stepOf_26 rfl rfl ?_
      obtain ⟨v12, hv12, hyp⟩ := jbind hyp
      refine jr_getR (pc := 27) C S lf_X7_24 rfl hv12 dX7_stepOf_27 ?_
      refine jr_aload_n (pc := 30) C L dX7_stepOf_30 rfl rfl ?_
      obtain ⟨v13, hv13, hyp⟩ := jbind hyp
      refine jr_getR (pc := 31) C S lf_X7_9 rfl hv13 dX7_stepOf_31 ?_
      refine jr_iload_n (pc := 34) C L dX7_stepOf_34 rfl rfl ?_
      obtain ⟨v14, hv14, hyp⟩ := jbind hyp
      have iv14 := jra_in S hv14
      refine jr_ial (pc := 35) C S h_x1 hv14 dX7_stepOf_35 ?_
      obtain ⟨v15, hv15, hyp⟩ := jbind hyp
      have iv15 := jra_in S hv15
      refine jr_ial (pc := 36) C S iv14 hv15 dX7_stepOf_36 ?_
      refine jr_istore (pc := 37) C L dX7_stepOf_37 (Nat.le_of_ble_eq_true rfl) (fun ls L => ?_)
      have L : jL ls [some (jR B a0), some (jI x1), some (jI x2), some (jI v11), some (jI v15), none] := L
      refine jr_iload_n (pc := 39) C L dX7_stepOf_39 rfl rfl ?_
      refine jr_if_le (pc := 40) C iv11 (tgt := 57) dX7_stepOf_40 (by decide) (fun c16 => ?_) (fun c16 => ?_)
      · have hyp := (if_pos c16).symm.trans hyp
        refine jr_iload (pc := 43) C L dX7_stepOf_43 rfl ?_
        refine jr_if_le (pc := 45) C iv15 (tgt := 57) dX7_stepOf_45 (by decide) (fun c17 => ?_) (fun c17 => ?_)
        · have hyp := (if_pos c17).symm.trans hyp
          refine jr_iload_n (pc := 48) C L dX7_stepOf_48 rfl rfl ?_
          refine jr_iload_n (pc := 49) C L dX7_stepOf_49 rfl rfl ?_
          by_cases c18 : v11 = 0
          · exact absurd ((if_pos c18).symm.trans hyp) (by intro h; cases h)
          have hyp := (if_neg c18).symm.trans hyp
          refine jr_idiv (pc := 50) C h_x2 iv11 c18 dX7_stepOf_50 ?_
          refine jr_iload (pc := 51) C L dX7_stepOf_51 rfl ?_
          by_cases c19 : v15 = 0
          · exact absurd ((if_pos c19).symm.trans hyp) (by intro h; cases h)
          have hyp := (if_neg c19).symm.trans hyp
          refine jr_irem (pc := 53) C (jIn_div _ _) iv15 c19 dX7_stepOf_53 ?_
          refine jr_goto (pc := 54) C (tgt := 58) dX7_stepOf_54 (by decide) ?_
          exact t_X7_stepOf_b58 C   h_x1 h_x2 (jIn_rem _ (jIn_div _ _)) S (L.sub (jsub_s (jsub_s (jsub_s (jsub_n (jsub_n (jsub_n jsub_0))))))) hyp
        · have hyp := (if_neg c17).symm.trans hyp
          exact t_X7_stepOf_b57 C   h_x1 h_x2 S (L.sub (jsub_s (jsub_s (jsub_s (jsub_n (jsub_n (jsub_n jsub_0))))))) hyp
      · have hyp := (if_neg c16).symm.trans hyp
        exact t_X7_stepOf_b57 C   h_x1 h_x2 S (L.sub (jsub_s (jsub_s (jsub_s (jsub_n (jsub_n (jsub_n jsub_0))))))) hyp
    · have hyp := (if_neg c7).symm.trans hyp
      exact t_X7_stepOf_b10 C   h_x2 S (L.sub (jsub_n (jsub_n (jsub_s (jsub_n (jsub_n (jsub_n jsub_0))))))) hyp
theorem c_X7_stepOf {l : Launch} {D : va_G} {cy : Nat → ClassId} {B sz : Nat} {sh : jm_S} {res : Int} {m0 : jm_M} {a0 : Nat} {x1 : Int} (h_x1 : jIn x1) {x2 : Int} (h_x2 : jIn x2) (hyp : f_X7_stepOf sh a0 x1 x2 m0 = some res) : jCt l D cy B sz sh 0 yX7_stepOf cX7_stepOf 6 (some .int) [jR B a0, jI x1, jI x2] m0 (some (jI res)) m0 (jIn res) :=
  jc_of (by decide) (fun v h => by simp only [List.mem_cons, List.not_mem_nil, or_false] at h; rcases h with rfl | rfl | rfl <;> first | rfl | exact jR_cat _ _) (Nat.le_of_ble_eq_true rfl) (fun C S L => t_X7_stepOf_e C  h_x1 h_x2 S L hyp)
set_option maxHeartbeats 4000000 in
set_option maxRecDepth 100000 in
theorem t_X5_lookFetch_b77 {p : Program} {l : Launch} {e : Env} {s : State} {mi : MethodId} {args : Array Value} {below : List Frame} {meth : Method} {c : Code} {D : va_G} {cy : Nat → ClassId} {B sz : Nat} {sh : jm_S} {res : jm_M} {N : Nat} {k3 : Nat → Int → Nat → Nat → Int → jm_M → Option jm_M} (C : jCx p s mi args meth c cX5_lookFetch 7 RX5 none D cy) (K3 : ∀ (a0 : Nat) (x1 : Int) (a2 : Nat) (a3 : Nat) (x4 : Int) , jIn x1 → jIn x4 → ∀ (m : jm_M) (H : Heap) (locs : List Loc) (ls : Array Slot), jHs D cy B sz sh (jA B sz) s.heap H locs m → jL ls [some (jR B a0), some (jI x1), some (jR B a2), some (jR B a3), some (jI x4), none, none] → k3 a0 x1 a2 a3 x4 m = some res → W p l e (jrm 1 0 0) s mi args below meth c H locs 0 0 (MQ below (jQc D cy B sz sh res none True) args s 0 0 (jA B sz)) (F0 mi 3 ls [])) {a0 : Nat} {x1 : Int} (h_x1 : jIn x1) {a2 : Nat} {a3 : Nat} {x4 : Int} (h_x4 : jIn x4) {m : jm_M} {H : Heap} {locs : List Loc} {ls : Array Slot} (S : jHs D cy B sz sh (jA B sz) s.heap H locs m) (L : jL ls [some (jR B a0), some (jI x1), some (jR B a2), some (jR B a3), some (jI x4), none, none]) (hyp : f_X5_lookFetch_b77 N sh k3 a0 x1 a2 a3 x4 m = some res) : W p l e (jrm 1 0 0) s mi args below meth c H locs 0 0 (MQ below (jQc D cy B sz sh res none True) args s 0 0 (jA B sz)) (F0 mi 77 ls []) := by
  unfold f_X5_lookFetch_b77 at hyp
  refine jr_iinc (pc := 77) C L dX5_lookFetch_77 rfl (Nat.le_of_ble_eq_true rfl) (fun ls L => ?_)
  have L : jL ls [some (jR B a0), some (jI x1), some (jR B a2), some (jR B a3), some (jI (jw (x4 + 1))), none, none] := L
  refine jr_goto (pc := 80) C (tgt := 3) dX5_lookFetch_80 (by decide) ?_
  exact K3 a0 x1 a2 a3 (jw (x4 + 1)) h_x1 (jIn_w _) m _ _ _ S (L.sub (jsub_s (jsub_s (jsub_s (jsub_s (jsub_s (jsub_n (jsub_n jsub_0)))))))) hyp
set_option maxHeartbeats 4000000 in
set_option maxRecDepth 100000 in
theorem t_X5_lookFetch_b75 {p : Program} {l : Launch} {e : Env} {s : State} {mi : MethodId} {args : Array Value} {below : List Frame} {meth : Method} {c : Code} {D : va_G} {cy : Nat → ClassId} {B sz : Nat} {sh : jm_S} {res : jm_M} {N : Nat} {k3 : Nat → Int → Nat → Nat → Int → jm_M → Option jm_M} (C : jCx p s mi args meth c cX5_lookFetch 7 RX5 none D cy) (K3 : ∀ (a0 : Nat) (x1 : Int) (a2 : Nat) (a3 : Nat) (x4 : Int) , jIn x1 → jIn x4 → ∀ (m : jm_M) (H : Heap) (locs : List Loc) (ls : Array Slot), jHs D cy B sz sh (jA B sz) s.heap H locs m → jL ls [some (jR B a0), some (jI x1), some (jR B a2), some (jR B a3), some (jI x4), none, none] → k3 a0 x1 a2 a3 x4 m = some res → W p l e (jrm 1 0 0) s mi args below meth c H locs 0 0 (MQ below (jQc D cy B sz sh res none True) args s 0 0 (jA B sz)) (F0 mi 3 ls [])) {a0 : Nat} {x1 : Int} (h_x1 : jIn x1) {a2 : Nat} {a3 : Nat} {x4 : Int} (h_x4 : jIn x4) {r0 : Nat} {s1 : Int} (h_s1 : jIn s1) {s2 : Int} (h_s2 : jIn s2) {s3 : Int} (h_s3 : jIn s3) {m : jm_M} {H : Heap} {locs : List Loc} {ls : Array Slot} (S : jHs D cy B sz sh (jA B sz) s.heap H locs m) (L : jL ls [some (jR B a0), some (jI x1), some (jR B a2), some (jR B a3), some (jI x4), none, none]) (hyp : f_X5_lookFetch_b75 N sh k3 a0 x1 a2 a3 x4 r0 s1 s2 s3 m = some res) : W p l e (jrm 1 0 0) s mi args below meth c H locs 0 0 (MQ below (jQc D cy B sz sh res none True) args s 0 0 (jA B sz)) (F0 mi 75 ls [jI s3, jI s2, jI s1, jR B r0]) := by
  unfold f_X5_lookFetch_b75 at hyp
  refine jr_iadd (pc := 75) C dX5_lookFetch_75 ?_
  obtain ⟨m1, hm1, hyp⟩ := jbind hyp
  refine jr_ias (pc := 76) C S h_s1 (jIn_w _) hm1 dX5_lookFetch_76 (fun H locs S => ?_)
  exact t_X5_lookFetch_b77 C  K3 h_x1 h_x4 S (L.sub (jsub_s (jsub_s (jsub_s (jsub_s (jsub_s (jsub_n (jsub_n jsub_0)))))))) hyp
set_option maxHeartbeats 4000000 in
set_option maxRecDepth 100000 in
theorem t_X5_lookFetch_b3 {p : Program} {l : Launch} {e : Env} {s : State} {mi : MethodId} {args : Array Value} {below : List Frame} {meth : Method} {c : Code} {D : va_G} {cy : Nat → ClassId} {B sz : Nat} {sh : jm_S} {res : jm_M} {N : Nat} {k3 : Nat → Int → Nat → Nat → Int → jm_M → Option jm_M} (C : jCx p s mi args meth c cX5_lookFetch 7 RX5 none D cy) (K3 : ∀ (a0 : Nat) (x1 : Int) (a2 : Nat) (a3 : Nat) (x4 : Int) , jIn x1 → jIn x4 → ∀ (m : jm_M) (H : Heap) (locs : List Loc) (ls : Array Slot), jHs D cy B sz sh (jA B sz) s.heap H locs m → jL ls [some (jR B a0), some (jI x1), some (jR B a2), some (jR B a3), some (jI x4), none, none] → k3 a0 x1 a2 a3 x4 m = some res → W p l e (jrm 1 0 0) s mi args below meth c H locs 0 0 (MQ below (jQc D cy B sz sh res none True) args s 0 0 (jA B sz)) (F0 mi 3 ls [])) {a0 : Nat} {x1 : Int} (h_x1 : jIn x1) {a2 : Nat} {a3 : Nat} {x4 : Int} (h_x4 : jIn x4) {m : jm_M} {H : Heap} {locs : List Loc} {ls : Array Slot} (S : jHs D cy B sz sh (jA B sz) s.heap H locs m) (L : jL ls [some (jR B a0), some (jI x1), some (jR B a2), some (jR B a3), some (jI x4), none, none]) (hyp : f_X5_lookFetch_b3 N sh k3 a0 x1 a2 a3 x4 m = some res) : W p l e (jrm 1 0 0) s mi args below meth c H locs 0 0 (MQ below (jQc D cy B sz sh res none True) args s 0 0 (jA B sz)) (F0 mi 3 ls []) := by
  unfold f_X5_lookFetch_b3 at hyp
  refine jr_iload (pc := 3) C L dX5_lookFetch_3 rfl ?_
  refine jr_aload_n (pc := 5) C L dX5_lookFetch_5 rfl rfl ?_
  obtain ⟨v2, hv2, hyp⟩ := jbind hyp
  refine jr_getR (pc := 6) C S lf_X5_30 rfl hv2 dX5_lookFetch_6 ?_
  obtain ⟨v3, hv3, hyp⟩ := jbind hyp
  have iv3 := jrf_in S hv3
  refine jr_getI (pc := 9) C S lf_X5_70 rfl hv3 dX5_lookFetch_9 ?_
  refine jr_icmp_ge (pc := 12) C h_x4 iv3 (tgt := 83) dX5_lookFetch_12 (by decide) (fun c4 => ?_) (fun c4 => ?_)
  · have hyp := (if_pos c4).symm.trans hyp
    refine jr_iload (pc := 15) C L dX5_lookFetch_15 rfl ?_
    refine jr_aload_n (pc := 17) C L dX5_lookFetch_17 rfl rfl ?_
    obtain ⟨v5, hv5, hyp⟩ := jbind hyp
    refine jr_alen (pc := 18) C S hv5 dX5_lookFetch_18 ?_
    refine jr_icmp_ge (pc := 19) C h_x4 (jlen_in hv5) (tgt := 83) dX5_lookFetch_19 (by decide) (fun c6 => ?_) (fun c6 => ?_)
    · have hyp := (if_pos c6).symm.trans hyp
      refine jr_aload_n (pc := 22) C L dX5_lookFetch_22 rfl rfl ?_
      obtain ⟨v7, hv7, hyp⟩ := jbind hyp
      refine jr_getR (pc := 23) C S lf_X5_30 rfl hv7 dX5_lookFetch_23 ?_
      refine jr_iload_n (pc := 26) C L dX5_lookFetch_26 rfl rfl ?_
      refine jr_iload (pc := 27) C L dX5_lookFetch_27 rfl ?_
      obtain ⟨u8, hu8, hyp⟩ := jbind hyp
      obtain ⟨q9, hq9, hyp⟩ := jbind hyp
      refine jr_callV_I (pc := 29) C S L (As := [jI x1, jI x4]) (rest := []) (c_X7_stepOf (m0 := m) h_x1 h_x4 hq9) mv_X7_stepOf ml_X5_90 rfl (jck_spec hu8) (by decide) rfl rfl rfl (Nat.le_of_ble_eq_true rfl) ⟨Nat.le_refl 0, Nat.le_refl 0⟩ dX5_lookFetch_29 (fun p10 H locs S => ?_)
      refine jr_istore (pc := 32) C L dX5_lookFetch_32 (Nat.le_of_ble_eq_true rfl) (fun ls L => ?_)
      have L : jL ls [some (jR B a0), some (jI x1), some (jR B a2), some (jR B a3), some (jI x4), some (jI q9), none] := L
      refine jr_iload (pc := 34) C L dX5_lookFetch_34 rfl ?_
      refine jr_iconst (pc := 36) C dX5_lookFetch_36 ?_
      refine jr_ishr (pc := 37) C dX5_lookFetch_37 ?_
      refine jr_istore (pc := 38) C L dX5_lookFetch_38 (Nat.le_of_ble_eq_true rfl) (fun ls L => ?_)
      have L : jL ls [some (jR B a0), some (jI x1), some (jR B a2), some (jR B a3), some (jI x4), some (jI q9), some (jI (jshr q9 1))] := L
      refine jr_iload (pc := 40) C L dX5_lookFetch_40 rfl ?_
      refine jr_if_lt (pc := 42) C (jIn_shr _ _) (tgt := 77) dX5_lookFetch_42 (by decide) (fun c11 => ?_) (fun c11 => ?_)
      · have hyp := (if_pos c11).symm.trans hyp
        exact t_X5_lookFetch_b77 C  K3 h_x1 h_x4 S (L.sub (jsub_s (jsub_s (jsub_s (jsub_s (jsub_s (jsub_n (jsub_n jsub_0)))))))) hyp
      · have hyp := (if_neg c11).symm.trans hyp
        refine jr_iload (pc := 45) C L dX5_lookFetch_45 rfl ?_
        refine jr_aload_n (pc := 47) C L dX5_lookFetch_47 rfl rfl ?_
        obtain ⟨v12, hv12, hyp⟩ := jbind hyp
        refine jr_alen (pc := 48) C S hv12 dX5_lookFetch_48 ?_
        refine jr_icmp_ge (pc := 49) C (jIn_shr _ _) (jlen_in hv12) (tgt := 77) dX5_lookFetch_49 (by decide) (fun c13 => ?_) (fun c13 => ?_)
        · have hyp := (if_pos c13).symm.trans hyp
          refine jr_aload_n (pc := 52) C L dX5_lookFetch_52 rfl rfl ?_
          refine jr_iload (pc := 53) C L dX5_lookFetch_53 rfl ?_
          refine jr_aload_n (pc := 55) C L dX5_lookFetch_55 rfl rfl ?_
          refine jr_iload (pc := 56) C L dX5_lookFetch_56 rfl ?_
          obtain ⟨v14, hv14, hyp⟩ := jbind hyp
          have iv14 := jra_in S hv14
          refine jr_ial (pc := 58) C S (jIn_shr _ _) hv14 dX5_lookFetch_58 ?_
          refine jr_iload (pc := 59) C L dX5_lookFetch_59 rfl ?_
          refine jr_iconst (pc := 61) C dX5_lookFetch_61 ?_
          refine jr_iand (pc := 62) C dX5_lookFetch_62 ?_
          refine jr_iconst (pc := 63) C dX5_lookFetch_63 ?_
          refine jr_icmp_ne (pc := 64) C (jIn_and _ _) (show jIn 1 from ⟨by decide, by decide⟩) (tgt := 71) dX5_lookFetch_64 (by decide) (fun c15 => ?_) (fun c15 => ?_)
          · have hyp := (if_pos c15).symm.trans hyp
            refine jr_iconst (pc := 67) C dX5_lookFetch_67 ?_
            refine jr_goto (pc := 68) C (tgt := 75) dX5_lookFetch_68 (by decide) ?_
            exact t_X5_lookFetch_b75 C  K3 h_x1 h_x4 h_x4 iv14 (show jIn 1 from ⟨by decide, by decide⟩) S (L.sub (jsub_s (jsub_s (jsub_s (jsub_s (jsub_s (jsub_n (jsub_n jsub_0)))))))) hyp
          · have hyp := (if_neg c15).symm.trans hyp
            refine jr_aload_n (pc := 71) C L dX5_lookFetch_71 rfl rfl ?_
            obtain ⟨v16, hv16, hyp⟩ := jbind hyp
            have iv16 := jrf_in S hv16
            refine jr_getI (pc := 72) C S lf_X5_48 rfl hv16 dX5_lookFetch_72 ?_
            exact t_X5_lookFetch_b75 C  K3 h_x1 h_x4 h_x4 iv14 iv16 S (L.sub (jsub_s (jsub_s (jsub_s (jsub_s (jsub_s (jsub_n (jsub_n jsub_0)))))))) hyp
        · have hyp := (if_neg c13).symm.trans hyp
          exact t_X5_lookFetch_b77 C  K3 h_x1 h_x4 S (L.sub (jsub_s (jsub_s (jsub_s (jsub_s (jsub_s (jsub_n (jsub_n jsub_0)))))))) hyp
    · have hyp := (if_neg c6).symm.trans hyp
      cases hyp
      exact jr_vret C S trivial dX5_lookFetch_83
  · have hyp := (if_neg c4).symm.trans hyp
    cases hyp
    exact jr_vret C S trivial dX5_lookFetch_83
theorem t_X5_lookFetch_l3 {p : Program} {l : Launch} {e : Env} {s : State} {mi : MethodId} {args : Array Value} {below : List Frame} {meth : Method} {c : Code} {D : va_G} {cy : Nat → ClassId} {B sz : Nat} {sh : jm_S} {res : jm_M} {N : Nat} (C : jCx p s mi args meth c cX5_lookFetch 7 RX5 none D cy) : ∀ (n : Nat) (a0 : Nat) (x1 : Int) (a2 : Nat) (a3 : Nat) (x4 : Int), jIn x1 → jIn x4 → ∀ (m : jm_M) (H : Heap) (locs : List Loc) (ls : Array Slot), jHs D cy B sz sh (jA B sz) s.heap H locs m → jL ls [some (jR B a0), some (jI x1), some (jR B a2), some (jR B a3), some (jI x4), none, none] → f_X5_lookFetch_l3 N sh n a0 x1 a2 a3 x4 m = some res → W p l e (jrm 1 0 0) s mi args below meth c H locs 0 0 (MQ below (jQc D cy B sz sh res none True) args s 0 0 (jA B sz)) (F0 mi 3 ls []) := by
  intro n
  induction n with
  | zero => intro a0 x1 a2 a3 x4 h_x1 h_x4 m H locs ls S L hyp; cases hyp
  | succ n ih => intro a0 x1 a2 a3 x4 h_x1 h_x4 m H locs ls S L hyp; exact t_X5_lookFetch_b3 (N := N) C  ih h_x1 h_x4 S L hyp
set_option maxHeartbeats 4000000 in
set_option maxRecDepth 100000 in
theorem t_X5_lookFetch_e {p : Program} {l : Launch} {e : Env} {s : State} {mi : MethodId} {args : Array Value} {below : List Frame} {meth : Method} {c : Code} {D : va_G} {cy : Nat → ClassId} {B sz : Nat} {sh : jm_S} {res : jm_M} {N : Nat} (C : jCx p s mi args meth c cX5_lookFetch 7 RX5 none D cy) {a0 : Nat} {x1 : Int} (h_x1 : jIn x1) {a2 : Nat} {a3 : Nat} {m : jm_M} {H : Heap} {locs : List Loc} {ls : Array Slot} (S : jHs D cy B sz sh (jA B sz) s.heap H locs m) (L : jL ls [some (jR B a0), some (jI x1), some (jR B a2), some (jR B a3), none, none, none]) (hyp : f_X5_lookFetch N sh a0 x1 a2 a3 m = some res) : W p l e (jrm 1 0 0) s mi args below meth c H locs 0 0 (MQ below (jQc D cy B sz sh res none True) args s 0 0 (jA B sz)) (F0 mi 0 ls []) := by
  unfold f_X5_lookFetch at hyp
  refine jr_iconst (pc := 0) C dX5_lookFetch_0 ?_
  refine jr_istore (pc := 1) C L dX5_lookFetch_1 (Nat.le_of_ble_eq_true rfl) (fun ls L => ?_)
  have L : jL ls [some (jR B a0), some (jI x1), some (jR B a2), some (jR B a3), some (jI 0), none, none] := L
  exact t_X5_lookFetch_l3 C   N a0 x1 a2 a3 0 h_x1 (show jIn 0 from ⟨by decide, by decide⟩) m _ _ _ S (L.sub (jsub_s (jsub_s (jsub_s (jsub_s (jsub_s (jsub_n (jsub_n jsub_0)))))))) hyp
theorem c_X5_lookFetch {l : Launch} {D : va_G} {cy : Nat → ClassId} {B sz : Nat} {sh : jm_S} {res : jm_M} {N : Nat} {m : jm_M} {a0 : Nat} {x1 : Int} (h_x1 : jIn x1) {a2 : Nat} {a3 : Nat} (hyp : f_X5_lookFetch N sh a0 x1 a2 a3 m = some res) : jCt l D cy B sz sh 1 yX5_lookFetch cX5_lookFetch 7 none [jR B a0, jI x1, jR B a2, jR B a3] m none res True :=
  jc_of (by decide) (fun v h => by simp only [List.mem_cons, List.not_mem_nil, or_false] at h; rcases h with rfl | rfl | rfl | rfl <;> first | rfl | exact jR_cat _ _) (Nat.le_of_ble_eq_true rfl) (fun C S L => t_X5_lookFetch_e C  h_x1 S L hyp)
set_option maxHeartbeats 4000000 in
set_option maxRecDepth 100000 in
theorem t_X5_look_b171 {p : Program} {l : Launch} {e : Env} {s : State} {mi : MethodId} {args : Array Value} {below : List Frame} {meth : Method} {c : Code} {D : va_G} {cy : Nat → ClassId} {B sz : Nat} {sh : jm_S} {res : jm_M} {N : Nat} {rec : Nat → Int → Int → Nat → Nat → jm_M → Option jm_M} {kr : Nat} (C : jCx p s mi args meth c cX5_look 8 RX5 none D cy) (hkr : 2 ≤ kr) (hrec : ∀ (a0 : Nat) (x1 : Int) (x2 : Int) (a3 : Nat) (a4 : Nat), jIn x1 → jIn x2 → ∀ (m : jm_M) (res : jm_M), rec a0 x1 x2 a3 a4 m = some res → jCt l D cy B sz sh kr yX5_look cX5_look 8 none [jR B a0, jI x1, jI x2, jR B a3, jR B a4] m none res True) {a0 : Nat} {x1 : Int} (h_x1 : jIn x1) {x2 : Int} (h_x2 : jIn x2) {a3 : Nat} {a4 : Nat} {m : jm_M} {H : Heap} {locs : List Loc} {ls : Array Slot} (S : jHs D cy B sz sh (jA B sz) s.heap H locs m) (L : jL ls [some (jR B a0), some (jI x1), some (jI x2), some (jR B a3), some (jR B a4), none, none, none]) (hyp : f_X5_look_b171 N sh rec a0 x1 x2 a3 a4 m = some res) : W p l e (jrm (kr + 3) 0 0) s mi args below meth c H locs 0 0 (MQ below (jQc D cy B sz sh res none True) args s 0 0 (jA B sz)) (F0 mi 171 ls []) := by
  unfold f_X5_look_b171 at hyp
  refine jr_aload_n (pc := 171) C L dX5_look_171 rfl rfl ?_
  refine jr_iload_n (pc := 172) C L dX5_look_172 rfl rfl ?_
  refine jr_iload_n (pc := 173) C L dX5_look_173 rfl rfl ?_
  refine jr_aload_n (pc := 174) C L dX5_look_174 rfl rfl ?_
  refine jr_aload (pc := 175) C L dX5_look_175 rfl ?_
  obtain ⟨u1, hu1, hyp⟩ := jbind hyp
  obtain ⟨q2, hq2, hyp⟩ := jbind hyp
  refine jr_callV_N (pc := 177) C S L (As := [jI x1, jI x2, jR B a3, jR B a4]) (rest := []) (c_X5_lookLoop (kr := kr) (by omega) hrec h_x1 h_x2 hq2) mv_X5_lookLoop ml_X5_123 rfl (jck_spec hu1) (by omega) rfl rfl rfl (Nat.le_of_ble_eq_true rfl) ⟨Nat.le_refl 0, Nat.le_refl 0⟩ dX5_look_177 (fun p3 H locs S => ?_)
  refine jr_goto (pc := 180) C (tgt := 208) dX5_look_180 (by decide) ?_
  cases hyp
  exact jr_vret C S trivial dX5_look_208
set_option maxHeartbeats 4000000 in
set_option maxRecDepth 100000 in
theorem t_X5_look_e {p : Program} {l : Launch} {e : Env} {s : State} {mi : MethodId} {args : Array Value} {below : List Frame} {meth : Method} {c : Code} {D : va_G} {cy : Nat → ClassId} {B sz : Nat} {sh : jm_S} {res : jm_M} {N : Nat} {rec : Nat → Int → Int → Nat → Nat → jm_M → Option jm_M} {kr : Nat} (C : jCx p s mi args meth c cX5_look 8 RX5 none D cy) (hkr : 2 ≤ kr) (hrec : ∀ (a0 : Nat) (x1 : Int) (x2 : Int) (a3 : Nat) (a4 : Nat), jIn x1 → jIn x2 → ∀ (m : jm_M) (res : jm_M), rec a0 x1 x2 a3 a4 m = some res → jCt l D cy B sz sh kr yX5_look cX5_look 8 none [jR B a0, jI x1, jI x2, jR B a3, jR B a4] m none res True) {a0 : Nat} {x1 : Int} (h_x1 : jIn x1) {x2 : Int} (h_x2 : jIn x2) {a3 : Nat} {a4 : Nat} {m : jm_M} {H : Heap} {locs : List Loc} {ls : Array Slot} (S : jHs D cy B sz sh (jA B sz) s.heap H locs m) (L : jL ls [some (jR B a0), some (jI x1), some (jI x2), some (jR B a3), some (jR B a4), none, none, none]) (hyp : f_X5_look_e N sh rec a0 x1 x2 a3 a4 m = some res) : W p l e (jrm (kr + 3) 0 0) s mi args below meth c H locs 0 0 (MQ below (jQc D cy B sz sh res none True) args s 0 0 (jA B sz)) (F0 mi 0 ls []) := by
  unfold f_X5_look_e at hyp
  refine jr_iload_n (pc := 0) C L dX5_look_0 rfl rfl ?_
  refine jr_iconst (pc := 1) C dX5_look_1 ?_
  refine jr_icmp_gt (pc := 2) C h_x2 (show jIn 4 from ⟨by decide, by decide⟩) (tgt := 14) dX5_look_2 (by decide) (fun c4 => ?_) (fun c4 => ?_)
  · have hyp := (if_pos c4).symm.trans hyp
    cases hyp
    exact jr_vret C S trivial dX5_look_14
  · have hyp := (if_neg c4).symm.trans hyp
    refine jr_iload_n (pc := 5) C L dX5_look_5 rfl rfl ?_
    refine jr_aload_n (pc := 6) C L dX5_look_6 rfl rfl ?_
    obtain ⟨v5, hv5, hyp⟩ := jbind hyp
    refine jr_getR (pc := 7) C S lf_X5_20 rfl hv5 dX5_look_7 ?_
    obtain ⟨v6, hv6, hyp⟩ := jbind hyp
    refine jr_alen (pc := 10) C S hv6 dX5_look_10 ?_
    refine jr_icmp_lt (pc := 11) C h_x2 (jlen_in hv6) (tgt := 15) dX5_look_11 (by decide) (fun c7 => ?_) (fun c7 => ?_)
    · have hyp := (if_pos c7).symm.trans hyp
      refine jr_aload_n (pc := 15) C L dX5_look_15 rfl rfl ?_
      obtain ⟨v8, hv8, hyp⟩ := jbind hyp
      refine jr_getR (pc := 16) C S lf_X5_20 rfl hv8 dX5_look_16 ?_
      refine jr_iload_n (pc := 19) C L dX5_look_19 rfl rfl ?_
      obtain ⟨v9, hv9, hyp⟩ := jbind hyp
      refine jr_aal (pc := 20) C S (by decide) h_x2 hv9 dX5_look_20 ?_
      refine jr_astore (pc := 21) C L dX5_look_21 (Nat.le_of_ble_eq_true rfl) (fun ls L => ?_)
      have L : jL ls [some (jR B a0), some (jI x1), some (jI x2), some (jR B a3), some (jR B a4), some (jR B v9.toNat), none, none] := L
      refine jr_aload_n (pc := 23) C L dX5_look_23 rfl rfl ?_
      obtain ⟨v10, hv10, hyp⟩ := jbind hyp
      refine jr_getR (pc := 24) C S lf_X5_40 rfl hv10 dX5_look_24 ?_
      refine jr_iload_n (pc := 27) C L dX5_look_27 rfl rfl ?_
      obtain ⟨u11, hu11, hyp⟩ := jbind hyp
      obtain ⟨q12, hq12, hyp⟩ := jbind hyp
      refine jr_callV_I (pc := 28) C S L (As := [jI x1]) (rest := []) (c_X10_firstPart (m0 := m) h_x1 hq12) mv_X10_firstPart ml_X5_105 rfl (jck_spec hu11) (by omega) rfl rfl rfl (Nat.le_of_ble_eq_true rfl) ⟨Nat.le_refl 0, Nat.le_refl 0⟩ dX5_look_28 (fun p13 H locs S => ?_)
      refine jr_istore (pc := 31) C L dX5_look_31 (Nat.le_of_ble_eq_true rfl) (fun ls L => ?_)
      have L : jL ls [some (jR B a0), some (jI x1), some (jI x2), some (jR B a3), some (jR B a4), some (jR B v9.toNat), some (jI q12), none] := L
      refine jr_aload_n (pc := 33) C L dX5_look_33 rfl rfl ?_
      obtain ⟨v14, hv14, hyp⟩ := jbind hyp
      refine jr_getR (pc := 34) C S lf_X5_40 rfl hv14 dX5_look_34 ?_
      refine jr_iload_n (pc := 37) C L dX5_look_37 rfl rfl ?_
      obtain ⟨u15, hu15, hyp⟩ := jbind hyp
      obtain ⟨q16, hq16, hyp⟩ := jbind hyp
      refine jr_callV_I (pc := 38) C S L (As := [jI x1]) (rest := []) (c_X10_secondPart (m0 := m) h_x1 hq16) mv_X10_secondPart ml_X5_98 rfl (jck_spec hu15) (by omega) rfl rfl rfl (Nat.le_of_ble_eq_true rfl) ⟨Nat.le_refl 0, Nat.le_refl 0⟩ dX5_look_38 (fun p17 H locs S => ?_)
      refine jr_istore (pc := 41) C L dX5_look_41 (Nat.le_of_ble_eq_true rfl) (fun ls L => ?_)
      have L : jL ls [some (jR B a0), some (jI x1), some (jI x2), some (jR B a3), some (jR B a4), some (jR B v9.toNat), some (jI q12), some (jI q16)] := L
      refine jr_aload_n (pc := 43) C L dX5_look_43 rfl rfl ?_
      obtain ⟨v18, hv18, hyp⟩ := jbind hyp
      refine jr_getR (pc := 44) C S lf_X5_40 rfl hv18 dX5_look_44 ?_
      refine jr_iload_n (pc := 47) C L dX5_look_47 rfl rfl ?_
      obtain ⟨u19, hu19, hyp⟩ := jbind hyp
      obtain ⟨q20, hq20, hyp⟩ := jbind hyp
      refine jr_callV_I (pc := 48) C S L (As := [jI x1]) (rest := []) (c_X10_signAt (m0 := m) h_x1 hq20) mv_X10_signAt ml_X5_75 rfl (jck_spec hu19) (by omega) rfl rfl rfl (Nat.le_of_ble_eq_true rfl) ⟨Nat.le_refl 0, Nat.le_refl 0⟩ dX5_look_48 (fun p21 H locs S => ?_)
      by_cases c22 : (45 : Int) = q20
      · have hyp := (if_pos c22).symm.trans hyp
        refine jr_lookup (pc := 51) C p21 (off := 132) (tgt := 183) dX5_look_51 rfl (if_pos c22) (by decide) ?_
        refine jr_aload_n (pc := 183) C L dX5_look_183 rfl rfl ?_
        refine jr_aload_n (pc := 184) C L dX5_look_184 rfl rfl ?_
        refine jr_aload (pc := 185) C L dX5_look_185 rfl ?_
        obtain ⟨u23, hu23, hyp⟩ := jbind hyp
        obtain ⟨q24, hq24, hyp⟩ := jbind hyp
        refine jr_callV_N (pc := 187) C S L (As := [jR B a3, jR B a4]) (rest := []) (c_X5_copy  hq24) mv_X5_copy ml_X5_126 rfl (jck_spec hu23) (by omega) rfl rfl rfl (Nat.le_of_ble_eq_true rfl) ⟨Nat.le_refl 0, Nat.le_refl 0⟩ dX5_look_187 (fun p25 H locs S => ?_)
        refine jr_goto (pc := 190) C (tgt := 208) dX5_look_190 (by decide) ?_
        cases hyp
        exact jr_vret C S trivial dX5_look_208
      have hyp := (if_neg c22).symm.trans hyp
      by_cases c26 : (59 : Int) = q20
      · have hyp := (if_pos c26).symm.trans hyp
        refine jr_lookup (pc := 51) C p21 (off := 57) (tgt := 108) dX5_look_51 rfl ((if_neg c22).trans (if_pos c26)) (by decide) ?_
        refine jr_aload_n (pc := 108) C L dX5_look_108 rfl rfl ?_
        refine jr_iload (pc := 109) C L dX5_look_109 rfl ?_
        refine jr_iload_n (pc := 111) C L dX5_look_111 rfl rfl ?_
        refine jr_iconst (pc := 112) C dX5_look_112 ?_
        refine jr_iadd (pc := 113) C dX5_look_113 ?_
        refine jr_aload_n (pc := 114) C L dX5_look_114 rfl rfl ?_
        refine jr_aload (pc := 115) C L dX5_look_115 rfl ?_
        obtain ⟨u27, hu27, hyp⟩ := jbind hyp
        obtain ⟨q28, hq28, hyp⟩ := jbind hyp
        refine jr_callV_N (pc := 117) C S L (As := [jI q16, jI (jw (x2 + 1)), jR B a3, jR B v9.toNat]) (rest := []) (hrec a0 q16 (jw (x2 + 1)) a3 v9.toNat p17 (jIn_w _) m q28 hq28) mv_X5_look ml_X5_101 rfl (jck_spec hu27) (by omega) rfl rfl rfl (Nat.le_of_ble_eq_true rfl) ⟨Nat.le_refl 0, Nat.le_refl 0⟩ dX5_look_117 (fun p29 H locs S => ?_)
        refine jr_aload_n (pc := 120) C L dX5_look_120 rfl rfl ?_
        refine jr_iload (pc := 121) C L dX5_look_121 rfl ?_
        refine jr_iload_n (pc := 123) C L dX5_look_123 rfl rfl ?_
        refine jr_iconst (pc := 124) C dX5_look_124 ?_
        refine jr_iadd (pc := 125) C dX5_look_125 ?_
        refine jr_aload (pc := 126) C L dX5_look_126 rfl ?_
        refine jr_aload (pc := 128) C L dX5_look_128 rfl ?_
        obtain ⟨u30, hu30, hyp⟩ := jbind hyp
        obtain ⟨q31, hq31, hyp⟩ := jbind hyp
        refine jr_callV_N (pc := 130) C S L (As := [jI q12, jI (jw (x2 + 1)), jR B v9.toNat, jR B a4]) (rest := []) (hrec a0 q12 (jw (x2 + 1)) v9.toNat a4 p13 (jIn_w _) q28 q31 hq31) mv_X5_look ml_X5_101 rfl (jck_spec hu30) (by omega) rfl rfl rfl (Nat.le_of_ble_eq_true rfl) ⟨Nat.le_refl 0, Nat.le_refl 0⟩ dX5_look_130 (fun p32 H locs S => ?_)
        refine jr_goto (pc := 133) C (tgt := 208) dX5_look_133 (by decide) ?_
        cases hyp
        exact jr_vret C S trivial dX5_look_208
      have hyp := (if_neg c26).symm.trans hyp
      by_cases c33 : (63 : Int) = q20
      · have hyp := (if_pos c33).symm.trans hyp
        refine jr_lookup (pc := 51) C p21 (off := 85) (tgt := 136) dX5_look_51 rfl ((if_neg c22).trans ((if_neg c26).trans (if_pos c33))) (by decide) ?_
        refine jr_aload_n (pc := 136) C L dX5_look_136 rfl rfl ?_
        refine jr_iload (pc := 137) C L dX5_look_137 rfl ?_
        refine jr_iload_n (pc := 139) C L dX5_look_139 rfl rfl ?_
        refine jr_iconst (pc := 140) C dX5_look_140 ?_
        refine jr_iadd (pc := 141) C dX5_look_141 ?_
        refine jr_aload_n (pc := 142) C L dX5_look_142 rfl rfl ?_
        refine jr_aload (pc := 143) C L dX5_look_143 rfl ?_
        obtain ⟨u34, hu34, hyp⟩ := jbind hyp
        obtain ⟨q35, hq35, hyp⟩ := jbind hyp
        refine jr_callV_N (pc := 145) C S L (As := [jI q12, jI (jw (x2 + 1)), jR B a3, jR B a4]) (rest := []) (hrec a0 q12 (jw (x2 + 1)) a3 a4 p13 (jIn_w _) m q35 hq35) mv_X5_look ml_X5_101 rfl (jck_spec hu34) (by omega) rfl rfl rfl (Nat.le_of_ble_eq_true rfl) ⟨Nat.le_refl 0, Nat.le_refl 0⟩ dX5_look_145 (fun p36 H locs S => ?_)
        refine jr_aload_n (pc := 148) C L dX5_look_148 rfl rfl ?_
        refine jr_iload (pc := 149) C L dX5_look_149 rfl ?_
        refine jr_iload_n (pc := 151) C L dX5_look_151 rfl rfl ?_
        refine jr_iconst (pc := 152) C dX5_look_152 ?_
        refine jr_iadd (pc := 153) C dX5_look_153 ?_
        refine jr_aload_n (pc := 154) C L dX5_look_154 rfl rfl ?_
        refine jr_aload (pc := 155) C L dX5_look_155 rfl ?_
        obtain ⟨u37, hu37, hyp⟩ := jbind hyp
        obtain ⟨q38, hq38, hyp⟩ := jbind hyp
        refine jr_callV_N (pc := 157) C S L (As := [jI q16, jI (jw (x2 + 1)), jR B a3, jR B v9.toNat]) (rest := []) (hrec a0 q16 (jw (x2 + 1)) a3 v9.toNat p17 (jIn_w _) q35 q38 hq38) mv_X5_look ml_X5_101 rfl (jck_spec hu37) (by omega) rfl rfl rfl (Nat.le_of_ble_eq_true rfl) ⟨Nat.le_refl 0, Nat.le_refl 0⟩ dX5_look_157 (fun p39 H locs S => ?_)
        refine jr_aload_n (pc := 160) C L dX5_look_160 rfl rfl ?_
        refine jr_aload (pc := 161) C L dX5_look_161 rfl ?_
        refine jr_aload (pc := 163) C L dX5_look_163 rfl ?_
        obtain ⟨u40, hu40, hyp⟩ := jbind hyp
        obtain ⟨q41, hq41, hyp⟩ := jbind hyp
        refine jr_callV_N (pc := 165) C S L (As := [jR B a4, jR B v9.toNat]) (rest := []) (c_X5_raise  hq41) mv_X5_raise ml_X5_119 rfl (jck_spec hu40) (by omega) rfl rfl rfl (Nat.le_of_ble_eq_true rfl) ⟨Nat.le_refl 0, Nat.le_refl 0⟩ dX5_look_165 (fun p42 H locs S => ?_)
        refine jr_goto (pc := 168) C (tgt := 208) dX5_look_168 (by decide) ?_
        cases hyp
        exact jr_vret C S trivial dX5_look_208
      have hyp := (if_neg c33).symm.trans hyp
      by_cases c43 : (98 : Int) = q20
      · have hyp := (if_pos c43).symm.trans hyp
        refine jr_lookup (pc := 51) C p21 (off := 120) (tgt := 171) dX5_look_51 rfl ((if_neg c22).trans ((if_neg c26).trans ((if_neg c33).trans (if_pos c43)))) (by decide) ?_
        exact t_X5_look_b171 C hkr hrec  h_x1 h_x2 S (L.sub (jsub_s (jsub_s (jsub_s (jsub_s (jsub_s (jsub_n (jsub_n (jsub_n jsub_0))))))))) hyp
      have hyp := (if_neg c43).symm.trans hyp
      by_cases c44 : (99 : Int) = q20
      · have hyp := (if_pos c44).symm.trans hyp
        refine jr_lookup (pc := 51) C p21 (off := 120) (tgt := 171) dX5_look_51 rfl ((if_neg c22).trans ((if_neg c26).trans ((if_neg c33).trans ((if_neg c43).trans (if_pos c44))))) (by decide) ?_
        exact t_X5_look_b171 C hkr hrec  h_x1 h_x2 S (L.sub (jsub_s (jsub_s (jsub_s (jsub_s (jsub_s (jsub_n (jsub_n (jsub_n jsub_0))))))))) hyp
      have hyp := (if_neg c44).symm.trans hyp
      by_cases c45 : (100 : Int) = q20
      · have hyp := (if_pos c45).symm.trans hyp
        refine jr_lookup (pc := 51) C p21 (off := 120) (tgt := 171) dX5_look_51 rfl ((if_neg c22).trans ((if_neg c26).trans ((if_neg c33).trans ((if_neg c43).trans ((if_neg c44).trans (if_pos c45)))))) (by decide) ?_
        exact t_X5_look_b171 C hkr hrec  h_x1 h_x2 S (L.sub (jsub_s (jsub_s (jsub_s (jsub_s (jsub_s (jsub_n (jsub_n (jsub_n jsub_0))))))))) hyp
      have hyp := (if_neg c45).symm.trans hyp
      refine jr_lookup (pc := 51) C p21 (off := 142) (tgt := 193) dX5_look_51 rfl ((if_neg c22).trans ((if_neg c26).trans ((if_neg c33).trans ((if_neg c43).trans ((if_neg c44).trans ((if_neg c45).trans rfl)))))) (by decide) ?_
      refine jr_aload_n (pc := 193) C L dX5_look_193 rfl rfl ?_
      refine jr_aload_n (pc := 194) C L dX5_look_194 rfl rfl ?_
      obtain ⟨v46, hv46, hyp⟩ := jbind hyp
      refine jr_getR (pc := 195) C S lf_X5_40 rfl hv46 dX5_look_195 ?_
      refine jr_iload_n (pc := 198) C L dX5_look_198 rfl rfl ?_
      obtain ⟨u47, hu47, hyp⟩ := jbind hyp
      obtain ⟨q48, hq48, hyp⟩ := jbind hyp
      refine jr_callV_I (pc := 199) C S L (As := [jI x1]) (rest := [jR B a0]) (c_X10_lineAt (m0 := m) h_x1 hq48) mv_X10_lineAt ml_X5_87 rfl (jck_spec hu47) (by omega) rfl rfl rfl (by simp [jR_cat, jI_cat]) ⟨Nat.le_refl 0, Nat.le_refl 0⟩ dX5_look_199 (fun p49 H locs S => ?_)
      refine jr_aload_n (pc := 202) C L dX5_look_202 rfl rfl ?_
      refine jr_aload (pc := 203) C L dX5_look_203 rfl ?_
      obtain ⟨u50, hu50, hyp⟩ := jbind hyp
      obtain ⟨q51, hq51, hyp⟩ := jbind hyp
      refine jr_callV_N (pc := 205) C S L (As := [jI q48, jR B a3, jR B a4]) (rest := []) (c_X5_lookFetch p49 hq51) mv_X5_lookFetch ml_X5_129 rfl (jck_spec hu50) (by omega) rfl rfl rfl (Nat.le_of_ble_eq_true rfl) ⟨Nat.le_refl 0, Nat.le_refl 0⟩ dX5_look_205 (fun p52 H locs S => ?_)
      cases hyp
      exact jr_vret C S trivial dX5_look_208
    · have hyp := (if_neg c7).symm.trans hyp
      cases hyp
      exact jr_vret C S trivial dX5_look_14
theorem ce_X5_look {l : Launch} {D : va_G} {cy : Nat → ClassId} {B sz : Nat} {sh : jm_S} {res : jm_M} {N : Nat} {rec : Nat → Int → Int → Nat → Nat → jm_M → Option jm_M} {kr : Nat} {m : jm_M} (hkr : 2 ≤ kr) (hrec : ∀ (a0 : Nat) (x1 : Int) (x2 : Int) (a3 : Nat) (a4 : Nat), jIn x1 → jIn x2 → ∀ (m : jm_M) (res : jm_M), rec a0 x1 x2 a3 a4 m = some res → jCt l D cy B sz sh kr yX5_look cX5_look 8 none [jR B a0, jI x1, jI x2, jR B a3, jR B a4] m none res True) {a0 : Nat} {x1 : Int} (h_x1 : jIn x1) {x2 : Int} (h_x2 : jIn x2) {a3 : Nat} {a4 : Nat} (hyp : f_X5_look_e N sh rec a0 x1 x2 a3 a4 m = some res) : jCt l D cy B sz sh (kr + 3) yX5_look cX5_look 8 none [jR B a0, jI x1, jI x2, jR B a3, jR B a4] m none res True :=
  jc_of (by decide) (fun v h => by simp only [List.mem_cons, List.not_mem_nil, or_false] at h; rcases h with rfl | rfl | rfl | rfl | rfl <;> first | rfl | exact jR_cat _ _) (Nat.le_of_ble_eq_true rfl) (fun C S L => t_X5_look_e C hkr hrec h_x1 h_x2 S L hyp)
theorem cd_X5_look {l : Launch} {D : va_G} {cy : Nat → ClassId} {B sz : Nat} {sh : jm_S} {N : Nat} : ∀ (d : Nat) (a0 : Nat) (x1 : Int) (x2 : Int) (a3 : Nat) (a4 : Nat), jIn x1 → jIn x2 → ∀ (m : jm_M) (res : jm_M), f_X5_look N sh d a0 x1 x2 a3 a4 m = some res → jCt l D cy B sz sh (2 + 3 * d) yX5_look cX5_look 8 none [jR B a0, jI x1, jI x2, jR B a3, jR B a4] m none res True := by
  intro d
  induction d with
  | zero => intro a0 x1 x2 a3 a4 h_x1 h_x2 m res hyp; cases hyp
  | succ d ih =>
    intro a0 x1 x2 a3 a4 h_x1 h_x2 m res hyp
    have h := ce_X5_look (kr := 2 + 3 * d) (l := l) (D := D) (cy := cy) (B := B) (sz := sz) (by omega) ih h_x1 h_x2 hyp
    rwa [show 2 + 3 * d + 3 = 2 + 3 * (d + 1) by omega] at h
set_option maxHeartbeats 4000000 in
set_option maxRecDepth 100000 in
theorem t_X5_walkBoth_e {p : Program} {l : Launch} {e : Env} {s : State} {mi : MethodId} {args : Array Value} {below : List Frame} {meth : Method} {c : Code} {D : va_G} {cy : Nat → ClassId} {B sz : Nat} {sh : jm_S} {res : jm_M} {N : Nat} {rec : Nat → Int → Int → Nat → jm_M → Option jm_M} {kr : Nat} (C : jCx p s mi args meth c cX5_walkBoth 5 RX5 none D cy) (hkr : 27 ≤ kr) (hrec : ∀ (a0 : Nat) (x1 : Int) (x2 : Int) (a3 : Nat), jIn x1 → jIn x2 → ∀ (m : jm_M) (res : jm_M), rec a0 x1 x2 a3 m = some res → jCt l D cy B sz sh kr yX5_walk cX5_walk 4 none [jR B a0, jI x1, jI x2, jR B a3] m none res True) {a0 : Nat} {x1 : Int} (h_x1 : jIn x1) {x2 : Int} (h_x2 : jIn x2) {a3 : Nat} {m : jm_M} {H : Heap} {locs : List Loc} {ls : Array Slot} (S : jHs D cy B sz sh (jA B sz) s.heap H locs m) (L : jL ls [some (jR B a0), some (jI x1), some (jI x2), some (jR B a3), none]) (hyp : f_X5_walkBoth N sh rec a0 x1 x2 a3 m = some res) : W p l e (jrm (kr + 1) 0 0) s mi args below meth c H locs 0 0 (MQ below (jQc D cy B sz sh res none True) args s 0 0 (jA B sz)) (F0 mi 0 ls []) := by
  unfold f_X5_walkBoth at hyp
  refine jr_aload_n (pc := 0) C L dX5_walkBoth_0 rfl rfl ?_
  refine jr_iload_n (pc := 1) C L dX5_walkBoth_1 rfl rfl ?_
  refine jr_iconst (pc := 2) C dX5_walkBoth_2 ?_
  refine jr_aload_n (pc := 3) C L dX5_walkBoth_3 rfl rfl ?_
  obtain ⟨u1, hu1, hyp⟩ := jbind hyp
  obtain ⟨q2, hq2, hyp⟩ := jbind hyp
  refine jr_callV_R (pc := 4) C S L (As := [jI x2, jI 0, jR B a3]) (rest := []) (c_X5_aheadRow (m0 := m) h_x2 (show jIn 0 from ⟨by decide, by decide⟩) hq2) mv_X5_aheadRow ml_X5_94 rfl (jck_spec hu1) (by omega) rfl rfl rfl (Nat.le_of_ble_eq_true rfl) ⟨Nat.le_refl 0, Nat.le_refl 0⟩ dX5_walkBoth_4 (fun p3 H locs S => ?_)
  refine jr_astore (pc := 7) C L dX5_walkBoth_7 (Nat.le_of_ble_eq_true rfl) (fun ls L => ?_)
  have L : jL ls [some (jR B a0), some (jI x1), some (jI x2), some (jR B a3), some (jR B q2)] := L
  refine jr_aload_n (pc := 9) C L dX5_walkBoth_9 rfl rfl ?_
  refine jr_aload_n (pc := 10) C L dX5_walkBoth_10 rfl rfl ?_
  obtain ⟨v4, hv4, hyp⟩ := jbind hyp
  refine jr_getR (pc := 11) C S lf_X5_40 rfl hv4 dX5_walkBoth_11 ?_
  refine jr_iload_n (pc := 14) C L dX5_walkBoth_14 rfl rfl ?_
  obtain ⟨u5, hu5, hyp⟩ := jbind hyp
  obtain ⟨q6, hq6, hyp⟩ := jbind hyp
  refine jr_callV_I (pc := 15) C S L (As := [jI x1]) (rest := [jR B a0]) (c_X10_secondPart (m0 := m) h_x1 hq6) mv_X10_secondPart ml_X5_98 rfl (jck_spec hu5) (by omega) rfl rfl rfl (by simp [jR_cat, jI_cat]) ⟨Nat.le_refl 0, Nat.le_refl 0⟩ dX5_walkBoth_15 (fun p7 H locs S => ?_)
  refine jr_iload_n (pc := 18) C L dX5_walkBoth_18 rfl rfl ?_
  refine jr_iconst (pc := 19) C dX5_walkBoth_19 ?_
  refine jr_iadd (pc := 20) C dX5_walkBoth_20 ?_
  refine jr_aload_n (pc := 21) C L dX5_walkBoth_21 rfl rfl ?_
  refine jr_aload (pc := 22) C L dX5_walkBoth_22 rfl ?_
  obtain ⟨u8, hu8, hyp⟩ := jbind hyp
  obtain ⟨q9, hq9, hyp⟩ := jbind hyp
  refine jr_callV_N (pc := 24) C S L (As := [jI q6, jI (jw (x2 + 1)), jR B a3, jR B q2]) (rest := []) (cd_X5_look 8 a0 q6 (jw (x2 + 1)) a3 q2 p7 (jIn_w _) m q9 hq9) mv_X5_look ml_X5_101 rfl (jck_spec hu8) (by omega) rfl rfl rfl (Nat.le_of_ble_eq_true rfl) ⟨Nat.le_refl 0, Nat.le_refl 0⟩ dX5_walkBoth_24 (fun p10 H locs S => ?_)
  refine jr_aload_n (pc := 27) C L dX5_walkBoth_27 rfl rfl ?_
  refine jr_aload_n (pc := 28) C L dX5_walkBoth_28 rfl rfl ?_
  obtain ⟨v11, hv11, hyp⟩ := jbind hyp
  refine jr_getR (pc := 29) C S lf_X5_40 rfl hv11 dX5_walkBoth_29 ?_
  refine jr_iload_n (pc := 32) C L dX5_walkBoth_32 rfl rfl ?_
  obtain ⟨u12, hu12, hyp⟩ := jbind hyp
  obtain ⟨q13, hq13, hyp⟩ := jbind hyp
  refine jr_callV_I (pc := 33) C S L (As := [jI x1]) (rest := [jR B a0]) (c_X10_firstPart (m0 := q9) h_x1 hq13) mv_X10_firstPart ml_X5_105 rfl (jck_spec hu12) (by omega) rfl rfl rfl (by simp [jR_cat, jI_cat]) ⟨Nat.le_refl 0, Nat.le_refl 0⟩ dX5_walkBoth_33 (fun p14 H locs S => ?_)
  refine jr_iload_n (pc := 36) C L dX5_walkBoth_36 rfl rfl ?_
  refine jr_iconst (pc := 37) C dX5_walkBoth_37 ?_
  refine jr_iadd (pc := 38) C dX5_walkBoth_38 ?_
  refine jr_aload (pc := 39) C L dX5_walkBoth_39 rfl ?_
  obtain ⟨u15, hu15, hyp⟩ := jbind hyp
  obtain ⟨q16, hq16, hyp⟩ := jbind hyp
  refine jr_callV_N (pc := 41) C S L (As := [jI q13, jI (jw (x2 + 1)), jR B q2]) (rest := []) (hrec a0 q13 (jw (x2 + 1)) q2 p14 (jIn_w _) q9 q16 hq16) mv_X5_walk ml_X5_71 rfl (jck_spec hu15) (by omega) rfl rfl rfl (Nat.le_of_ble_eq_true rfl) ⟨Nat.le_refl 0, Nat.le_refl 0⟩ dX5_walkBoth_41 (fun p17 H locs S => ?_)
  refine jr_aload_n (pc := 44) C L dX5_walkBoth_44 rfl rfl ?_
  refine jr_aload_n (pc := 45) C L dX5_walkBoth_45 rfl rfl ?_
  obtain ⟨v18, hv18, hyp⟩ := jbind hyp
  refine jr_getR (pc := 46) C S lf_X5_40 rfl hv18 dX5_walkBoth_46 ?_
  refine jr_iload_n (pc := 49) C L dX5_walkBoth_49 rfl rfl ?_
  obtain ⟨u19, hu19, hyp⟩ := jbind hyp
  obtain ⟨q20, hq20, hyp⟩ := jbind hyp
  refine jr_callV_I (pc := 50) C S L (As := [jI x1]) (rest := [jR B a0]) (c_X10_secondPart (m0 := q16) h_x1 hq20) mv_X10_secondPart ml_X5_98 rfl (jck_spec hu19) (by omega) rfl rfl rfl (by simp [jR_cat, jI_cat]) ⟨Nat.le_refl 0, Nat.le_refl 0⟩ dX5_walkBoth_50 (fun p21 H locs S => ?_)
  refine jr_iload_n (pc := 53) C L dX5_walkBoth_53 rfl rfl ?_
  refine jr_iconst (pc := 54) C dX5_walkBoth_54 ?_
  refine jr_iadd (pc := 55) C dX5_walkBoth_55 ?_
  refine jr_aload_n (pc := 56) C L dX5_walkBoth_56 rfl rfl ?_
  obtain ⟨u22, hu22, hyp⟩ := jbind hyp
  obtain ⟨q23, hq23, hyp⟩ := jbind hyp
  refine jr_callV_N (pc := 57) C S L (As := [jI q20, jI (jw (x2 + 1)), jR B a3]) (rest := []) (hrec a0 q20 (jw (x2 + 1)) a3 p21 (jIn_w _) q16 q23 hq23) mv_X5_walk ml_X5_71 rfl (jck_spec hu22) (by omega) rfl rfl rfl (Nat.le_of_ble_eq_true rfl) ⟨Nat.le_refl 0, Nat.le_refl 0⟩ dX5_walkBoth_57 (fun p24 H locs S => ?_)
  cases hyp
  exact jr_vret C S trivial dX5_walkBoth_60
theorem c_X5_walkBoth {l : Launch} {D : va_G} {cy : Nat → ClassId} {B sz : Nat} {sh : jm_S} {res : jm_M} {N : Nat} {rec : Nat → Int → Int → Nat → jm_M → Option jm_M} {kr : Nat} {m : jm_M} (hkr : 27 ≤ kr) (hrec : ∀ (a0 : Nat) (x1 : Int) (x2 : Int) (a3 : Nat), jIn x1 → jIn x2 → ∀ (m : jm_M) (res : jm_M), rec a0 x1 x2 a3 m = some res → jCt l D cy B sz sh kr yX5_walk cX5_walk 4 none [jR B a0, jI x1, jI x2, jR B a3] m none res True) {a0 : Nat} {x1 : Int} (h_x1 : jIn x1) {x2 : Int} (h_x2 : jIn x2) {a3 : Nat} (hyp : f_X5_walkBoth N sh rec a0 x1 x2 a3 m = some res) : jCt l D cy B sz sh (kr + 1) yX5_walkBoth cX5_walkBoth 5 none [jR B a0, jI x1, jI x2, jR B a3] m none res True :=
  jc_of (by decide) (fun v h => by simp only [List.mem_cons, List.not_mem_nil, or_false] at h; rcases h with rfl | rfl | rfl | rfl <;> first | rfl | exact jR_cat _ _) (Nat.le_of_ble_eq_true rfl) (fun C S L => t_X5_walkBoth_e C hkr hrec h_x1 h_x2 S L hyp)
set_option maxHeartbeats 4000000 in
set_option maxRecDepth 100000 in
theorem t_X5_costHere_e {p : Program} {l : Launch} {e : Env} {s : State} {mi : MethodId} {args : Array Value} {below : List Frame} {meth : Method} {c : Code} {D : va_G} {cy : Nat → ClassId} {B sz : Nat} {sh : jm_S} {res : Int} {m0 : jm_M} (C : jCx p s mi args meth c cX5_costHere 2 RX5 (some .int) D cy) {a0 : Nat} {a1 : Nat} {H : Heap} {locs : List Loc} {ls : Array Slot} (S : jHs D cy B sz sh (jA B sz) s.heap H locs m0) (L : jL ls [some (jR B a0), some (jR B a1)]) (hyp : f_X5_costHere sh a0 a1 m0 = some res) : W p l e (jrm 0 0 0) s mi args below meth c H locs 0 0 (MQ below (jQc D cy B sz sh m0 (some (jI res)) (jIn res)) args s 0 0 (jA B sz)) (F0 mi 0 ls []) := by
  unfold f_X5_costHere at hyp
  refine jr_aload_n (pc := 0) C L dX5_costHere_0 rfl rfl ?_
  obtain ⟨v1, hv1, hyp⟩ := jbind hyp
  have iv1 := jrf_in S hv1
  refine jr_getI (pc := 1) C S lf_X5_55 rfl hv1 dX5_costHere_1 ?_
  refine jr_if_lt (pc := 4) C iv1 (tgt := 25) dX5_costHere_4 (by decide) (fun c2 => ?_) (fun c2 => ?_)
  · have hyp := (if_pos c2).symm.trans hyp
    refine jr_iconst (pc := 25) C dX5_costHere_25 ?_
    cases hyp
    exact jr_iret C S (show jIn 0 from ⟨by decide, by decide⟩) dX5_costHere_26
  · have hyp := (if_neg c2).symm.trans hyp
    refine jr_aload_n (pc := 7) C L dX5_costHere_7 rfl rfl ?_
    obtain ⟨v3, hv3, hyp⟩ := jbind hyp
    have iv3 := jrf_in S hv3
    refine jr_getI (pc := 8) C S lf_X5_55 rfl hv3 dX5_costHere_8 ?_
    refine jr_aload_n (pc := 11) C L dX5_costHere_11 rfl rfl ?_
    obtain ⟨v4, hv4, hyp⟩ := jbind hyp
    refine jr_alen (pc := 12) C S hv4 dX5_costHere_12 ?_
    refine jr_icmp_ge (pc := 13) C iv3 (jlen_in hv4) (tgt := 25) dX5_costHere_13 (by decide) (fun c5 => ?_) (fun c5 => ?_)
    · have hyp := (if_pos c5).symm.trans hyp
      refine jr_aload_n (pc := 16) C L dX5_costHere_16 rfl rfl ?_
      refine jr_aload_n (pc := 17) C L dX5_costHere_17 rfl rfl ?_
      obtain ⟨v6, hv6, hyp⟩ := jbind hyp
      have iv6 := jrf_in S hv6
      refine jr_getI (pc := 18) C S lf_X5_55 rfl hv6 dX5_costHere_18 ?_
      obtain ⟨v7, hv7, hyp⟩ := jbind hyp
      have iv7 := jra_in S hv7
      refine jr_ial (pc := 21) C S iv6 hv7 dX5_costHere_21 ?_
      refine jr_goto (pc := 22) C (tgt := 26) dX5_costHere_22 (by decide) ?_
      cases hyp
      exact jr_iret C S iv7 dX5_costHere_26
    · have hyp := (if_neg c5).symm.trans hyp
      refine jr_iconst (pc := 25) C dX5_costHere_25 ?_
      cases hyp
      exact jr_iret C S (show jIn 0 from ⟨by decide, by decide⟩) dX5_costHere_26
theorem c_X5_costHere {l : Launch} {D : va_G} {cy : Nat → ClassId} {B sz : Nat} {sh : jm_S} {res : Int} {m0 : jm_M} {a0 : Nat} {a1 : Nat} (hyp : f_X5_costHere sh a0 a1 m0 = some res) : jCt l D cy B sz sh 0 yX5_costHere cX5_costHere 2 (some .int) [jR B a0, jR B a1] m0 (some (jI res)) m0 (jIn res) :=
  jc_of (by decide) (fun v h => by simp only [List.mem_cons, List.not_mem_nil, or_false] at h; rcases h with rfl | rfl <;> first | rfl | exact jR_cat _ _) (Nat.le_of_ble_eq_true rfl) (fun C S L => t_X5_costHere_e C   S L hyp)
set_option maxHeartbeats 4000000 in
set_option maxRecDepth 100000 in
theorem t_X5_put_b22 {p : Program} {l : Launch} {e : Env} {s : State} {mi : MethodId} {args : Array Value} {below : List Frame} {meth : Method} {c : Code} {D : va_G} {cy : Nat → ClassId} {B sz : Nat} {sh : jm_S} {res : jm_M} (C : jCx p s mi args meth c cX5_put 2 RX5 none D cy) {a0 : Nat} {m : jm_M} {H : Heap} {locs : List Loc} {ls : Array Slot} (S : jHs D cy B sz sh (jA B sz) s.heap H locs m) (L : jL ls [some (jR B a0), none]) (hyp : f_X5_put_b22 sh a0 m = some res) : W p l e (jrm 0 0 0) s mi args below meth c H locs 0 0 (MQ below (jQc D cy B sz sh res none True) args s 0 0 (jA B sz)) (F0 mi 22 ls []) := by
  unfold f_X5_put_b22 at hyp
  refine jr_aload_n (pc := 22) C L dX5_put_22 rfl rfl ?_
  refine jr_dupR (pc := 23) C dX5_put_23 ?_
  obtain ⟨v1, hv1, hyp⟩ := jbind hyp
  have iv1 := jrf_in S hv1
  refine jr_getI (pc := 24) C S lf_X5_52 rfl hv1 dX5_put_24 ?_
  refine jr_iconst (pc := 27) C dX5_put_27 ?_
  refine jr_iadd (pc := 28) C dX5_put_28 ?_
  obtain ⟨m2, hm2, hyp⟩ := jbind hyp
  refine jr_putI (pc := 29) C S lf_X5_52 fp_X5_0 rfl (jIn_w _) hm2 dX5_put_29 (fun H locs S => ?_)
  cases hyp
  exact jr_vret C S trivial dX5_put_32
set_option maxHeartbeats 4000000 in
set_option maxRecDepth 100000 in
theorem t_X5_put_e {p : Program} {l : Launch} {e : Env} {s : State} {mi : MethodId} {args : Array Value} {below : List Frame} {meth : Method} {c : Code} {D : va_G} {cy : Nat → ClassId} {B sz : Nat} {sh : jm_S} {res : jm_M} (C : jCx p s mi args meth c cX5_put 2 RX5 none D cy) {a0 : Nat} {x1 : Int} (h_x1 : jIn x1) {m : jm_M} {H : Heap} {locs : List Loc} {ls : Array Slot} (S : jHs D cy B sz sh (jA B sz) s.heap H locs m) (L : jL ls [some (jR B a0), some (jI x1)]) (hyp : f_X5_put sh a0 x1 m = some res) : W p l e (jrm 0 0 0) s mi args below meth c H locs 0 0 (MQ below (jQc D cy B sz sh res none True) args s 0 0 (jA B sz)) (F0 mi 0 ls []) := by
  unfold f_X5_put at hyp
  refine jr_aload_n (pc := 0) C L dX5_put_0 rfl rfl ?_
  obtain ⟨v3, hv3, hyp⟩ := jbind hyp
  have iv3 := jrf_in S hv3
  refine jr_getI (pc := 1) C S lf_X5_52 rfl hv3 dX5_put_1 ?_
  refine jr_aload_n (pc := 4) C L dX5_put_4 rfl rfl ?_
  obtain ⟨v4, hv4, hyp⟩ := jbind hyp
  refine jr_getR (pc := 5) C S lf_X5_9 rfl hv4 dX5_put_5 ?_
  obtain ⟨v5, hv5, hyp⟩ := jbind hyp
  refine jr_alen (pc := 8) C S hv5 dX5_put_8 ?_
  refine jr_icmp_ge (pc := 9) C iv3 (jlen_in hv5) (tgt := 22) dX5_put_9 (by decide) (fun c6 => ?_) (fun c6 => ?_)
  · have hyp := (if_pos c6).symm.trans hyp
    refine jr_aload_n (pc := 12) C L dX5_put_12 rfl rfl ?_
    obtain ⟨v7, hv7, hyp⟩ := jbind hyp
    refine jr_getR (pc := 13) C S lf_X5_9 rfl hv7 dX5_put_13 ?_
    refine jr_aload_n (pc := 16) C L dX5_put_16 rfl rfl ?_
    obtain ⟨v8, hv8, hyp⟩ := jbind hyp
    have iv8 := jrf_in S hv8
    refine jr_getI (pc := 17) C S lf_X5_52 rfl hv8 dX5_put_17 ?_
    refine jr_iload_n (pc := 20) C L dX5_put_20 rfl rfl ?_
    obtain ⟨m9, hm9, hyp⟩ := jbind hyp
    refine jr_ias (pc := 21) C S iv8 h_x1 hm9 dX5_put_21 (fun H locs S => ?_)
    exact t_X5_put_b22 C    S (L.sub (jsub_s (jsub_n jsub_0))) hyp
  · have hyp := (if_neg c6).symm.trans hyp
    exact t_X5_put_b22 C    S (L.sub (jsub_s (jsub_n jsub_0))) hyp
theorem c_X5_put {l : Launch} {D : va_G} {cy : Nat → ClassId} {B sz : Nat} {sh : jm_S} {res : jm_M} {m : jm_M} {a0 : Nat} {x1 : Int} (h_x1 : jIn x1) (hyp : f_X5_put sh a0 x1 m = some res) : jCt l D cy B sz sh 0 yX5_put cX5_put 2 none [jR B a0, jI x1] m none res True :=
  jc_of (by decide) (fun v h => by simp only [List.mem_cons, List.not_mem_nil, or_false] at h; rcases h with rfl | rfl <;> first | rfl | exact jR_cat _ _) (Nat.le_of_ble_eq_true rfl) (fun C S L => t_X5_put_e C  h_x1 S L hyp)
set_option maxHeartbeats 4000000 in
set_option maxRecDepth 100000 in
theorem t_X5_walkOne_b115 {p : Program} {l : Launch} {e : Env} {s : State} {mi : MethodId} {args : Array Value} {below : List Frame} {meth : Method} {c : Code} {D : va_G} {cy : Nat → ClassId} {B sz : Nat} {sh : jm_S} {res : jm_M} {N : Nat} {rec : Nat → Int → Int → Nat → jm_M → Option jm_M} {kr : Nat} (C : jCx p s mi args meth c cX5_walkOne 7 RX5 none D cy) (hkr : 27 ≤ kr) (hrec : ∀ (a0 : Nat) (x1 : Int) (x2 : Int) (a3 : Nat), jIn x1 → jIn x2 → ∀ (m : jm_M) (res : jm_M), rec a0 x1 x2 a3 m = some res → jCt l D cy B sz sh kr yX5_walk cX5_walk 4 none [jR B a0, jI x1, jI x2, jR B a3] m none res True) {x2 : Int} (h_x2 : jIn x2) {a3 : Nat} {r0 : Nat} {s1 : Int} (h_s1 : jIn s1) {m : jm_M} {H : Heap} {locs : List Loc} {ls : Array Slot} (S : jHs D cy B sz sh (jA B sz) s.heap H locs m) (L : jL ls [none, none, some (jI x2), some (jR B a3), none, none, none]) (hyp : f_X5_walkOne_b115 N sh rec x2 a3 r0 s1 m = some res) : W p l e (jrm (kr + 1) 0 0) s mi args below meth c H locs 0 0 (MQ below (jQc D cy B sz sh res none True) args s 0 0 (jA B sz)) (F0 mi 115 ls [jI s1, jR B r0]) := by
  unfold f_X5_walkOne_b115 at hyp
  refine jr_iload_n (pc := 115) C L dX5_walkOne_115 rfl rfl ?_
  refine jr_iconst (pc := 116) C dX5_walkOne_116 ?_
  refine jr_iadd (pc := 117) C dX5_walkOne_117 ?_
  refine jr_aload_n (pc := 118) C L dX5_walkOne_118 rfl rfl ?_
  obtain ⟨u1, hu1, hyp⟩ := jbind hyp
  obtain ⟨q2, hq2, hyp⟩ := jbind hyp
  refine jr_callV_N (pc := 119) C S L (As := [jI s1, jI (jw (x2 + 1)), jR B a3]) (rest := []) (hrec r0 s1 (jw (x2 + 1)) a3 h_s1 (jIn_w _) m q2 hq2) mv_X5_walk ml_X5_71 rfl (jck_spec hu1) (by omega) rfl rfl rfl (Nat.le_of_ble_eq_true rfl) ⟨Nat.le_refl 0, Nat.le_refl 0⟩ dX5_walkOne_119 (fun p3 H locs S => ?_)
  cases hyp
  exact jr_vret C S trivial dX5_walkOne_122
set_option maxHeartbeats 4000000 in
set_option maxRecDepth 100000 in
theorem t_X5_walkOne_b87 {p : Program} {l : Launch} {e : Env} {s : State} {mi : MethodId} {args : Array Value} {below : List Frame} {meth : Method} {c : Code} {D : va_G} {cy : Nat → ClassId} {B sz : Nat} {sh : jm_S} {res : jm_M} {N : Nat} {rec : Nat → Int → Int → Nat → jm_M → Option jm_M} {kr : Nat} (C : jCx p s mi args meth c cX5_walkOne 7 RX5 none D cy) (hkr : 27 ≤ kr) (hrec : ∀ (a0 : Nat) (x1 : Int) (x2 : Int) (a3 : Nat), jIn x1 → jIn x2 → ∀ (m : jm_M) (res : jm_M), rec a0 x1 x2 a3 m = some res → jCt l D cy B sz sh kr yX5_walk cX5_walk 4 none [jR B a0, jI x1, jI x2, jR B a3] m none res True) {a0 : Nat} {x1 : Int} (h_x1 : jIn x1) {x2 : Int} (h_x2 : jIn x2) {a3 : Nat} {x6 : Int} (h_x6 : jIn x6) {r0 : Nat} {s1 : Int} (h_s1 : jIn s1) {m : jm_M} {H : Heap} {locs : List Loc} {ls : Array Slot} (S : jHs D cy B sz sh (jA B sz) s.heap H locs m) (L : jL ls [some (jR B a0), some (jI x1), some (jI x2), some (jR B a3), none, none, some (jI x6)]) (hyp : f_X5_walkOne_b87 N sh rec a0 x1 x2 a3 x6 r0 s1 m = some res) : W p l e (jrm (kr + 1) 0 0) s mi args below meth c H locs 0 0 (MQ below (jQc D cy B sz sh res none True) args s 0 0 (jA B sz)) (F0 mi 87 ls [jI s1, jR B r0]) := by
  unfold f_X5_walkOne_b87 at hyp
  obtain ⟨u4, hu4, hyp⟩ := jbind hyp
  obtain ⟨q5, hq5, hyp⟩ := jbind hyp
  refine jr_callV_N (pc := 87) C S L (As := [jI s1]) (rest := []) (c_X5_put h_s1 hq5) mv_X5_put ml_X5_112 rfl (jck_spec hu4) (by omega) rfl rfl rfl (Nat.le_of_ble_eq_true rfl) ⟨Nat.le_refl 0, Nat.le_refl 0⟩ dX5_walkOne_87 (fun p6 H locs S => ?_)
  refine jr_aload_n (pc := 90) C L dX5_walkOne_90 rfl rfl ?_
  refine jr_iload (pc := 91) C L dX5_walkOne_91 rfl ?_
  refine jr_if_eq (pc := 93) C h_x6 (tgt := 107) dX5_walkOne_93 (by decide) (fun c7 => ?_) (fun c7 => ?_)
  · have hyp := (if_pos c7).symm.trans hyp
    refine jr_aload_n (pc := 107) C L dX5_walkOne_107 rfl rfl ?_
    obtain ⟨v8, hv8, hyp⟩ := jbind hyp
    refine jr_getR (pc := 108) C S lf_X5_40 rfl hv8 dX5_walkOne_108 ?_
    refine jr_iload_n (pc := 111) C L dX5_walkOne_111 rfl rfl ?_
    obtain ⟨u9, hu9, hyp⟩ := jbind hyp
    obtain ⟨q10, hq10, hyp⟩ := jbind hyp
    refine jr_callV_I (pc := 112) C S L (As := [jI x1]) (rest := [jR B a0]) (c_X10_secondPart (m0 := q5) h_x1 hq10) mv_X10_secondPart ml_X5_98 rfl (jck_spec hu9) (by omega) rfl rfl rfl (by simp [jR_cat, jI_cat]) ⟨Nat.le_refl 0, Nat.le_refl 0⟩ dX5_walkOne_112 (fun p11 H locs S => ?_)
    exact t_X5_walkOne_b115 C hkr hrec  h_x2 p11 S (L.sub (jsub_n (jsub_n (jsub_s (jsub_s (jsub_n (jsub_n (jsub_n jsub_0)))))))) hyp
  · have hyp := (if_neg c7).symm.trans hyp
    refine jr_aload_n (pc := 96) C L dX5_walkOne_96 rfl rfl ?_
    obtain ⟨v12, hv12, hyp⟩ := jbind hyp
    refine jr_getR (pc := 97) C S lf_X5_40 rfl hv12 dX5_walkOne_97 ?_
    refine jr_iload_n (pc := 100) C L dX5_walkOne_100 rfl rfl ?_
    obtain ⟨u13, hu13, hyp⟩ := jbind hyp
    obtain ⟨q14, hq14, hyp⟩ := jbind hyp
    refine jr_callV_I (pc := 101) C S L (As := [jI x1]) (rest := [jR B a0]) (c_X10_firstPart (m0 := q5) h_x1 hq14) mv_X10_firstPart ml_X5_105 rfl (jck_spec hu13) (by omega) rfl rfl rfl (by simp [jR_cat, jI_cat]) ⟨Nat.le_refl 0, Nat.le_refl 0⟩ dX5_walkOne_101 (fun p15 H locs S => ?_)
    refine jr_goto (pc := 104) C (tgt := 115) dX5_walkOne_104 (by decide) ?_
    exact t_X5_walkOne_b115 C hkr hrec  h_x2 p15 S (L.sub (jsub_n (jsub_n (jsub_s (jsub_s (jsub_n (jsub_n (jsub_n jsub_0)))))))) hyp
set_option maxHeartbeats 4000000 in
set_option maxRecDepth 100000 in
theorem t_X5_walkOne_b74 {p : Program} {l : Launch} {e : Env} {s : State} {mi : MethodId} {args : Array Value} {below : List Frame} {meth : Method} {c : Code} {D : va_G} {cy : Nat → ClassId} {B sz : Nat} {sh : jm_S} {res : jm_M} {N : Nat} {rec : Nat → Int → Int → Nat → jm_M → Option jm_M} {kr : Nat} (C : jCx p s mi args meth c cX5_walkOne 7 RX5 none D cy) (hkr : 27 ≤ kr) (hrec : ∀ (a0 : Nat) (x1 : Int) (x2 : Int) (a3 : Nat), jIn x1 → jIn x2 → ∀ (m : jm_M) (res : jm_M), rec a0 x1 x2 a3 m = some res → jCt l D cy B sz sh kr yX5_walk cX5_walk 4 none [jR B a0, jI x1, jI x2, jR B a3] m none res True) {a0 : Nat} {x1 : Int} (h_x1 : jIn x1) {x2 : Int} (h_x2 : jIn x2) {a3 : Nat} {s0 : Int} (h_s0 : jIn s0) {m : jm_M} {H : Heap} {locs : List Loc} {ls : Array Slot} (S : jHs D cy B sz sh (jA B sz) s.heap H locs m) (L : jL ls [some (jR B a0), some (jI x1), some (jI x2), some (jR B a3), none, none, none]) (hyp : f_X5_walkOne_b74 N sh rec a0 x1 x2 a3 s0 m = some res) : W p l e (jrm (kr + 1) 0 0) s mi args below meth c H locs 0 0 (MQ below (jQc D cy B sz sh res none True) args s 0 0 (jA B sz)) (F0 mi 74 ls [jI s0]) := by
  unfold f_X5_walkOne_b74 at hyp
  refine jr_istore (pc := 74) C L dX5_walkOne_74 (Nat.le_of_ble_eq_true rfl) (fun ls L => ?_)
  have L : jL ls [some (jR B a0), some (jI x1), some (jI x2), some (jR B a3), none, none, some (jI s0)] := L
  refine jr_aload_n (pc := 76) C L dX5_walkOne_76 rfl rfl ?_
  refine jr_iload (pc := 77) C L dX5_walkOne_77 rfl ?_
  refine jr_if_eq (pc := 79) C h_s0 (tgt := 86) dX5_walkOne_79 (by decide) (fun c16 => ?_) (fun c16 => ?_)
  · have hyp := (if_pos c16).symm.trans hyp
    refine jr_iconst (pc := 86) C dX5_walkOne_86 ?_
    exact t_X5_walkOne_b87 C hkr hrec  h_x1 h_x2 h_s0 (show jIn 1 from ⟨by decide, by decide⟩) S (L.sub (jsub_s (jsub_s (jsub_s (jsub_s (jsub_n (jsub_n (jsub_s jsub_0)))))))) hyp
  · have hyp := (if_neg c16).symm.trans hyp
    refine jr_iconst (pc := 82) C dX5_walkOne_82 ?_
    refine jr_goto (pc := 83) C (tgt := 87) dX5_walkOne_83 (by decide) ?_
    exact t_X5_walkOne_b87 C hkr hrec  h_x1 h_x2 h_s0 (show jIn 0 from ⟨by decide, by decide⟩) S (L.sub (jsub_s (jsub_s (jsub_s (jsub_s (jsub_n (jsub_n (jsub_s jsub_0)))))))) hyp
set_option maxHeartbeats 4000000 in
set_option maxRecDepth 100000 in
theorem t_X5_walkOne_e {p : Program} {l : Launch} {e : Env} {s : State} {mi : MethodId} {args : Array Value} {below : List Frame} {meth : Method} {c : Code} {D : va_G} {cy : Nat → ClassId} {B sz : Nat} {sh : jm_S} {res : jm_M} {N : Nat} {rec : Nat → Int → Int → Nat → jm_M → Option jm_M} {kr : Nat} (C : jCx p s mi args meth c cX5_walkOne 7 RX5 none D cy) (hkr : 27 ≤ kr) (hrec : ∀ (a0 : Nat) (x1 : Int) (x2 : Int) (a3 : Nat), jIn x1 → jIn x2 → ∀ (m : jm_M) (res : jm_M), rec a0 x1 x2 a3 m = some res → jCt l D cy B sz sh kr yX5_walk cX5_walk 4 none [jR B a0, jI x1, jI x2, jR B a3] m none res True) {a0 : Nat} {x1 : Int} (h_x1 : jIn x1) {x2 : Int} (h_x2 : jIn x2) {a3 : Nat} {m : jm_M} {H : Heap} {locs : List Loc} {ls : Array Slot} (S : jHs D cy B sz sh (jA B sz) s.heap H locs m) (L : jL ls [some (jR B a0), some (jI x1), some (jI x2), some (jR B a3), none, none, none]) (hyp : f_X5_walkOne N sh rec a0 x1 x2 a3 m = some res) : W p l e (jrm (kr + 1) 0 0) s mi args below meth c H locs 0 0 (MQ below (jQc D cy B sz sh res none True) args s 0 0 (jA B sz)) (F0 mi 0 ls []) := by
  unfold f_X5_walkOne at hyp
  refine jr_aload_n (pc := 0) C L dX5_walkOne_0 rfl rfl ?_
  refine jr_iload_n (pc := 1) C L dX5_walkOne_1 rfl rfl ?_
  refine jr_iconst (pc := 2) C dX5_walkOne_2 ?_
  refine jr_aload_n (pc := 3) C L dX5_walkOne_3 rfl rfl ?_
  obtain ⟨u17, hu17, hyp⟩ := jbind hyp
  obtain ⟨q18, hq18, hyp⟩ := jbind hyp
  refine jr_callV_R (pc := 4) C S L (As := [jI x2, jI 0, jR B a3]) (rest := []) (c_X5_aheadRow (m0 := m) h_x2 (show jIn 0 from ⟨by decide, by decide⟩) hq18) mv_X5_aheadRow ml_X5_94 rfl (jck_spec hu17) (by omega) rfl rfl rfl (Nat.le_of_ble_eq_true rfl) ⟨Nat.le_refl 0, Nat.le_refl 0⟩ dX5_walkOne_4 (fun p19 H locs S => ?_)
  refine jr_astore (pc := 7) C L dX5_walkOne_7 (Nat.le_of_ble_eq_true rfl) (fun ls L => ?_)
  have L : jL ls [some (jR B a0), some (jI x1), some (jI x2), some (jR B a3), some (jR B q18), none, none] := L
  refine jr_aload_n (pc := 9) C L dX5_walkOne_9 rfl rfl ?_
  refine jr_iload_n (pc := 10) C L dX5_walkOne_10 rfl rfl ?_
  refine jr_iconst (pc := 11) C dX5_walkOne_11 ?_
  refine jr_aload_n (pc := 12) C L dX5_walkOne_12 rfl rfl ?_
  obtain ⟨u20, hu20, hyp⟩ := jbind hyp
  obtain ⟨q21, hq21, hyp⟩ := jbind hyp
  refine jr_callV_R (pc := 13) C S L (As := [jI x2, jI 1, jR B a3]) (rest := []) (c_X5_aheadRow (m0 := m) h_x2 (show jIn 1 from ⟨by decide, by decide⟩) hq21) mv_X5_aheadRow ml_X5_94 rfl (jck_spec hu20) (by omega) rfl rfl rfl (Nat.le_of_ble_eq_true rfl) ⟨Nat.le_refl 0, Nat.le_refl 0⟩ dX5_walkOne_13 (fun p22 H locs S => ?_)
  refine jr_astore (pc := 16) C L dX5_walkOne_16 (Nat.le_of_ble_eq_true rfl) (fun ls L => ?_)
  have L : jL ls [some (jR B a0), some (jI x1), some (jI x2), some (jR B a3), some (jR B q18), some (jR B q21), none] := L
  refine jr_aload_n (pc := 18) C L dX5_walkOne_18 rfl rfl ?_
  refine jr_aload_n (pc := 19) C L dX5_walkOne_19 rfl rfl ?_
  obtain ⟨v23, hv23, hyp⟩ := jbind hyp
  refine jr_getR (pc := 20) C S lf_X5_40 rfl hv23 dX5_walkOne_20 ?_
  refine jr_iload_n (pc := 23) C L dX5_walkOne_23 rfl rfl ?_
  obtain ⟨u24, hu24, hyp⟩ := jbind hyp
  obtain ⟨q25, hq25, hyp⟩ := jbind hyp
  refine jr_callV_I (pc := 24) C S L (As := [jI x1]) (rest := [jR B a0]) (c_X10_firstPart (m0 := m) h_x1 hq25) mv_X10_firstPart ml_X5_105 rfl (jck_spec hu24) (by omega) rfl rfl rfl (by simp [jR_cat, jI_cat]) ⟨Nat.le_refl 0, Nat.le_refl 0⟩ dX5_walkOne_24 (fun p26 H locs S => ?_)
  refine jr_iload_n (pc := 27) C L dX5_walkOne_27 rfl rfl ?_
  refine jr_iconst (pc := 28) C dX5_walkOne_28 ?_
  refine jr_iadd (pc := 29) C dX5_walkOne_29 ?_
  refine jr_aload_n (pc := 30) C L dX5_walkOne_30 rfl rfl ?_
  refine jr_aload (pc := 31) C L dX5_walkOne_31 rfl ?_
  obtain ⟨u27, hu27, hyp⟩ := jbind hyp
  obtain ⟨q28, hq28, hyp⟩ := jbind hyp
  refine jr_callV_N (pc := 33) C S L (As := [jI q25, jI (jw (x2 + 1)), jR B a3, jR B q18]) (rest := []) (cd_X5_look 8 a0 q25 (jw (x2 + 1)) a3 q18 p26 (jIn_w _) m q28 hq28) mv_X5_look ml_X5_101 rfl (jck_spec hu27) (by omega) rfl rfl rfl (Nat.le_of_ble_eq_true rfl) ⟨Nat.le_refl 0, Nat.le_refl 0⟩ dX5_walkOne_33 (fun p29 H locs S => ?_)
  refine jr_aload_n (pc := 36) C L dX5_walkOne_36 rfl rfl ?_
  refine jr_aload_n (pc := 37) C L dX5_walkOne_37 rfl rfl ?_
  obtain ⟨v30, hv30, hyp⟩ := jbind hyp
  refine jr_getR (pc := 38) C S lf_X5_40 rfl hv30 dX5_walkOne_38 ?_
  refine jr_iload_n (pc := 41) C L dX5_walkOne_41 rfl rfl ?_
  obtain ⟨u31, hu31, hyp⟩ := jbind hyp
  obtain ⟨q32, hq32, hyp⟩ := jbind hyp
  refine jr_callV_I (pc := 42) C S L (As := [jI x1]) (rest := [jR B a0]) (c_X10_secondPart (m0 := q28) h_x1 hq32) mv_X10_secondPart ml_X5_98 rfl (jck_spec hu31) (by omega) rfl rfl rfl (by simp [jR_cat, jI_cat]) ⟨Nat.le_refl 0, Nat.le_refl 0⟩ dX5_walkOne_42 (fun p33 H locs S => ?_)
  refine jr_iload_n (pc := 45) C L dX5_walkOne_45 rfl rfl ?_
  refine jr_iconst (pc := 46) C dX5_walkOne_46 ?_
  refine jr_iadd (pc := 47) C dX5_walkOne_47 ?_
  refine jr_aload_n (pc := 48) C L dX5_walkOne_48 rfl rfl ?_
  refine jr_aload (pc := 49) C L dX5_walkOne_49 rfl ?_
  obtain ⟨u34, hu34, hyp⟩ := jbind hyp
  obtain ⟨q35, hq35, hyp⟩ := jbind hyp
  refine jr_callV_N (pc := 51) C S L (As := [jI q32, jI (jw (x2 + 1)), jR B a3, jR B q21]) (rest := []) (cd_X5_look 8 a0 q32 (jw (x2 + 1)) a3 q21 p33 (jIn_w _) q28 q35 hq35) mv_X5_look ml_X5_101 rfl (jck_spec hu34) (by omega) rfl rfl rfl (Nat.le_of_ble_eq_true rfl) ⟨Nat.le_refl 0, Nat.le_refl 0⟩ dX5_walkOne_51 (fun p36 H locs S => ?_)
  refine jr_aload_n (pc := 54) C L dX5_walkOne_54 rfl rfl ?_
  refine jr_aload (pc := 55) C L dX5_walkOne_55 rfl ?_
  obtain ⟨u37, hu37, hyp⟩ := jbind hyp
  obtain ⟨q38, hq38, hyp⟩ := jbind hyp
  refine jr_callV_I (pc := 57) C S L (As := [jR B q18]) (rest := []) (c_X5_costHere (m0 := q35)  hq38) mv_X5_costHere ml_X5_108 rfl (jck_spec hu37) (by omega) rfl rfl rfl (Nat.le_of_ble_eq_true rfl) ⟨Nat.le_refl 0, Nat.le_refl 0⟩ dX5_walkOne_57 (fun p39 H locs S => ?_)
  refine jr_aload_n (pc := 60) C L dX5_walkOne_60 rfl rfl ?_
  refine jr_aload (pc := 61) C L dX5_walkOne_61 rfl ?_
  obtain ⟨u40, hu40, hyp⟩ := jbind hyp
  obtain ⟨q41, hq41, hyp⟩ := jbind hyp
  refine jr_callV_I (pc := 63) C S L (As := [jR B q21]) (rest := [jI q38]) (c_X5_costHere (m0 := q35)  hq41) mv_X5_costHere ml_X5_108 rfl (jck_spec hu40) (by omega) rfl rfl rfl (Nat.le_of_ble_eq_true rfl) ⟨Nat.le_refl 0, Nat.le_refl 0⟩ dX5_walkOne_63 (fun p42 H locs S => ?_)
  refine jr_icmp_lt (pc := 66) C p39 p42 (tgt := 73) dX5_walkOne_66 (by decide) (fun c43 => ?_) (fun c43 => ?_)
  · have hyp := (if_pos c43).symm.trans hyp
    refine jr_iconst (pc := 73) C dX5_walkOne_73 ?_
    exact t_X5_walkOne_b74 C hkr hrec  h_x1 h_x2 (show jIn 0 from ⟨by decide, by decide⟩) S (L.sub (jsub_s (jsub_s (jsub_s (jsub_s (jsub_n (jsub_n (jsub_n jsub_0)))))))) hyp
  · have hyp := (if_neg c43).symm.trans hyp
    refine jr_iconst (pc := 69) C dX5_walkOne_69 ?_
    refine jr_goto (pc := 70) C (tgt := 74) dX5_walkOne_70 (by decide) ?_
    exact t_X5_walkOne_b74 C hkr hrec  h_x1 h_x2 (show jIn 1 from ⟨by decide, by decide⟩) S (L.sub (jsub_s (jsub_s (jsub_s (jsub_s (jsub_n (jsub_n (jsub_n jsub_0)))))))) hyp
theorem c_X5_walkOne {l : Launch} {D : va_G} {cy : Nat → ClassId} {B sz : Nat} {sh : jm_S} {res : jm_M} {N : Nat} {rec : Nat → Int → Int → Nat → jm_M → Option jm_M} {kr : Nat} {m : jm_M} (hkr : 27 ≤ kr) (hrec : ∀ (a0 : Nat) (x1 : Int) (x2 : Int) (a3 : Nat), jIn x1 → jIn x2 → ∀ (m : jm_M) (res : jm_M), rec a0 x1 x2 a3 m = some res → jCt l D cy B sz sh kr yX5_walk cX5_walk 4 none [jR B a0, jI x1, jI x2, jR B a3] m none res True) {a0 : Nat} {x1 : Int} (h_x1 : jIn x1) {x2 : Int} (h_x2 : jIn x2) {a3 : Nat} (hyp : f_X5_walkOne N sh rec a0 x1 x2 a3 m = some res) : jCt l D cy B sz sh (kr + 1) yX5_walkOne cX5_walkOne 7 none [jR B a0, jI x1, jI x2, jR B a3] m none res True :=
  jc_of (by decide) (fun v h => by simp only [List.mem_cons, List.not_mem_nil, or_false] at h; rcases h with rfl | rfl | rfl | rfl <;> first | rfl | exact jR_cat _ _) (Nat.le_of_ble_eq_true rfl) (fun C S L => t_X5_walkOne_e C hkr hrec h_x1 h_x2 S L hyp)
set_option maxHeartbeats 4000000 in
set_option maxRecDepth 100000 in
theorem t_X5_walkLoop_b143 {p : Program} {l : Launch} {e : Env} {s : State} {mi : MethodId} {args : Array Value} {below : List Frame} {meth : Method} {c : Code} {D : va_G} {cy : Nat → ClassId} {B sz : Nat} {sh : jm_S} {res : jm_M} {N : Nat} {rec : Nat → Int → Int → Nat → jm_M → Option jm_M} {kr : Nat} {k113 : Nat → Int → Nat → Int → Int → jm_M → Option jm_M} (C : jCx p s mi args meth c cX5_walkLoop 11 RX5 none D cy) (hkr : 27 ≤ kr) (hrec : ∀ (a0 : Nat) (x1 : Int) (x2 : Int) (a3 : Nat), jIn x1 → jIn x2 → ∀ (m : jm_M) (res : jm_M), rec a0 x1 x2 a3 m = some res → jCt l D cy B sz sh kr yX5_walk cX5_walk 4 none [jR B a0, jI x1, jI x2, jR B a3] m none res True) (K113 : ∀ (a0 : Nat) (x2 : Int) (a3 : Nat) (x4 : Int) (x9 : Int) , jIn x2 → jIn x4 → jIn x9 → ∀ (m : jm_M) (H : Heap) (locs : List Loc) (ls : Array Slot), jHs D cy B sz sh (jA B sz) s.heap H locs m → jL ls [some (jR B a0), none, some (jI x2), some (jR B a3), some (jI x4), none, none, none, none, some (jI x9), none] → k113 a0 x2 a3 x4 x9 m = some res → W p l e (jrm (kr + 1) 0 0) s mi args below meth c H locs 0 0 (MQ below (jQc D cy B sz sh res none True) args s 0 0 (jA B sz)) (F0 mi 113 ls [])) {a0 : Nat} {x2 : Int} (h_x2 : jIn x2) {a3 : Nat} {x4 : Int} (h_x4 : jIn x4) {x9 : Int} (h_x9 : jIn x9) {r0 : Nat} {s1 : Int} (h_s1 : jIn s1) {s2 : Int} (h_s2 : jIn s2) {r3 : Nat} {m : jm_M} {H : Heap} {locs : List Loc} {ls : Array Slot} (S : jHs D cy B sz sh (jA B sz) s.heap H locs m) (L : jL ls [some (jR B a0), none, some (jI x2), some (jR B a3), some (jI x4), none, none, none, none, some (jI x9), none]) (hyp : f_X5_walkLoop_b143 N sh rec k113 a0 x2 a3 x4 x9 r0 s1 s2 r3 m = some res) : W p l e (jrm (kr + 1) 0 0) s mi args below meth c H locs 0 0 (MQ below (jQc D cy B sz sh res none True) args s 0 0 (jA B sz)) (F0 mi 143 ls [jR B r3, jI s2, jI s1, jR B r0]) := by
  unfold f_X5_walkLoop_b143 at hyp
  obtain ⟨u1, hu1, hyp⟩ := jbind hyp
  obtain ⟨q2, hq2, hyp⟩ := jbind hyp
  refine jr_callV_N (pc := 143) C S L (As := [jI s1, jI s2, jR B r3]) (rest := []) (hrec r0 s1 s2 r3 h_s1 h_s2 m q2 hq2) mv_X5_walk ml_X5_71 rfl (jck_spec hu1) (by omega) rfl rfl rfl (Nat.le_of_ble_eq_true rfl) ⟨Nat.le_refl 0, Nat.le_refl 0⟩ dX5_walkLoop_143 (fun p3 H locs S => ?_)
  refine jr_iinc (pc := 146) C L dX5_walkLoop_146 rfl (Nat.le_of_ble_eq_true rfl) (fun ls L => ?_)
  have L : jL ls [some (jR B a0), none, some (jI x2), some (jR B a3), some (jI x4), none, none, none, none, some (jI (jw (x9 + (-1)))), none] := L
  refine jr_goto (pc := 149) C (tgt := 113) dX5_walkLoop_149 (by decide) ?_
  exact K113 a0 x2 a3 x4 (jw (x9 + (-1))) h_x2 h_x4 (jIn_w _) q2 _ _ _ S (L.sub (jsub_s (jsub_n (jsub_s (jsub_s (jsub_s (jsub_n (jsub_n (jsub_n (jsub_n (jsub_s (jsub_n jsub_0)))))))))))) hyp
set_option maxHeartbeats 4000000 in
set_option maxRecDepth 100000 in
theorem t_X5_walkLoop_b113 {p : Program} {l : Launch} {e : Env} {s : State} {mi : MethodId} {args : Array Value} {below : List Frame} {meth : Method} {c : Code} {D : va_G} {cy : Nat → ClassId} {B sz : Nat} {sh : jm_S} {res : jm_M} {N : Nat} {rec : Nat → Int → Int → Nat → jm_M → Option jm_M} {kr : Nat} {k113 : Nat → Int → Nat → Int → Int → jm_M → Option jm_M} (C : jCx p s mi args meth c cX5_walkLoop 11 RX5 none D cy) (hkr : 27 ≤ kr) (hrec : ∀ (a0 : Nat) (x1 : Int) (x2 : Int) (a3 : Nat), jIn x1 → jIn x2 → ∀ (m : jm_M) (res : jm_M), rec a0 x1 x2 a3 m = some res → jCt l D cy B sz sh kr yX5_walk cX5_walk 4 none [jR B a0, jI x1, jI x2, jR B a3] m none res True) (K113 : ∀ (a0 : Nat) (x2 : Int) (a3 : Nat) (x4 : Int) (x9 : Int) , jIn x2 → jIn x4 → jIn x9 → ∀ (m : jm_M) (H : Heap) (locs : List Loc) (ls : Array Slot), jHs D cy B sz sh (jA B sz) s.heap H locs m → jL ls [some (jR B a0), none, some (jI x2), some (jR B a3), some (jI x4), none, none, none, none, some (jI x9), none] → k113 a0 x2 a3 x4 x9 m = some res → W p l e (jrm (kr + 1) 0 0) s mi args below meth c H locs 0 0 (MQ below (jQc D cy B sz sh res none True) args s 0 0 (jA B sz)) (F0 mi 113 ls [])) {a0 : Nat} {x2 : Int} (h_x2 : jIn x2) {a3 : Nat} {x4 : Int} (h_x4 : jIn x4) {x9 : Int} (h_x9 : jIn x9) {m : jm_M} {H : Heap} {locs : List Loc} {ls : Array Slot} (S : jHs D cy B sz sh (jA B sz) s.heap H locs m) (L : jL ls [some (jR B a0), none, some (jI x2), some (jR B a3), some (jI x4), none, none, none, none, some (jI x9), none]) (hyp : f_X5_walkLoop_b113 N sh rec k113 a0 x2 a3 x4 x9 m = some res) : W p l e (jrm (kr + 1) 0 0) s mi args below meth c H locs 0 0 (MQ below (jQc D cy B sz sh res none True) args s 0 0 (jA B sz)) (F0 mi 113 ls []) := by
  unfold f_X5_walkLoop_b113 at hyp
  refine jr_iload (pc := 113) C L dX5_walkLoop_113 rfl ?_
  refine jr_if_lt (pc := 115) C h_x9 (tgt := 152) dX5_walkLoop_115 (by decide) (fun c4 => ?_) (fun c4 => ?_)
  · have hyp := (if_pos c4).symm.trans hyp
    cases hyp
    exact jr_vret C S trivial dX5_walkLoop_152
  · have hyp := (if_neg c4).symm.trans hyp
    refine jr_aload_n (pc := 118) C L dX5_walkLoop_118 rfl rfl ?_
    refine jr_iload (pc := 119) C L dX5_walkLoop_119 rfl ?_
    refine jr_iload_n (pc := 121) C L dX5_walkLoop_121 rfl rfl ?_
    refine jr_iconst (pc := 122) C dX5_walkLoop_122 ?_
    refine jr_iadd (pc := 123) C dX5_walkLoop_123 ?_
    refine jr_iload (pc := 124) C L dX5_walkLoop_124 rfl ?_
    refine jr_if_ne (pc := 126) C h_x9 (tgt := 133) dX5_walkLoop_126 (by decide) (fun c5 => ?_) (fun c5 => ?_)
    · have hyp := (if_pos c5).symm.trans hyp
      refine jr_aload_n (pc := 129) C L dX5_walkLoop_129 rfl rfl ?_
      refine jr_goto (pc := 130) C (tgt := 143) dX5_walkLoop_130 (by decide) ?_
      exact t_X5_walkLoop_b143 C hkr hrec K113 h_x2 h_x4 h_x9 h_x4 (jIn_w _) S (L.sub (jsub_s (jsub_n (jsub_s (jsub_s (jsub_s (jsub_n (jsub_n (jsub_n (jsub_n (jsub_s (jsub_n jsub_0)))))))))))) hyp
    · have hyp := (if_neg c5).symm.trans hyp
      refine jr_aload_n (pc := 133) C L dX5_walkLoop_133 rfl rfl ?_
      refine jr_iload_n (pc := 134) C L dX5_walkLoop_134 rfl rfl ?_
      refine jr_iload (pc := 135) C L dX5_walkLoop_135 rfl ?_
      refine jr_iconst (pc := 137) C dX5_walkLoop_137 ?_
      refine jr_isub (pc := 138) C dX5_walkLoop_138 ?_
      refine jr_aload_n (pc := 139) C L dX5_walkLoop_139 rfl rfl ?_
      obtain ⟨u6, hu6, hyp⟩ := jbind hyp
      obtain ⟨q7, hq7, hyp⟩ := jbind hyp
      refine jr_callV_R (pc := 140) C S L (As := [jI x2, jI (jw (x9 - 1)), jR B a3]) (rest := [jI (jw (x2 + 1)), jI x4, jR B a0]) (c_X5_aheadRow (m0 := m) h_x2 (jIn_w _) hq7) mv_X5_aheadRow ml_X5_94 rfl (jck_spec hu6) (by omega) rfl rfl rfl (by simp [jR_cat, jI_cat]) ⟨Nat.le_refl 0, Nat.le_refl 0⟩ dX5_walkLoop_140 (fun p8 H locs S => ?_)
      exact t_X5_walkLoop_b143 C hkr hrec K113 h_x2 h_x4 h_x9 h_x4 (jIn_w _) S (L.sub (jsub_s (jsub_n (jsub_s (jsub_s (jsub_s (jsub_n (jsub_n (jsub_n (jsub_n (jsub_s (jsub_n jsub_0)))))))))))) hyp
theorem t_X5_walkLoop_l113 {p : Program} {l : Launch} {e : Env} {s : State} {mi : MethodId} {args : Array Value} {below : List Frame} {meth : Method} {c : Code} {D : va_G} {cy : Nat → ClassId} {B sz : Nat} {sh : jm_S} {res : jm_M} {N : Nat} {rec : Nat → Int → Int → Nat → jm_M → Option jm_M} {kr : Nat} (C : jCx p s mi args meth c cX5_walkLoop 11 RX5 none D cy) (hkr : 27 ≤ kr) (hrec : ∀ (a0 : Nat) (x1 : Int) (x2 : Int) (a3 : Nat), jIn x1 → jIn x2 → ∀ (m : jm_M) (res : jm_M), rec a0 x1 x2 a3 m = some res → jCt l D cy B sz sh kr yX5_walk cX5_walk 4 none [jR B a0, jI x1, jI x2, jR B a3] m none res True) : ∀ (n : Nat) (a0 : Nat) (x2 : Int) (a3 : Nat) (x4 : Int) (x9 : Int), jIn x2 → jIn x4 → jIn x9 → ∀ (m : jm_M) (H : Heap) (locs : List Loc) (ls : Array Slot), jHs D cy B sz sh (jA B sz) s.heap H locs m → jL ls [some (jR B a0), none, some (jI x2), some (jR B a3), some (jI x4), none, none, none, none, some (jI x9), none] → f_X5_walkLoop_l113 N sh rec n a0 x2 a3 x4 x9 m = some res → W p l e (jrm (kr + 1) 0 0) s mi args below meth c H locs 0 0 (MQ below (jQc D cy B sz sh res none True) args s 0 0 (jA B sz)) (F0 mi 113 ls []) := by
  intro n
  induction n with
  | zero => intro a0 x2 a3 x4 x9 h_x2 h_x4 h_x9 m H locs ls S L hyp; cases hyp
  | succ n ih => intro a0 x2 a3 x4 x9 h_x2 h_x4 h_x9 m H locs ls S L hyp; exact t_X5_walkLoop_b113 (N := N) C hkr hrec ih h_x2 h_x4 h_x9 S L hyp
set_option maxHeartbeats 4000000 in
set_option maxRecDepth 100000 in
theorem t_X5_walkLoop_b91 {p : Program} {l : Launch} {e : Env} {s : State} {mi : MethodId} {args : Array Value} {below : List Frame} {meth : Method} {c : Code} {D : va_G} {cy : Nat → ClassId} {B sz : Nat} {sh : jm_S} {res : jm_M} {N : Nat} {rec : Nat → Int → Int → Nat → jm_M → Option jm_M} {kr : Nat} {k36 : Nat → Int → Nat → Int → Int → Int → Int → Nat → Int → jm_M → Option jm_M} (C : jCx p s mi args meth c cX5_walkLoop 11 RX5 none D cy) (hkr : 27 ≤ kr) (hrec : ∀ (a0 : Nat) (x1 : Int) (x2 : Int) (a3 : Nat), jIn x1 → jIn x2 → ∀ (m : jm_M) (res : jm_M), rec a0 x1 x2 a3 m = some res → jCt l D cy B sz sh kr yX5_walk cX5_walk 4 none [jR B a0, jI x1, jI x2, jR B a3] m none res True) (K36 : ∀ (a0 : Nat) (x2 : Int) (a3 : Nat) (x4 : Int) (x5 : Int) (x6 : Int) (x7 : Int) (a8 : Nat) (x9 : Int) , jIn x2 → jIn x4 → jIn x5 → jIn x6 → jIn x7 → jIn x9 → ∀ (m : jm_M) (H : Heap) (locs : List Loc) (ls : Array Slot), jHs D cy B sz sh (jA B sz) s.heap H locs m → jL ls [some (jR B a0), none, some (jI x2), some (jR B a3), some (jI x4), some (jI x5), some (jI x6), some (jI x7), some (jR B a8), some (jI x9), none] → k36 a0 x2 a3 x4 x5 x6 x7 a8 x9 m = some res → W p l e (jrm (kr + 1) 0 0) s mi args below meth c H locs 0 0 (MQ below (jQc D cy B sz sh res none True) args s 0 0 (jA B sz)) (F0 mi 36 ls [])) {a0 : Nat} {x2 : Int} (h_x2 : jIn x2) {a3 : Nat} {x4 : Int} (h_x4 : jIn x4) {x5 : Int} (h_x5 : jIn x5) {x6 : Int} (h_x6 : jIn x6) {x7 : Int} (h_x7 : jIn x7) {x9 : Int} (h_x9 : jIn x9) {a10 : Nat} {m : jm_M} {H : Heap} {locs : List Loc} {ls : Array Slot} (S : jHs D cy B sz sh (jA B sz) s.heap H locs m) (L : jL ls [some (jR B a0), none, some (jI x2), some (jR B a3), some (jI x4), some (jI x5), some (jI x6), some (jI x7), none, some (jI x9), some (jR B a10)]) (hyp : f_X5_walkLoop_b91 N sh rec k36 a0 x2 a3 x4 x5 x6 x7 x9 a10 m = some res) : W p l e (jrm (kr + 1) 0 0) s mi args below meth c H locs 0 0 (MQ below (jQc D cy B sz sh res none True) args s 0 0 (jA B sz)) (F0 mi 91 ls []) := by
  unfold f_X5_walkLoop_b91 at hyp
  refine jr_aload (pc := 91) C L dX5_walkLoop_91 rfl ?_
  refine jr_astore (pc := 93) C L dX5_walkLoop_93 (Nat.le_of_ble_eq_true rfl) (fun ls L => ?_)
  have L : jL ls [some (jR B a0), none, some (jI x2), some (jR B a3), some (jI x4), some (jI x5), some (jI x6), some (jI x7), some (jR B a10), some (jI x9), some (jR B a10)] := L
  refine jr_iinc (pc := 95) C L dX5_walkLoop_95 rfl (Nat.le_of_ble_eq_true rfl) (fun ls L => ?_)
  have L : jL ls [some (jR B a0), none, some (jI x2), some (jR B a3), some (jI x4), some (jI x5), some (jI x6), some (jI x7), some (jR B a10), some (jI (jw (x9 + 1))), some (jR B a10)] := L
  refine jr_goto (pc := 98) C (tgt := 36) dX5_walkLoop_98 (by decide) ?_
  exact K36 a0 x2 a3 x4 x5 x6 x7 a10 (jw (x9 + 1)) h_x2 h_x4 h_x5 h_x6 h_x7 (jIn_w _) m _ _ _ S (L.sub (jsub_s (jsub_n (jsub_s (jsub_s (jsub_s (jsub_s (jsub_s (jsub_s (jsub_s (jsub_s (jsub_n jsub_0)))))))))))) hyp
set_option maxHeartbeats 4000000 in
set_option maxRecDepth 100000 in
theorem t_X5_walkLoop_b36 {p : Program} {l : Launch} {e : Env} {s : State} {mi : MethodId} {args : Array Value} {below : List Frame} {meth : Method} {c : Code} {D : va_G} {cy : Nat → ClassId} {B sz : Nat} {sh : jm_S} {res : jm_M} {N : Nat} {rec : Nat → Int → Int → Nat → jm_M → Option jm_M} {kr : Nat} {k36 : Nat → Int → Nat → Int → Int → Int → Int → Nat → Int → jm_M → Option jm_M} (C : jCx p s mi args meth c cX5_walkLoop 11 RX5 none D cy) (hkr : 27 ≤ kr) (hrec : ∀ (a0 : Nat) (x1 : Int) (x2 : Int) (a3 : Nat), jIn x1 → jIn x2 → ∀ (m : jm_M) (res : jm_M), rec a0 x1 x2 a3 m = some res → jCt l D cy B sz sh kr yX5_walk cX5_walk 4 none [jR B a0, jI x1, jI x2, jR B a3] m none res True) (K36 : ∀ (a0 : Nat) (x2 : Int) (a3 : Nat) (x4 : Int) (x5 : Int) (x6 : Int) (x7 : Int) (a8 : Nat) (x9 : Int) , jIn x2 → jIn x4 → jIn x5 → jIn x6 → jIn x7 → jIn x9 → ∀ (m : jm_M) (H : Heap) (locs : List Loc) (ls : Array Slot), jHs D cy B sz sh (jA B sz) s.heap H locs m → jL ls [some (jR B a0), none, some (jI x2), some (jR B a3), some (jI x4), some (jI x5), some (jI x6), some (jI x7), some (jR B a8), some (jI x9), none] → k36 a0 x2 a3 x4 x5 x6 x7 a8 x9 m = some res → W p l e (jrm (kr + 1) 0 0) s mi args below meth c H locs 0 0 (MQ below (jQc D cy B sz sh res none True) args s 0 0 (jA B sz)) (F0 mi 36 ls [])) {a0 : Nat} {x2 : Int} (h_x2 : jIn x2) {a3 : Nat} {x4 : Int} (h_x4 : jIn x4) {x5 : Int} (h_x5 : jIn x5) {x6 : Int} (h_x6 : jIn x6) {x7 : Int} (h_x7 : jIn x7) {a8 : Nat} {x9 : Int} (h_x9 : jIn x9) {m : jm_M} {H : Heap} {locs : List Loc} {ls : Array Slot} (S : jHs D cy B sz sh (jA B sz) s.heap H locs m) (L : jL ls [some (jR B a0), none, some (jI x2), some (jR B a3), some (jI x4), some (jI x5), some (jI x6), some (jI x7), some (jR B a8), some (jI x9), none]) (hyp : f_X5_walkLoop_b36 N sh rec k36 a0 x2 a3 x4 x5 x6 x7 a8 x9 m = some res) : W p l e (jrm (kr + 1) 0 0) s mi args below meth c H locs 0 0 (MQ below (jQc D cy B sz sh res none True) args s 0 0 (jA B sz)) (F0 mi 36 ls []) := by
  unfold f_X5_walkLoop_b36 at hyp
  refine jr_iload (pc := 36) C L dX5_walkLoop_36 rfl ?_
  refine jr_iload (pc := 38) C L dX5_walkLoop_38 rfl ?_
  refine jr_icmp_ge (pc := 40) C h_x9 h_x5 (tgt := 101) dX5_walkLoop_40 (by decide) (fun c9 => ?_) (fun c9 => ?_)
  · have hyp := (if_pos c9).symm.trans hyp
    refine jr_aload_n (pc := 43) C L dX5_walkLoop_43 rfl rfl ?_
    refine jr_iload_n (pc := 44) C L dX5_walkLoop_44 rfl rfl ?_
    refine jr_iload (pc := 45) C L dX5_walkLoop_45 rfl ?_
    refine jr_aload_n (pc := 47) C L dX5_walkLoop_47 rfl rfl ?_
    obtain ⟨u10, hu10, hyp⟩ := jbind hyp
    obtain ⟨q11, hq11, hyp⟩ := jbind hyp
    refine jr_callV_R (pc := 48) C S L (As := [jI x2, jI x9, jR B a3]) (rest := []) (c_X5_aheadRow (m0 := m) h_x2 h_x9 hq11) mv_X5_aheadRow ml_X5_94 rfl (jck_spec hu10) (by omega) rfl rfl rfl (Nat.le_of_ble_eq_true rfl) ⟨Nat.le_refl 0, Nat.le_refl 0⟩ dX5_walkLoop_48 (fun p12 H locs S => ?_)
    refine jr_astore (pc := 51) C L dX5_walkLoop_51 (Nat.le_of_ble_eq_true rfl) (fun ls L => ?_)
    have L : jL ls [some (jR B a0), none, some (jI x2), some (jR B a3), some (jI x4), some (jI x5), some (jI x6), some (jI x7), some (jR B a8), some (jI x9), some (jR B q11)] := L
    refine jr_aload_n (pc := 53) C L dX5_walkLoop_53 rfl rfl ?_
    refine jr_iload (pc := 54) C L dX5_walkLoop_54 rfl ?_
    refine jr_iload_n (pc := 56) C L dX5_walkLoop_56 rfl rfl ?_
    refine jr_iconst (pc := 57) C dX5_walkLoop_57 ?_
    refine jr_iadd (pc := 58) C dX5_walkLoop_58 ?_
    refine jr_aload (pc := 59) C L dX5_walkLoop_59 rfl ?_
    refine jr_aload (pc := 61) C L dX5_walkLoop_61 rfl ?_
    obtain ⟨u13, hu13, hyp⟩ := jbind hyp
    obtain ⟨q14, hq14, hyp⟩ := jbind hyp
    refine jr_callV_N (pc := 63) C S L (As := [jI x4, jI (jw (x2 + 1)), jR B a8, jR B q11]) (rest := []) (cd_X5_look 8 a0 x4 (jw (x2 + 1)) a8 q11 h_x4 (jIn_w _) m q14 hq14) mv_X5_look ml_X5_101 rfl (jck_spec hu13) (by omega) rfl rfl rfl (Nat.le_of_ble_eq_true rfl) ⟨Nat.le_refl 0, Nat.le_refl 0⟩ dX5_walkLoop_63 (fun p15 H locs S => ?_)
    refine jr_aload_n (pc := 66) C L dX5_walkLoop_66 rfl rfl ?_
    refine jr_aload (pc := 67) C L dX5_walkLoop_67 rfl ?_
    obtain ⟨u16, hu16, hyp⟩ := jbind hyp
    obtain ⟨q17, hq17, hyp⟩ := jbind hyp
    refine jr_callV_I (pc := 69) C S L (As := [jR B q11]) (rest := []) (c_X5_costHere (m0 := q14)  hq17) mv_X5_costHere ml_X5_108 rfl (jck_spec hu16) (by omega) rfl rfl rfl (Nat.le_of_ble_eq_true rfl) ⟨Nat.le_refl 0, Nat.le_refl 0⟩ dX5_walkLoop_69 (fun p18 H locs S => ?_)
    refine jr_iload (pc := 72) C L dX5_walkLoop_72 rfl ?_
    refine jr_icmp_le (pc := 74) C p18 h_x7 (tgt := 91) dX5_walkLoop_74 (by decide) (fun c19 => ?_) (fun c19 => ?_)
    · have hyp := (if_pos c19).symm.trans hyp
      refine jr_aload_n (pc := 77) C L dX5_walkLoop_77 rfl rfl ?_
      refine jr_aload (pc := 78) C L dX5_walkLoop_78 rfl ?_
      obtain ⟨u20, hu20, hyp⟩ := jbind hyp
      obtain ⟨q21, hq21, hyp⟩ := jbind hyp
      refine jr_callV_I (pc := 80) C S L (As := [jR B q11]) (rest := []) (c_X5_costHere (m0 := q14)  hq21) mv_X5_costHere ml_X5_108 rfl (jck_spec hu20) (by omega) rfl rfl rfl (Nat.le_of_ble_eq_true rfl) ⟨Nat.le_refl 0, Nat.le_refl 0⟩ dX5_walkLoop_80 (fun p22 H locs S => ?_)
      refine jr_istore (pc := 83) C L dX5_walkLoop_83 (Nat.le_of_ble_eq_true rfl) (fun ls L => ?_)
      have L : jL ls [some (jR B a0), none, some (jI x2), some (jR B a3), some (jI x4), some (jI x5), some (jI x6), some (jI q21), some (jR B a8), some (jI x9), some (jR B q11)] := L
      refine jr_iload (pc := 85) C L dX5_walkLoop_85 rfl ?_
      refine jr_iconst (pc := 87) C dX5_walkLoop_87 ?_
      refine jr_iadd (pc := 88) C dX5_walkLoop_88 ?_
      refine jr_istore (pc := 89) C L dX5_walkLoop_89 (Nat.le_of_ble_eq_true rfl) (fun ls L => ?_)
      have L : jL ls [some (jR B a0), none, some (jI x2), some (jR B a3), some (jI x4), some (jI x5), some (jI (jw (x9 + 1))), some (jI q21), some (jR B a8), some (jI x9), some (jR B q11)] := L
      exact t_X5_walkLoop_b91 C hkr hrec K36 h_x2 h_x4 h_x5 (jIn_w _) p22 h_x9 S (L.sub (jsub_s (jsub_n (jsub_s (jsub_s (jsub_s (jsub_s (jsub_s (jsub_s (jsub_n (jsub_s (jsub_s jsub_0)))))))))))) hyp
    · have hyp := (if_neg c19).symm.trans hyp
      exact t_X5_walkLoop_b91 C hkr hrec K36 h_x2 h_x4 h_x5 h_x6 h_x7 h_x9 S (L.sub (jsub_s (jsub_n (jsub_s (jsub_s (jsub_s (jsub_s (jsub_s (jsub_s (jsub_n (jsub_s (jsub_s jsub_0)))))))))))) hyp
  · have hyp := (if_neg c9).symm.trans hyp
    refine jr_aload_n (pc := 101) C L dX5_walkLoop_101 rfl rfl ?_
    refine jr_iload (pc := 102) C L dX5_walkLoop_102 rfl ?_
    obtain ⟨u23, hu23, hyp⟩ := jbind hyp
    obtain ⟨q24, hq24, hyp⟩ := jbind hyp
    refine jr_callV_N (pc := 104) C S L (As := [jI x6]) (rest := []) (c_X5_put h_x6 hq24) mv_X5_put ml_X5_112 rfl (jck_spec hu23) (by omega) rfl rfl rfl (Nat.le_of_ble_eq_true rfl) ⟨Nat.le_refl 0, Nat.le_refl 0⟩ dX5_walkLoop_104 (fun p25 H locs S => ?_)
    refine jr_iload (pc := 107) C L dX5_walkLoop_107 rfl ?_
    refine jr_iconst (pc := 109) C dX5_walkLoop_109 ?_
    refine jr_isub (pc := 110) C dX5_walkLoop_110 ?_
    refine jr_istore (pc := 111) C L dX5_walkLoop_111 (Nat.le_of_ble_eq_true rfl) (fun ls L => ?_)
    have L : jL ls [some (jR B a0), none, some (jI x2), some (jR B a3), some (jI x4), some (jI x5), some (jI x6), some (jI x7), some (jR B a8), some (jI (jw (x6 - 1))), none] := L
    exact t_X5_walkLoop_l113 C hkr hrec  N a0 x2 a3 x4 (jw (x6 - 1)) h_x2 h_x4 (jIn_w _) q24 _ _ _ S (L.sub (jsub_s (jsub_n (jsub_s (jsub_s (jsub_s (jsub_n (jsub_n (jsub_n (jsub_n (jsub_s (jsub_n jsub_0)))))))))))) hyp
theorem t_X5_walkLoop_l36 {p : Program} {l : Launch} {e : Env} {s : State} {mi : MethodId} {args : Array Value} {below : List Frame} {meth : Method} {c : Code} {D : va_G} {cy : Nat → ClassId} {B sz : Nat} {sh : jm_S} {res : jm_M} {N : Nat} {rec : Nat → Int → Int → Nat → jm_M → Option jm_M} {kr : Nat} (C : jCx p s mi args meth c cX5_walkLoop 11 RX5 none D cy) (hkr : 27 ≤ kr) (hrec : ∀ (a0 : Nat) (x1 : Int) (x2 : Int) (a3 : Nat), jIn x1 → jIn x2 → ∀ (m : jm_M) (res : jm_M), rec a0 x1 x2 a3 m = some res → jCt l D cy B sz sh kr yX5_walk cX5_walk 4 none [jR B a0, jI x1, jI x2, jR B a3] m none res True) : ∀ (n : Nat) (a0 : Nat) (x2 : Int) (a3 : Nat) (x4 : Int) (x5 : Int) (x6 : Int) (x7 : Int) (a8 : Nat) (x9 : Int), jIn x2 → jIn x4 → jIn x5 → jIn x6 → jIn x7 → jIn x9 → ∀ (m : jm_M) (H : Heap) (locs : List Loc) (ls : Array Slot), jHs D cy B sz sh (jA B sz) s.heap H locs m → jL ls [some (jR B a0), none, some (jI x2), some (jR B a3), some (jI x4), some (jI x5), some (jI x6), some (jI x7), some (jR B a8), some (jI x9), none] → f_X5_walkLoop_l36 N sh rec n a0 x2 a3 x4 x5 x6 x7 a8 x9 m = some res → W p l e (jrm (kr + 1) 0 0) s mi args below meth c H locs 0 0 (MQ below (jQc D cy B sz sh res none True) args s 0 0 (jA B sz)) (F0 mi 36 ls []) := by
  intro n
  induction n with
  | zero => intro a0 x2 a3 x4 x5 x6 x7 a8 x9 h_x2 h_x4 h_x5 h_x6 h_x7 h_x9 m H locs ls S L hyp; cases hyp
  | succ n ih => intro a0 x2 a3 x4 x5 x6 x7 a8 x9 h_x2 h_x4 h_x5 h_x6 h_x7 h_x9 m H locs ls S L hyp; exact t_X5_walkLoop_b36 (N := N) C hkr hrec ih h_x2 h_x4 h_x5 h_x6 h_x7 h_x9 S L hyp
set_option maxHeartbeats 4000000 in
set_option maxRecDepth 100000 in
theorem t_X5_walkLoop_e {p : Program} {l : Launch} {e : Env} {s : State} {mi : MethodId} {args : Array Value} {below : List Frame} {meth : Method} {c : Code} {D : va_G} {cy : Nat → ClassId} {B sz : Nat} {sh : jm_S} {res : jm_M} {N : Nat} {rec : Nat → Int → Int → Nat → jm_M → Option jm_M} {kr : Nat} (C : jCx p s mi args meth c cX5_walkLoop 11 RX5 none D cy) (hkr : 27 ≤ kr) (hrec : ∀ (a0 : Nat) (x1 : Int) (x2 : Int) (a3 : Nat), jIn x1 → jIn x2 → ∀ (m : jm_M) (res : jm_M), rec a0 x1 x2 a3 m = some res → jCt l D cy B sz sh kr yX5_walk cX5_walk 4 none [jR B a0, jI x1, jI x2, jR B a3] m none res True) {a0 : Nat} {x1 : Int} (h_x1 : jIn x1) {x2 : Int} (h_x2 : jIn x2) {a3 : Nat} {m : jm_M} {H : Heap} {locs : List Loc} {ls : Array Slot} (S : jHs D cy B sz sh (jA B sz) s.heap H locs m) (L : jL ls [some (jR B a0), some (jI x1), some (jI x2), some (jR B a3), none, none, none, none, none, none, none]) (hyp : f_X5_walkLoop N sh rec a0 x1 x2 a3 m = some res) : W p l e (jrm (kr + 1) 0 0) s mi args below meth c H locs 0 0 (MQ below (jQc D cy B sz sh res none True) args s 0 0 (jA B sz)) (F0 mi 0 ls []) := by
  unfold f_X5_walkLoop at hyp
  refine jr_aload_n (pc := 0) C L dX5_walkLoop_0 rfl rfl ?_
  obtain ⟨v26, hv26, hyp⟩ := jbind hyp
  refine jr_getR (pc := 1) C S lf_X5_40 rfl hv26 dX5_walkLoop_1 ?_
  refine jr_iload_n (pc := 4) C L dX5_walkLoop_4 rfl rfl ?_
  obtain ⟨u27, hu27, hyp⟩ := jbind hyp
  obtain ⟨q28, hq28, hyp⟩ := jbind hyp
  refine jr_callV_I (pc := 5) C S L (As := [jI x1]) (rest := []) (c_X10_firstPart (m0 := m) h_x1 hq28) mv_X10_firstPart ml_X5_105 rfl (jck_spec hu27) (by omega) rfl rfl rfl (Nat.le_of_ble_eq_true rfl) ⟨Nat.le_refl 0, Nat.le_refl 0⟩ dX5_walkLoop_5 (fun p29 H locs S => ?_)
  refine jr_istore (pc := 8) C L dX5_walkLoop_8 (Nat.le_of_ble_eq_true rfl) (fun ls L => ?_)
  have L : jL ls [some (jR B a0), some (jI x1), some (jI x2), some (jR B a3), some (jI q28), none, none, none, none, none, none] := L
  refine jr_aload_n (pc := 10) C L dX5_walkLoop_10 rfl rfl ?_
  obtain ⟨v30, hv30, hyp⟩ := jbind hyp
  refine jr_getR (pc := 11) C S lf_X5_40 rfl hv30 dX5_walkLoop_11 ?_
  refine jr_iload_n (pc := 14) C L dX5_walkLoop_14 rfl rfl ?_
  obtain ⟨u31, hu31, hyp⟩ := jbind hyp
  obtain ⟨q32, hq32, hyp⟩ := jbind hyp
  refine jr_callV_I (pc := 15) C S L (As := [jI x1]) (rest := []) (c_X10_timesAt (m0 := m) h_x1 hq32) mv_X10_timesAt ml_X5_116 rfl (jck_spec hu31) (by omega) rfl rfl rfl (Nat.le_of_ble_eq_true rfl) ⟨Nat.le_refl 0, Nat.le_refl 0⟩ dX5_walkLoop_15 (fun p33 H locs S => ?_)
  refine jr_istore (pc := 18) C L dX5_walkLoop_18 (Nat.le_of_ble_eq_true rfl) (fun ls L => ?_)
  have L : jL ls [some (jR B a0), some (jI x1), some (jI x2), some (jR B a3), some (jI q28), some (jI q32), none, none, none, none, none] := L
  refine jr_iconst (pc := 20) C dX5_walkLoop_20 ?_
  refine jr_istore (pc := 21) C L dX5_walkLoop_21 (Nat.le_of_ble_eq_true rfl) (fun ls L => ?_)
  have L : jL ls [some (jR B a0), some (jI x1), some (jI x2), some (jR B a3), some (jI q28), some (jI q32), some (jI 0), none, none, none, none] := L
  refine jr_aload_n (pc := 23) C L dX5_walkLoop_23 rfl rfl ?_
  refine jr_aload_n (pc := 24) C L dX5_walkLoop_24 rfl rfl ?_
  obtain ⟨u34, hu34, hyp⟩ := jbind hyp
  obtain ⟨q35, hq35, hyp⟩ := jbind hyp
  refine jr_callV_I (pc := 25) C S L (As := [jR B a3]) (rest := []) (c_X5_costHere (m0 := m)  hq35) mv_X5_costHere ml_X5_108 rfl (jck_spec hu34) (by omega) rfl rfl rfl (Nat.le_of_ble_eq_true rfl) ⟨Nat.le_refl 0, Nat.le_refl 0⟩ dX5_walkLoop_25 (fun p36 H locs S => ?_)
  refine jr_istore (pc := 28) C L dX5_walkLoop_28 (Nat.le_of_ble_eq_true rfl) (fun ls L => ?_)
  have L : jL ls [some (jR B a0), some (jI x1), some (jI x2), some (jR B a3), some (jI q28), some (jI q32), some (jI 0), some (jI q35), none, none, none] := L
  refine jr_aload_n (pc := 30) C L dX5_walkLoop_30 rfl rfl ?_
  refine jr_astore (pc := 31) C L dX5_walkLoop_31 (Nat.le_of_ble_eq_true rfl) (fun ls L => ?_)
  have L : jL ls [some (jR B a0), some (jI x1), some (jI x2), some (jR B a3), some (jI q28), some (jI q32), some (jI 0), some (jI q35), some (jR B a3), none, none] := L
  refine jr_iconst (pc := 33) C dX5_walkLoop_33 ?_
  refine jr_istore (pc := 34) C L dX5_walkLoop_34 (Nat.le_of_ble_eq_true rfl) (fun ls L => ?_)
  have L : jL ls [some (jR B a0), some (jI x1), some (jI x2), some (jR B a3), some (jI q28), some (jI q32), some (jI 0), some (jI q35), some (jR B a3), some (jI 0), none] := L
  exact t_X5_walkLoop_l36 C hkr hrec  N a0 x2 a3 q28 q32 0 q35 a3 0 h_x2 p29 p33 (show jIn 0 from ⟨by decide, by decide⟩) p36 (show jIn 0 from ⟨by decide, by decide⟩) m _ _ _ S (L.sub (jsub_s (jsub_n (jsub_s (jsub_s (jsub_s (jsub_s (jsub_s (jsub_s (jsub_s (jsub_s (jsub_n jsub_0)))))))))))) hyp
theorem c_X5_walkLoop {l : Launch} {D : va_G} {cy : Nat → ClassId} {B sz : Nat} {sh : jm_S} {res : jm_M} {N : Nat} {rec : Nat → Int → Int → Nat → jm_M → Option jm_M} {kr : Nat} {m : jm_M} (hkr : 27 ≤ kr) (hrec : ∀ (a0 : Nat) (x1 : Int) (x2 : Int) (a3 : Nat), jIn x1 → jIn x2 → ∀ (m : jm_M) (res : jm_M), rec a0 x1 x2 a3 m = some res → jCt l D cy B sz sh kr yX5_walk cX5_walk 4 none [jR B a0, jI x1, jI x2, jR B a3] m none res True) {a0 : Nat} {x1 : Int} (h_x1 : jIn x1) {x2 : Int} (h_x2 : jIn x2) {a3 : Nat} (hyp : f_X5_walkLoop N sh rec a0 x1 x2 a3 m = some res) : jCt l D cy B sz sh (kr + 1) yX5_walkLoop cX5_walkLoop 11 none [jR B a0, jI x1, jI x2, jR B a3] m none res True :=
  jc_of (by decide) (fun v h => by simp only [List.mem_cons, List.not_mem_nil, or_false] at h; rcases h with rfl | rfl | rfl | rfl <;> first | rfl | exact jR_cat _ _) (Nat.le_of_ble_eq_true rfl) (fun C S L => t_X5_walkLoop_e C hkr hrec h_x1 h_x2 S L hyp)
set_option maxHeartbeats 4000000 in
set_option maxRecDepth 100000 in
theorem t_X5_walk_b100 {p : Program} {l : Launch} {e : Env} {s : State} {mi : MethodId} {args : Array Value} {below : List Frame} {meth : Method} {c : Code} {D : va_G} {cy : Nat → ClassId} {B sz : Nat} {sh : jm_S} {res : jm_M} {N : Nat} {rec : Nat → Int → Int → Nat → jm_M → Option jm_M} {kr : Nat} (C : jCx p s mi args meth c cX5_walk 4 RX5 none D cy) (hkr : 27 ≤ kr) (hrec : ∀ (a0 : Nat) (x1 : Int) (x2 : Int) (a3 : Nat), jIn x1 → jIn x2 → ∀ (m : jm_M) (res : jm_M), rec a0 x1 x2 a3 m = some res → jCt l D cy B sz sh kr yX5_walk cX5_walk 4 none [jR B a0, jI x1, jI x2, jR B a3] m none res True) {a0 : Nat} {x1 : Int} (h_x1 : jIn x1) {x2 : Int} (h_x2 : jIn x2) {a3 : Nat} {m : jm_M} {H : Heap} {locs : List Loc} {ls : Array Slot} (S : jHs D cy B sz sh (jA B sz) s.heap H locs m) (L : jL ls [some (jR B a0), some (jI x1), some (jI x2), some (jR B a3)]) (hyp : f_X5_walk_b100 N sh rec a0 x1 x2 a3 m = some res) : W p l e (jrm (kr + 3) 0 0) s mi args below meth c H locs 0 0 (MQ below (jQc D cy B sz sh res none True) args s 0 0 (jA B sz)) (F0 mi 100 ls []) := by
  unfold f_X5_walk_b100 at hyp
  refine jr_aload_n (pc := 100) C L dX5_walk_100 rfl rfl ?_
  refine jr_iload_n (pc := 101) C L dX5_walk_101 rfl rfl ?_
  refine jr_iload_n (pc := 102) C L dX5_walk_102 rfl rfl ?_
  refine jr_aload_n (pc := 103) C L dX5_walk_103 rfl rfl ?_
  obtain ⟨u1, hu1, hyp⟩ := jbind hyp
  obtain ⟨q2, hq2, hyp⟩ := jbind hyp
  refine jr_callV_N (pc := 104) C S L (As := [jI x1, jI x2, jR B a3]) (rest := []) (c_X5_walkLoop (kr := kr) (by omega) hrec h_x1 h_x2 hq2) mv_X5_walkLoop ml_X5_84 rfl (jck_spec hu1) (by omega) rfl rfl rfl (Nat.le_of_ble_eq_true rfl) ⟨Nat.le_refl 0, Nat.le_refl 0⟩ dX5_walk_104 (fun p3 H locs S => ?_)
  refine jr_goto (pc := 107) C (tgt := 138) dX5_walk_107 (by decide) ?_
  cases hyp
  exact jr_vret C S trivial dX5_walk_138
set_option maxHeartbeats 4000000 in
set_option maxRecDepth 100000 in
theorem t_X5_walk_e {p : Program} {l : Launch} {e : Env} {s : State} {mi : MethodId} {args : Array Value} {below : List Frame} {meth : Method} {c : Code} {D : va_G} {cy : Nat → ClassId} {B sz : Nat} {sh : jm_S} {res : jm_M} {N : Nat} {rec : Nat → Int → Int → Nat → jm_M → Option jm_M} {kr : Nat} (C : jCx p s mi args meth c cX5_walk 4 RX5 none D cy) (hkr : 27 ≤ kr) (hrec : ∀ (a0 : Nat) (x1 : Int) (x2 : Int) (a3 : Nat), jIn x1 → jIn x2 → ∀ (m : jm_M) (res : jm_M), rec a0 x1 x2 a3 m = some res → jCt l D cy B sz sh kr yX5_walk cX5_walk 4 none [jR B a0, jI x1, jI x2, jR B a3] m none res True) {a0 : Nat} {x1 : Int} (h_x1 : jIn x1) {x2 : Int} (h_x2 : jIn x2) {a3 : Nat} {m : jm_M} {H : Heap} {locs : List Loc} {ls : Array Slot} (S : jHs D cy B sz sh (jA B sz) s.heap H locs m) (L : jL ls [some (jR B a0), some (jI x1), some (jI x2), some (jR B a3)]) (hyp : f_X5_walk_e N sh rec a0 x1 x2 a3 m = some res) : W p l e (jrm (kr + 3) 0 0) s mi args below meth c H locs 0 0 (MQ below (jQc D cy B sz sh res none True) args s 0 0 (jA B sz)) (F0 mi 0 ls []) := by
  unfold f_X5_walk_e at hyp
  refine jr_iload_n (pc := 0) C L dX5_walk_0 rfl rfl ?_
  refine jr_iconst (pc := 1) C dX5_walk_1 ?_
  refine jr_icmp_gt (pc := 2) C h_x2 (show jIn 4 from ⟨by decide, by decide⟩) (tgt := 14) dX5_walk_2 (by decide) (fun c4 => ?_) (fun c4 => ?_)
  · have hyp := (if_pos c4).symm.trans hyp
    cases hyp
    exact jr_vret C S trivial dX5_walk_14
  · have hyp := (if_neg c4).symm.trans hyp
    refine jr_aload_n (pc := 5) C L dX5_walk_5 rfl rfl ?_
    obtain ⟨v5, hv5, hyp⟩ := jbind hyp
    have iv5 := jrf_in S hv5
    refine jr_getI (pc := 6) C S lf_X5_52 rfl hv5 dX5_walk_6 ?_
    refine jr_bipush (pc := 9) C dX5_walk_9 (by decide) ?_
    refine jr_icmp_le (pc := 11) C iv5 (show jIn 20 from ⟨by decide, by decide⟩) (tgt := 15) dX5_walk_11 (by decide) (fun c6 => ?_) (fun c6 => ?_)
    · have hyp := (if_pos c6).symm.trans hyp
      cases hyp
      exact jr_vret C S trivial dX5_walk_14
    · have hyp := (if_neg c6).symm.trans hyp
      refine jr_aload_n (pc := 15) C L dX5_walk_15 rfl rfl ?_
      obtain ⟨v7, hv7, hyp⟩ := jbind hyp
      refine jr_getR (pc := 16) C S lf_X5_40 rfl hv7 dX5_walk_16 ?_
      refine jr_iload_n (pc := 19) C L dX5_walk_19 rfl rfl ?_
      obtain ⟨u8, hu8, hyp⟩ := jbind hyp
      obtain ⟨q9, hq9, hyp⟩ := jbind hyp
      refine jr_callV_I (pc := 20) C S L (As := [jI x1]) (rest := []) (c_X10_signAt (m0 := m) h_x1 hq9) mv_X10_signAt ml_X5_75 rfl (jck_spec hu8) (by omega) rfl rfl rfl (Nat.le_of_ble_eq_true rfl) ⟨Nat.le_refl 0, Nat.le_refl 0⟩ dX5_walk_20 (fun p10 H locs S => ?_)
      by_cases c11 : (45 : Int) = q9
      · have hyp := (if_pos c11).symm.trans hyp
        refine jr_lookup (pc := 23) C p10 (off := 87) (tgt := 110) dX5_walk_23 rfl (if_pos c11) (by decide) ?_
        refine jr_goto (pc := 110) C (tgt := 138) dX5_walk_110 (by decide) ?_
        cases hyp
        exact jr_vret C S trivial dX5_walk_138
      have hyp := (if_neg c11).symm.trans hyp
      by_cases c12 : (59 : Int) = q9
      · have hyp := (if_pos c12).symm.trans hyp
        refine jr_lookup (pc := 23) C p10 (off := 57) (tgt := 80) dX5_walk_23 rfl ((if_neg c11).trans (if_pos c12)) (by decide) ?_
        refine jr_aload_n (pc := 80) C L dX5_walk_80 rfl rfl ?_
        refine jr_iload_n (pc := 81) C L dX5_walk_81 rfl rfl ?_
        refine jr_iload_n (pc := 82) C L dX5_walk_82 rfl rfl ?_
        refine jr_aload_n (pc := 83) C L dX5_walk_83 rfl rfl ?_
        obtain ⟨u13, hu13, hyp⟩ := jbind hyp
        obtain ⟨q14, hq14, hyp⟩ := jbind hyp
        refine jr_callV_N (pc := 84) C S L (As := [jI x1, jI x2, jR B a3]) (rest := []) (c_X5_walkBoth (kr := kr) (by omega) hrec h_x1 h_x2 hq14) mv_X5_walkBoth ml_X5_78 rfl (jck_spec hu13) (by omega) rfl rfl rfl (Nat.le_of_ble_eq_true rfl) ⟨Nat.le_refl 0, Nat.le_refl 0⟩ dX5_walk_84 (fun p15 H locs S => ?_)
        refine jr_goto (pc := 87) C (tgt := 138) dX5_walk_87 (by decide) ?_
        cases hyp
        exact jr_vret C S trivial dX5_walk_138
      have hyp := (if_neg c12).symm.trans hyp
      by_cases c16 : (63 : Int) = q9
      · have hyp := (if_pos c16).symm.trans hyp
        refine jr_lookup (pc := 23) C p10 (off := 67) (tgt := 90) dX5_walk_23 rfl ((if_neg c11).trans ((if_neg c12).trans (if_pos c16))) (by decide) ?_
        refine jr_aload_n (pc := 90) C L dX5_walk_90 rfl rfl ?_
        refine jr_iload_n (pc := 91) C L dX5_walk_91 rfl rfl ?_
        refine jr_iload_n (pc := 92) C L dX5_walk_92 rfl rfl ?_
        refine jr_aload_n (pc := 93) C L dX5_walk_93 rfl rfl ?_
        obtain ⟨u17, hu17, hyp⟩ := jbind hyp
        obtain ⟨q18, hq18, hyp⟩ := jbind hyp
        refine jr_callV_N (pc := 94) C S L (As := [jI x1, jI x2, jR B a3]) (rest := []) (c_X5_walkOne (kr := kr) (by omega) hrec h_x1 h_x2 hq18) mv_X5_walkOne ml_X5_81 rfl (jck_spec hu17) (by omega) rfl rfl rfl (Nat.le_of_ble_eq_true rfl) ⟨Nat.le_refl 0, Nat.le_refl 0⟩ dX5_walk_94 (fun p19 H locs S => ?_)
        refine jr_goto (pc := 97) C (tgt := 138) dX5_walk_97 (by decide) ?_
        cases hyp
        exact jr_vret C S trivial dX5_walk_138
      have hyp := (if_neg c16).symm.trans hyp
      by_cases c20 : (98 : Int) = q9
      · have hyp := (if_pos c20).symm.trans hyp
        refine jr_lookup (pc := 23) C p10 (off := 77) (tgt := 100) dX5_walk_23 rfl ((if_neg c11).trans ((if_neg c12).trans ((if_neg c16).trans (if_pos c20)))) (by decide) ?_
        exact t_X5_walk_b100 C hkr hrec  h_x1 h_x2 S (L.sub (jsub_s (jsub_s (jsub_s (jsub_s jsub_0))))) hyp
      have hyp := (if_neg c20).symm.trans hyp
      by_cases c21 : (99 : Int) = q9
      · have hyp := (if_pos c21).symm.trans hyp
        refine jr_lookup (pc := 23) C p10 (off := 77) (tgt := 100) dX5_walk_23 rfl ((if_neg c11).trans ((if_neg c12).trans ((if_neg c16).trans ((if_neg c20).trans (if_pos c21))))) (by decide) ?_
        exact t_X5_walk_b100 C hkr hrec  h_x1 h_x2 S (L.sub (jsub_s (jsub_s (jsub_s (jsub_s jsub_0))))) hyp
      have hyp := (if_neg c21).symm.trans hyp
      by_cases c22 : (100 : Int) = q9
      · have hyp := (if_pos c22).symm.trans hyp
        refine jr_lookup (pc := 23) C p10 (off := 77) (tgt := 100) dX5_walk_23 rfl ((if_neg c11).trans ((if_neg c12).trans ((if_neg c16).trans ((if_neg c20).trans ((if_neg c21).trans (if_pos c22)))))) (by decide) ?_
        exact t_X5_walk_b100 C hkr hrec  h_x1 h_x2 S (L.sub (jsub_s (jsub_s (jsub_s (jsub_s jsub_0))))) hyp
      have hyp := (if_neg c22).symm.trans hyp
      refine jr_lookup (pc := 23) C p10 (off := 90) (tgt := 113) dX5_walk_23 rfl ((if_neg c11).trans ((if_neg c12).trans ((if_neg c16).trans ((if_neg c20).trans ((if_neg c21).trans ((if_neg c22).trans rfl)))))) (by decide) ?_
      refine jr_aload_n (pc := 113) C L dX5_walk_113 rfl rfl ?_
      refine jr_aload_n (pc := 114) C L dX5_walk_114 rfl rfl ?_
      obtain ⟨v23, hv23, hyp⟩ := jbind hyp
      refine jr_getR (pc := 115) C S lf_X5_30 rfl hv23 dX5_walk_115 ?_
      refine jr_aload_n (pc := 118) C L dX5_walk_118 rfl rfl ?_
      obtain ⟨v24, hv24, hyp⟩ := jbind hyp
      refine jr_getR (pc := 119) C S lf_X5_40 rfl hv24 dX5_walk_119 ?_
      refine jr_iload_n (pc := 122) C L dX5_walk_122 rfl rfl ?_
      obtain ⟨u25, hu25, hyp⟩ := jbind hyp
      obtain ⟨q26, hq26, hyp⟩ := jbind hyp
      refine jr_callV_I (pc := 123) C S L (As := [jI x1]) (rest := [jR B v23.toNat, jR B a0]) (c_X10_lineAt (m0 := m) h_x1 hq26) mv_X10_lineAt ml_X5_87 rfl (jck_spec hu25) (by omega) rfl rfl rfl (by simp [jR_cat, jI_cat]) ⟨Nat.le_refl 0, Nat.le_refl 0⟩ dX5_walk_123 (fun p27 H locs S => ?_)
      refine jr_aload_n (pc := 126) C L dX5_walk_126 rfl rfl ?_
      obtain ⟨v28, hv28, hyp⟩ := jbind hyp
      have iv28 := jrf_in S hv28
      refine jr_getI (pc := 127) C S lf_X5_55 rfl hv28 dX5_walk_127 ?_
      obtain ⟨u29, hu29, hyp⟩ := jbind hyp
      obtain ⟨q30, hq30, hyp⟩ := jbind hyp
      refine jr_callV_I (pc := 130) C S L (As := [jI q26, jI v28]) (rest := [jR B a0]) (c_X7_stepOf (m0 := m) p27 iv28 hq30) mv_X7_stepOf ml_X5_90 rfl (jck_spec hu29) (by omega) rfl rfl rfl (by simp [jR_cat, jI_cat]) ⟨Nat.le_refl 0, Nat.le_refl 0⟩ dX5_walk_130 (fun p31 H locs S => ?_)
      refine jr_iconst (pc := 133) C dX5_walk_133 ?_
      refine jr_ishr (pc := 134) C dX5_walk_134 ?_
      obtain ⟨m32, hm32, hyp⟩ := jbind hyp
      refine jr_putI (pc := 135) C S lf_X5_55 fp_X5_1 rfl (jIn_shr _ _) hm32 dX5_walk_135 (fun H locs S => ?_)
      cases hyp
      exact jr_vret C S trivial dX5_walk_138
theorem ce_X5_walk {l : Launch} {D : va_G} {cy : Nat → ClassId} {B sz : Nat} {sh : jm_S} {res : jm_M} {N : Nat} {rec : Nat → Int → Int → Nat → jm_M → Option jm_M} {kr : Nat} {m : jm_M} (hkr : 27 ≤ kr) (hrec : ∀ (a0 : Nat) (x1 : Int) (x2 : Int) (a3 : Nat), jIn x1 → jIn x2 → ∀ (m : jm_M) (res : jm_M), rec a0 x1 x2 a3 m = some res → jCt l D cy B sz sh kr yX5_walk cX5_walk 4 none [jR B a0, jI x1, jI x2, jR B a3] m none res True) {a0 : Nat} {x1 : Int} (h_x1 : jIn x1) {x2 : Int} (h_x2 : jIn x2) {a3 : Nat} (hyp : f_X5_walk_e N sh rec a0 x1 x2 a3 m = some res) : jCt l D cy B sz sh (kr + 3) yX5_walk cX5_walk 4 none [jR B a0, jI x1, jI x2, jR B a3] m none res True :=
  jc_of (by decide) (fun v h => by simp only [List.mem_cons, List.not_mem_nil, or_false] at h; rcases h with rfl | rfl | rfl | rfl <;> first | rfl | exact jR_cat _ _) (Nat.le_of_ble_eq_true rfl) (fun C S L => t_X5_walk_e C hkr hrec h_x1 h_x2 S L hyp)
theorem cd_X5_walk {l : Launch} {D : va_G} {cy : Nat → ClassId} {B sz : Nat} {sh : jm_S} {N : Nat} : ∀ (d : Nat) (a0 : Nat) (x1 : Int) (x2 : Int) (a3 : Nat), jIn x1 → jIn x2 → ∀ (m : jm_M) (res : jm_M), f_X5_walk N sh d a0 x1 x2 a3 m = some res → jCt l D cy B sz sh (27 + 3 * d) yX5_walk cX5_walk 4 none [jR B a0, jI x1, jI x2, jR B a3] m none res True := by
  intro d
  induction d with
  | zero => intro a0 x1 x2 a3 h_x1 h_x2 m res hyp; cases hyp
  | succ d ih =>
    intro a0 x1 x2 a3 h_x1 h_x2 m res hyp
    have h := ce_X5_walk (kr := 27 + 3 * d) (l := l) (D := D) (cy := cy) (B := B) (sz := sz) (by omega) ih h_x1 h_x2 hyp
    rwa [show 27 + 3 * d + 3 = 27 + 3 * (d + 1) by omega] at h
set_option maxHeartbeats 4000000 in
set_option maxRecDepth 100000 in
theorem t_X5_find_b85 {p : Program} {l : Launch} {e : Env} {s : State} {mi : MethodId} {args : Array Value} {below : List Frame} {meth : Method} {c : Code} {D : va_G} {cy : Nat → ClassId} {B sz : Nat} {sh : jm_S} {res : jm_M} {N : Nat} (C : jCx p s mi args meth c cX5_find 3 RX5 none D cy) {a0 : Nat} {m : jm_M} {H : Heap} {locs : List Loc} {ls : Array Slot} (S : jHs D cy B sz sh (jA B sz) s.heap H locs m) (L : jL ls [some (jR B a0), none, none]) (hyp : f_X5_find_b85 N sh a0 m = some res) : W p l e (jrm 52 0 0) s mi args below meth c H locs 0 0 (MQ below (jQc D cy B sz sh res none True) args s 0 0 (jA B sz)) (F0 mi 85 ls []) := by
  unfold f_X5_find_b85 at hyp
  refine jr_aload_n (pc := 85) C L dX5_find_85 rfl rfl ?_
  refine jr_iconst (pc := 86) C dX5_find_86 ?_
  refine jr_iconst (pc := 87) C dX5_find_87 ?_
  refine jr_aload_n (pc := 88) C L dX5_find_88 rfl rfl ?_
  obtain ⟨v1, hv1, hyp⟩ := jbind hyp
  refine jr_getR (pc := 89) C S lf_X5_15 rfl hv1 dX5_find_89 ?_
  obtain ⟨u2, hu2, hyp⟩ := jbind hyp
  obtain ⟨q3, hq3, hyp⟩ := jbind hyp
  refine jr_callV_N (pc := 92) C S L (As := [jI 0, jI 0, jR B v1.toNat]) (rest := []) (cd_X5_walk 8 a0 0 0 v1.toNat (show jIn 0 from ⟨by decide, by decide⟩) (show jIn 0 from ⟨by decide, by decide⟩) m q3 hq3) mv_X5_walk ml_X5_71 rfl (jck_spec hu2) (by decide) rfl rfl rfl (Nat.le_of_ble_eq_true rfl) ⟨Nat.le_refl 0, Nat.le_refl 0⟩ dX5_find_92 (fun p4 H locs S => ?_)
  cases hyp
  exact jr_vret C S trivial dX5_find_95
set_option maxHeartbeats 4000000 in
set_option maxRecDepth 100000 in
theorem t_X5_find_b52 {p : Program} {l : Launch} {e : Env} {s : State} {mi : MethodId} {args : Array Value} {below : List Frame} {meth : Method} {c : Code} {D : va_G} {cy : Nat → ClassId} {B sz : Nat} {sh : jm_S} {res : jm_M} {N : Nat} {k52 : Nat → Int → jm_M → Option jm_M} (C : jCx p s mi args meth c cX5_find 3 RX5 none D cy) (K52 : ∀ (a0 : Nat) (x2 : Int) , jIn x2 → ∀ (m : jm_M) (H : Heap) (locs : List Loc) (ls : Array Slot), jHs D cy B sz sh (jA B sz) s.heap H locs m → jL ls [some (jR B a0), none, some (jI x2)] → k52 a0 x2 m = some res → W p l e (jrm 52 0 0) s mi args below meth c H locs 0 0 (MQ below (jQc D cy B sz sh res none True) args s 0 0 (jA B sz)) (F0 mi 52 ls [])) {a0 : Nat} {x2 : Int} (h_x2 : jIn x2) {m : jm_M} {H : Heap} {locs : List Loc} {ls : Array Slot} (S : jHs D cy B sz sh (jA B sz) s.heap H locs m) (L : jL ls [some (jR B a0), none, some (jI x2)]) (hyp : f_X5_find_b52 N sh k52 a0 x2 m = some res) : W p l e (jrm 52 0 0) s mi args below meth c H locs 0 0 (MQ below (jQc D cy B sz sh res none True) args s 0 0 (jA B sz)) (F0 mi 52 ls []) := by
  unfold f_X5_find_b52 at hyp
  refine jr_iload_n (pc := 52) C L dX5_find_52 rfl rfl ?_
  refine jr_aload_n (pc := 53) C L dX5_find_53 rfl rfl ?_
  obtain ⟨v5, hv5, hyp⟩ := jbind hyp
  refine jr_getR (pc := 54) C S lf_X5_30 rfl hv5 dX5_find_54 ?_
  obtain ⟨v6, hv6, hyp⟩ := jbind hyp
  have iv6 := jrf_in S hv6
  refine jr_getI (pc := 57) C S lf_X5_70 rfl hv6 dX5_find_57 ?_
  refine jr_icmp_ge (pc := 60) C h_x2 iv6 (tgt := 85) dX5_find_60 (by decide) (fun c7 => ?_) (fun c7 => ?_)
  · have hyp := (if_pos c7).symm.trans hyp
    refine jr_iload_n (pc := 63) C L dX5_find_63 rfl rfl ?_
    refine jr_aload_n (pc := 64) C L dX5_find_64 rfl rfl ?_
    obtain ⟨v8, hv8, hyp⟩ := jbind hyp
    refine jr_getR (pc := 65) C S lf_X5_15 rfl hv8 dX5_find_65 ?_
    obtain ⟨v9, hv9, hyp⟩ := jbind hyp
    refine jr_alen (pc := 68) C S hv9 dX5_find_68 ?_
    refine jr_icmp_ge (pc := 69) C h_x2 (jlen_in hv9) (tgt := 85) dX5_find_69 (by decide) (fun c10 => ?_) (fun c10 => ?_)
    · have hyp := (if_pos c10).symm.trans hyp
      refine jr_aload_n (pc := 72) C L dX5_find_72 rfl rfl ?_
      obtain ⟨v11, hv11, hyp⟩ := jbind hyp
      refine jr_getR (pc := 73) C S lf_X5_15 rfl hv11 dX5_find_73 ?_
      refine jr_iload_n (pc := 76) C L dX5_find_76 rfl rfl ?_
      refine jr_iconst (pc := 77) C dX5_find_77 ?_
      obtain ⟨m12, hm12, hyp⟩ := jbind hyp
      refine jr_ias (pc := 78) C S h_x2 (show jIn 0 from ⟨by decide, by decide⟩) hm12 dX5_find_78 (fun H locs S => ?_)
      refine jr_iinc (pc := 79) C L dX5_find_79 rfl (Nat.le_of_ble_eq_true rfl) (fun ls L => ?_)
      have L : jL ls [some (jR B a0), none, some (jI (jw (x2 + 1)))] := L
      refine jr_goto (pc := 82) C (tgt := 52) dX5_find_82 (by decide) ?_
      exact K52 a0 (jw (x2 + 1)) (jIn_w _) m12 _ _ _ S (L.sub (jsub_s (jsub_n (jsub_s jsub_0)))) hyp
    · have hyp := (if_neg c10).symm.trans hyp
      exact t_X5_find_b85 C    S (L.sub (jsub_s (jsub_n (jsub_n jsub_0)))) hyp
  · have hyp := (if_neg c7).symm.trans hyp
    exact t_X5_find_b85 C    S (L.sub (jsub_s (jsub_n (jsub_n jsub_0)))) hyp
theorem t_X5_find_l52 {p : Program} {l : Launch} {e : Env} {s : State} {mi : MethodId} {args : Array Value} {below : List Frame} {meth : Method} {c : Code} {D : va_G} {cy : Nat → ClassId} {B sz : Nat} {sh : jm_S} {res : jm_M} {N : Nat} (C : jCx p s mi args meth c cX5_find 3 RX5 none D cy) : ∀ (n : Nat) (a0 : Nat) (x2 : Int), jIn x2 → ∀ (m : jm_M) (H : Heap) (locs : List Loc) (ls : Array Slot), jHs D cy B sz sh (jA B sz) s.heap H locs m → jL ls [some (jR B a0), none, some (jI x2)] → f_X5_find_l52 N sh n a0 x2 m = some res → W p l e (jrm 52 0 0) s mi args below meth c H locs 0 0 (MQ below (jQc D cy B sz sh res none True) args s 0 0 (jA B sz)) (F0 mi 52 ls []) := by
  intro n
  induction n with
  | zero => intro a0 x2 h_x2 m H locs ls S L hyp; cases hyp
  | succ n ih => intro a0 x2 h_x2 m H locs ls S L hyp; exact t_X5_find_b52 (N := N) C  ih h_x2 S L hyp
set_option maxHeartbeats 4000000 in
set_option maxRecDepth 100000 in
theorem t_X5_find_e {p : Program} {l : Launch} {e : Env} {s : State} {mi : MethodId} {args : Array Value} {below : List Frame} {meth : Method} {c : Code} {D : va_G} {cy : Nat → ClassId} {B sz : Nat} {sh : jm_S} {res : jm_M} {N : Nat} (C : jCx p s mi args meth c cX5_find 3 RX5 none D cy) {a0 : Nat} {a1 : Nat} {m : jm_M} {H : Heap} {locs : List Loc} {ls : Array Slot} (S : jHs D cy B sz sh (jA B sz) s.heap H locs m) (L : jL ls [some (jR B a0), some (jR B a1), none]) (hyp : f_X5_find N sh a0 a1 m = some res) : W p l e (jrm 52 0 0) s mi args below meth c H locs 0 0 (MQ below (jQc D cy B sz sh res none True) args s 0 0 (jA B sz)) (F0 mi 0 ls []) := by
  unfold f_X5_find at hyp
  refine jr_aload_n (pc := 0) C L dX5_find_0 rfl rfl ?_
  refine jr_aload_n (pc := 1) C L dX5_find_1 rfl rfl ?_
  obtain ⟨m13, hm13, hyp⟩ := jbind hyp
  refine jr_putW (pc := 2) C S lf_X5_40 fp_X5_3 rfl hm13 dX5_find_2 (fun H locs S => ?_)
  refine jr_aload_n (pc := 5) C L dX5_find_5 rfl rfl ?_
  refine jr_aload_n (pc := 6) C L dX5_find_6 rfl rfl ?_
  obtain ⟨v14, hv14, hyp⟩ := jbind hyp
  refine jr_getR (pc := 7) C S lf_X5_26 rfl hv14 dX5_find_7 ?_
  refine jr_iconst (pc := 10) C dX5_find_10 ?_
  obtain ⟨u15, hu15, hyp⟩ := jbind hyp
  obtain ⟨q16, hq16, hyp⟩ := jbind hyp
  refine jr_callV_I (pc := 11) C S L (As := [jI 2]) (rest := [jR B a0]) (c_X1_setting (m0 := m13) (show jIn 2 from ⟨by decide, by decide⟩) hq16) mv_X1_setting ml_X5_44 rfl (jck_spec hu15) (by decide) rfl rfl rfl (by simp [jR_cat, jI_cat]) ⟨Nat.le_refl 0, Nat.le_refl 0⟩ dX5_find_11 (fun p17 H locs S => ?_)
  obtain ⟨m18, hm18, hyp⟩ := jbind hyp
  refine jr_putI (pc := 14) C S lf_X5_48 fp_X5_2 rfl p17 hm18 dX5_find_14 (fun H locs S => ?_)
  refine jr_aload_n (pc := 17) C L dX5_find_17 rfl rfl ?_
  refine jr_iconst (pc := 18) C dX5_find_18 ?_
  obtain ⟨m19, hm19, hyp⟩ := jbind hyp
  refine jr_putI (pc := 19) C S lf_X5_52 fp_X5_0 rfl (show jIn 0 from ⟨by decide, by decide⟩) hm19 dX5_find_19 (fun H locs S => ?_)
  refine jr_aload_n (pc := 22) C L dX5_find_22 rfl rfl ?_
  refine jr_iconst (pc := 23) C dX5_find_23 ?_
  obtain ⟨m20, hm20, hyp⟩ := jbind hyp
  refine jr_putI (pc := 24) C S lf_X5_55 fp_X5_1 rfl (show jIn 0 from ⟨by decide, by decide⟩) hm20 dX5_find_24 (fun H locs S => ?_)
  refine jr_aload_n (pc := 27) C L dX5_find_27 rfl rfl ?_
  obtain ⟨v21, hv21, hyp⟩ := jbind hyp
  refine jr_getR (pc := 28) C S lf_X5_30 rfl hv21 dX5_find_28 ?_
  refine jr_aload_n (pc := 31) C L dX5_find_31 rfl rfl ?_
  obtain ⟨v22, hv22, hyp⟩ := jbind hyp
  refine jr_getR (pc := 32) C S lf_X5_26 rfl hv22 dX5_find_32 ?_
  refine jr_aload_n (pc := 35) C L dX5_find_35 rfl rfl ?_
  obtain ⟨v23, hv23, hyp⟩ := jbind hyp
  refine jr_getR (pc := 36) C S lf_X5_26 rfl hv23 dX5_find_36 ?_
  refine jr_iconst (pc := 39) C dX5_find_39 ?_
  obtain ⟨u24, hu24, hyp⟩ := jbind hyp
  obtain ⟨q25, hq25, hyp⟩ := jbind hyp
  refine jr_callV_I (pc := 40) C S L (As := [jI 3]) (rest := [jR B v22.toNat, jR B v21.toNat]) (c_X1_setting (m0 := m20) (show jIn 3 from ⟨by decide, by decide⟩) hq25) mv_X1_setting ml_X5_44 rfl (jck_spec hu24) (by decide) rfl rfl rfl (by simp [jR_cat, jI_cat]) ⟨Nat.le_refl 0, Nat.le_refl 0⟩ dX5_find_40 (fun p26 H locs S => ?_)
  refine jr_aload_n (pc := 43) C L dX5_find_43 rfl rfl ?_
  obtain ⟨u27, hu27, hyp⟩ := jbind hyp
  obtain ⟨q28, hq28, hyp⟩ := jbind hyp
  refine jr_callV_I (pc := 44) C S L (As := []) (rest := [jI q25, jR B v22.toNat, jR B v21.toNat]) (c_X10_allLines (m0 := m20)  hq28) mv_X10_allLines ml_X5_58 rfl (jck_spec hu27) (by decide) rfl rfl rfl (by simp [jR_cat, jI_cat]) ⟨Nat.le_refl 0, Nat.le_refl 0⟩ dX5_find_44 (fun p29 H locs S => ?_)
  obtain ⟨u30, hu30, hyp⟩ := jbind hyp
  obtain ⟨q31, hq31, hyp⟩ := jbind hyp
  refine jr_callV_N (pc := 47) C S L (As := [jR B v22.toNat, jI q25, jI q28]) (rest := []) (c_X7_lay p26 p29 hq31) mv_X7_lay ml_X5_64 rfl (jck_spec hu30) (by decide) rfl rfl rfl (Nat.le_of_ble_eq_true rfl) ⟨Nat.le_refl 0, Nat.le_refl 0⟩ dX5_find_47 (fun p32 H locs S => ?_)
  refine jr_iconst (pc := 50) C dX5_find_50 ?_
  refine jr_istore_n (pc := 51) C L dX5_find_51 rfl (Nat.le_of_ble_eq_true rfl) (fun ls L => ?_)
  have L : jL ls [some (jR B a0), some (jR B a1), some (jI 0)] := L
  exact t_X5_find_l52 C   N a0 0 (show jIn 0 from ⟨by decide, by decide⟩) q31 _ _ _ S (L.sub (jsub_s (jsub_n (jsub_s jsub_0)))) hyp
theorem c_X5_find {l : Launch} {D : va_G} {cy : Nat → ClassId} {B sz : Nat} {sh : jm_S} {res : jm_M} {N : Nat} {m : jm_M} {a0 : Nat} {a1 : Nat} (hyp : f_X5_find N sh a0 a1 m = some res) : jCt l D cy B sz sh 52 yX5_find cX5_find 3 none [jR B a0, jR B a1] m none res True :=
  jc_of (by decide) (fun v h => by simp only [List.mem_cons, List.not_mem_nil, or_false] at h; rcases h with rfl | rfl <;> first | rfl | exact jR_cat _ _) (Nat.le_of_ble_eq_true rfl) (fun C S L => t_X5_find_e C   S L hyp)
set_option maxHeartbeats 4000000 in
set_option maxRecDepth 100000 in
theorem t_X5_digitAt_e {p : Program} {l : Launch} {e : Env} {s : State} {mi : MethodId} {args : Array Value} {below : List Frame} {meth : Method} {c : Code} {D : va_G} {cy : Nat → ClassId} {B sz : Nat} {sh : jm_S} {res : Int} {m0 : jm_M} (C : jCx p s mi args meth c cX5_digitAt 2 RX5 (some .int) D cy) {a0 : Nat} {x1 : Int} (h_x1 : jIn x1) {H : Heap} {locs : List Loc} {ls : Array Slot} (S : jHs D cy B sz sh (jA B sz) s.heap H locs m0) (L : jL ls [some (jR B a0), some (jI x1)]) (hyp : f_X5_digitAt sh a0 x1 m0 = some res) : W p l e (jrm 0 0 0) s mi args below meth c H locs 0 0 (MQ below (jQc D cy B sz sh m0 (some (jI res)) (jIn res)) args s 0 0 (jA B sz)) (F0 mi 0 ls []) := by
  unfold f_X5_digitAt at hyp
  refine jr_iload_n (pc := 0) C L dX5_digitAt_0 rfl rfl ?_
  refine jr_if_lt (pc := 1) C h_x1 (tgt := 30) dX5_digitAt_1 (by decide) (fun c1 => ?_) (fun c1 => ?_)
  · have hyp := (if_pos c1).symm.trans hyp
    refine jr_bipush (pc := 30) C dX5_digitAt_30 (by decide) ?_
    cases hyp
    exact jr_iret C S (show jIn (-6) from ⟨by decide, by decide⟩) dX5_digitAt_32
  · have hyp := (if_neg c1).symm.trans hyp
    refine jr_iload_n (pc := 4) C L dX5_digitAt_4 rfl rfl ?_
    refine jr_aload_n (pc := 5) C L dX5_digitAt_5 rfl rfl ?_
    obtain ⟨v2, hv2, hyp⟩ := jbind hyp
    have iv2 := jrf_in S hv2
    refine jr_getI (pc := 6) C S lf_X5_52 rfl hv2 dX5_digitAt_6 ?_
    refine jr_icmp_ge (pc := 9) C h_x1 iv2 (tgt := 30) dX5_digitAt_9 (by decide) (fun c3 => ?_) (fun c3 => ?_)
    · have hyp := (if_pos c3).symm.trans hyp
      refine jr_iload_n (pc := 12) C L dX5_digitAt_12 rfl rfl ?_
      refine jr_aload_n (pc := 13) C L dX5_digitAt_13 rfl rfl ?_
      obtain ⟨v4, hv4, hyp⟩ := jbind hyp
      refine jr_getR (pc := 14) C S lf_X5_9 rfl hv4 dX5_digitAt_14 ?_
      obtain ⟨v5, hv5, hyp⟩ := jbind hyp
      refine jr_alen (pc := 17) C S hv5 dX5_digitAt_17 ?_
      refine jr_icmp_ge (pc := 18) C h_x1 (jlen_in hv5) (tgt := 30) dX5_digitAt_18 (by decide) (fun c6 => ?_) (fun c6 => ?_)
      · have hyp := (if_pos c6).symm.trans hyp
        refine jr_aload_n (pc := 21) C L dX5_digitAt_21 rfl rfl ?_
        obtain ⟨v7, hv7, hyp⟩ := jbind hyp
        refine jr_getR (pc := 22) C S lf_X5_9 rfl hv7 dX5_digitAt_22 ?_
        refine jr_iload_n (pc := 25) C L dX5_digitAt_25 rfl rfl ?_
        obtain ⟨v8, hv8, hyp⟩ := jbind hyp
        have iv8 := jra_in S hv8
        refine jr_ial (pc := 26) C S h_x1 hv8 dX5_digitAt_26 ?_
        refine jr_goto (pc := 27) C (tgt := 32) dX5_digitAt_27 (by decide) ?_
        cases hyp
        exact jr_iret C S iv8 dX5_digitAt_32
      · have hyp := (if_neg c6).symm.trans hyp
        refine jr_bipush (pc := 30) C dX5_digitAt_30 (by decide) ?_
        cases hyp
        exact jr_iret C S (show jIn (-6) from ⟨by decide, by decide⟩) dX5_digitAt_32
    · have hyp := (if_neg c3).symm.trans hyp
      refine jr_bipush (pc := 30) C dX5_digitAt_30 (by decide) ?_
      cases hyp
      exact jr_iret C S (show jIn (-6) from ⟨by decide, by decide⟩) dX5_digitAt_32
theorem c_X5_digitAt {l : Launch} {D : va_G} {cy : Nat → ClassId} {B sz : Nat} {sh : jm_S} {res : Int} {m0 : jm_M} {a0 : Nat} {x1 : Int} (h_x1 : jIn x1) (hyp : f_X5_digitAt sh a0 x1 m0 = some res) : jCt l D cy B sz sh 0 yX5_digitAt cX5_digitAt 2 (some .int) [jR B a0, jI x1] m0 (some (jI res)) m0 (jIn res) :=
  jc_of (by decide) (fun v h => by simp only [List.mem_cons, List.not_mem_nil, or_false] at h; rcases h with rfl | rfl <;> first | rfl | exact jR_cat _ _) (Nat.le_of_ble_eq_true rfl) (fun C S L => t_X5_digitAt_e C  h_x1 S L hyp)
