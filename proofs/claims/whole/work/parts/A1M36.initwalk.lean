set_option maxHeartbeats 4000000 in
set_option maxRecDepth 100000 in
theorem t_X0_init_e {p : Program} {l : Launch} {e : Env} {s : State} {mi : MethodId} {args : Array Value} {below : List Frame} {meth : Method} {c : Code} {D : va_G} {cy : Nat → ClassId} {B n0 Lm : Nat} {res : jm_G} (C : jCx p s mi args meth c cX0_init 2 RX0 none D cy) (hin : meth.name = "<init>") (hO : jAO s) {a0 : Nat} (h_a0 : a0 ≠ 0) {a1 : Nat} {g : jm_G} {H : Heap} {locs : List Loc} {ls : Array Slot} (S : jHA D cy B 0 n0 Lm g s s.heap H locs) (L : jL ls [some (jR B a0), some (jR B a1)]) (hyp : f_X0_init Lm a0 a1 g = some res) : W p l e (jrm 1 (Lm - n0) (jq (Lm - n0))) s mi args below meth c H locs (0 + (g.1 - n0)) (jq (0 + (g.1 - n0))) (MQ below (jQcA D cy B res) args s (Lm - n0) (jq (Lm - n0)) (fun q => B < q)) (F0 mi 0 ls []) := by
  unfold f_X0_init at hyp
  refine jr_aload_n (pc := 0) C L dX0_init_0 rfl rfl ?_
  refine jr_gobj (pc := 1) C L ko_X0_3 ko_i ko_c rfl h_a0 dX0_init_1 (Nat.le_of_ble_eq_true rfl) (by show _ ≤ 80 * _; simp [jR_cat, jI_cat]) ?_
  refine jr_aload_n (pc := 4) C L dX0_init_4 rfl rfl ?_
  refine jr_bipush (pc := 5) C dX0_init_5 (by decide) ?_
  obtain ⟨g1, hg1, hyp⟩ := jbind hyp
  refine jr_newa (pc := 7) (atype := .int) jRo_self C S (show jIn 16 from ⟨by decide, by decide⟩) (by decide) ka_int hg1 dX0_init_7 (fun H S => ?_)
  obtain ⟨g2, hg2, hyp⟩ := jbind hyp
  refine jr_gF (pc := 9) C hin S lf_X0_11 fo_X0_2 fp_X0_2 rfl jty_a hg2 dX0_init_9 (fun H locs S => ?_)
  refine jr_aload_n (pc := 12) C L dX0_init_12 rfl rfl ?_
  refine jr_bipush (pc := 13) C dX0_init_13 (by decide) ?_
  refine jr_bipush (pc := 15) C dX0_init_15 (by decide) ?_
  obtain ⟨g3, hg3, hyp⟩ := jbind hyp
  refine jr_new2 (pc := 17) jRo_self C hO S (show jIn 30 from ⟨by decide, by decide⟩) (show jIn 16 from ⟨by decide, by decide⟩) kl_X0_15 ka_int hg3 dX0_init_17 (fun H S => ?_)
  obtain ⟨g4, hg4, hyp⟩ := jbind hyp
  refine jr_gF (pc := 21) C hin S lf_X0_17 fo_X0_3 fp_X0_3 rfl jty_a hg4 dX0_init_21 (fun H locs S => ?_)
  refine jr_aload_n (pc := 24) C L dX0_init_24 rfl rfl ?_
  refine jr_iconst (pc := 25) C dX0_init_25 ?_
  refine jr_bipush (pc := 26) C dX0_init_26 (by decide) ?_
  obtain ⟨g5, hg5, hyp⟩ := jbind hyp
  refine jr_new2 (pc := 28) jRo_self C hO S (show jIn 5 from ⟨by decide, by decide⟩) (show jIn 16 from ⟨by decide, by decide⟩) kl_X0_15 ka_int hg5 dX0_init_28 (fun H S => ?_)
  obtain ⟨g6, hg6, hyp⟩ := jbind hyp
  refine jr_gF (pc := 32) C hin S lf_X0_20 fo_X0_4 fp_X0_4 rfl jty_a hg6 dX0_init_32 (fun H locs S => ?_)
  refine jr_aload_n (pc := 35) C L dX0_init_35 rfl rfl ?_
  refine jr_iconst (pc := 36) C dX0_init_36 ?_
  refine jr_bipush (pc := 37) C dX0_init_37 (by decide) ?_
  obtain ⟨g7, hg7, hyp⟩ := jbind hyp
  refine jr_new2 (pc := 39) jRo_self C hO S (show jIn 5 from ⟨by decide, by decide⟩) (show jIn 16 from ⟨by decide, by decide⟩) kl_X0_15 ka_int hg7 dX0_init_39 (fun H S => ?_)
  obtain ⟨g8, hg8, hyp⟩ := jbind hyp
  refine jr_gF (pc := 43) C hin S lf_X0_23 fo_X0_5 fp_X0_5 rfl jty_a hg8 dX0_init_43 (fun H locs S => ?_)
  refine jr_aload_n (pc := 46) C L dX0_init_46 rfl rfl ?_
  refine jr_aload_n (pc := 47) C L dX0_init_47 rfl rfl ?_
  obtain ⟨g9, hg9, hyp⟩ := jbind hyp
  refine jr_gF (pc := 48) C hin S lf_X0_26 fo_X0_1 fp_X0_1 rfl jty_o hg9 dX0_init_48 (fun H locs S => ?_)
  refine jr_aload_n (pc := 51) C L dX0_init_51 rfl rfl ?_
  refine jr_aload_n (pc := 52) C L dX0_init_52 rfl rfl ?_
  refine jr_iconst (pc := 53) C dX0_init_53 ?_
  obtain ⟨u10, hu10, hyp⟩ := jbind hyp
  obtain ⟨q11, hq11, hyp⟩ := jbind hyp
  refine jr_callV_R (pc := 54) C S.1 L (As := [jI 0]) (rest := [jR B a0]) (c_X1_textOf (m0 := g9.2.2) (show jIn 0 from ⟨by decide, by decide⟩) hq11) mv_X1_textOf ml_X0_30 rfl (jck_spec hu10) (by decide) rfl rfl rfl (by simp [jR_cat, jI_cat]) (jHA_cs S) dX0_init_54 (fun p12 H locs S1 => ?_)
  have S : jHA D cy B 0 n0 Lm g9 s s.heap H locs := S.mem S1 S.2.1 (by have h9 := S.fits (a := a1) (by rw [jck_spec hu10]; decide); omega)
  obtain ⟨g13, hg13, hyp⟩ := jbind hyp
  refine jr_gR (pc := 57) C S lf_X0_36 fp_X0_0 rfl hg13 dX0_init_57 (fun H locs S => ?_)
  cases hyp
  exact jr_gret C hO S dX0_init_60
theorem c_X0_init {l : Launch} {D : va_G} {cy : Nat → ClassId} {B Lm : Nat} {g res : jm_G} {a0 : Nat} (h_a0 : a0 ≠ 0) {a1 : Nat} (h1 : g.1 ≤ Lm) (h2 : Lm ≤ 1000000) (hyp : f_X0_init Lm a0 a1 g = some res) : jCtA l D cy B 1 Lm yX0_init cX0_init 2 [jR B a0, jR B a1] g res :=
  jcA_of (by decide) (fun v h => by simp only [List.mem_cons, List.not_mem_nil, or_false] at h; rcases h with rfl | rfl <;> first | rfl | exact jR_cat _ _) (Nat.le_of_ble_eq_true rfl) h1 h2 (fun C hin hO S L => t_X0_init_e C hin hO h_a0 S L hyp)
set_option maxHeartbeats 4000000 in
set_option maxRecDepth 100000 in
theorem t_X10_init_b35 {p : Program} {l : Launch} {e : Env} {s : State} {mi : MethodId} {args : Array Value} {below : List Frame} {meth : Method} {c : Code} {D : va_G} {cy : Nat → ClassId} {B n0 Lm : Nat} {res : jm_G} {N : Nat} {k35 : Nat → Int → jm_G → Option jm_G} (C : jCx p s mi args meth c cX10_init 2 RX10 none D cy) (hin : meth.name = "<init>") (hO : jAO s) (K35 : ∀ (a0 : Nat) (x1 : Int) , jIn x1 → a0 ≠ 0 → ∀ (g : jm_G) (H : Heap) (locs : List Loc) (ls : Array Slot), jHA D cy B 0 n0 Lm g s s.heap H locs → jL ls [some (jR B a0), some (jI x1)] → k35 a0 x1 g = some res → W p l e (jrm 1 (Lm - n0) (jq (Lm - n0))) s mi args below meth c H locs (0 + (g.1 - n0)) (jq (0 + (g.1 - n0))) (MQ below (jQcA D cy B res) args s (Lm - n0) (jq (Lm - n0)) (fun q => B < q)) (F0 mi 35 ls [])) {a0 : Nat} (h_a0 : a0 ≠ 0) {x1 : Int} (h_x1 : jIn x1) {g : jm_G} {H : Heap} {locs : List Loc} {ls : Array Slot} (S : jHA D cy B 0 n0 Lm g s s.heap H locs) (L : jL ls [some (jR B a0), some (jI x1)]) (hyp : f_X10_init_b35 N Lm k35 a0 x1 g = some res) : W p l e (jrm 1 (Lm - n0) (jq (Lm - n0))) s mi args below meth c H locs (0 + (g.1 - n0)) (jq (0 + (g.1 - n0))) (MQ below (jQcA D cy B res) args s (Lm - n0) (jq (Lm - n0)) (fun q => B < q)) (F0 mi 35 ls []) := by
  unfold f_X10_init_b35 at hyp
  refine jr_iload_n (pc := 35) C L dX10_init_35 rfl rfl ?_
  refine jr_bipush (pc := 36) C dX10_init_36 (by decide) ?_
  refine jr_icmp_ge (pc := 38) C h_x1 (show jIn 30 from ⟨by decide, by decide⟩) (tgt := 62) dX10_init_38 (by decide) (fun c1 => ?_) (fun c1 => ?_)
  · have hyp := (if_pos c1).symm.trans hyp
    refine jr_aload_n (pc := 41) C L dX10_init_41 rfl rfl ?_
    obtain ⟨v2, hv2, hyp⟩ := jbind hyp
    refine jr_getR (pc := 42) C S.1 lf_X10_15 rfl hv2 dX10_init_42 ?_
    refine jr_iload_n (pc := 45) C L dX10_init_45 rfl rfl ?_
    refine jr_bipush (pc := 46) C dX10_init_46 (by decide) ?_
    obtain ⟨g3, hg3, hyp⟩ := jbind hyp
    refine jr_gA (pc := 48) C S h_x1 (show jIn 45 from ⟨by decide, by decide⟩) hg3 dX10_init_48 (fun H locs S => ?_)
    refine jr_aload_n (pc := 49) C L dX10_init_49 rfl rfl ?_
    obtain ⟨v4, hv4, hyp⟩ := jbind hyp
    refine jr_getR (pc := 50) C S.1 lf_X10_19 rfl hv4 dX10_init_50 ?_
    refine jr_iload_n (pc := 53) C L dX10_init_53 rfl rfl ?_
    refine jr_iconst (pc := 54) C dX10_init_54 ?_
    obtain ⟨g5, hg5, hyp⟩ := jbind hyp
    refine jr_gA (pc := 55) C S h_x1 (show jIn 1 from ⟨by decide, by decide⟩) hg5 dX10_init_55 (fun H locs S => ?_)
    refine jr_iinc (pc := 56) C L dX10_init_56 rfl (Nat.le_of_ble_eq_true rfl) (fun ls L => ?_)
    have L : jL ls [some (jR B a0), some (jI (jw (x1 + 1)))] := L
    refine jr_goto (pc := 59) C (tgt := 35) dX10_init_59 (by decide) ?_
    exact K35 a0 (jw (x1 + 1)) (jIn_w _) h_a0 g5 _ _ _ S (L.sub (jsub_s (jsub_s jsub_0))) hyp
  · have hyp := (if_neg c1).symm.trans hyp
    cases hyp
    exact jr_gret C hO S dX10_init_62
theorem t_X10_init_l35 {p : Program} {l : Launch} {e : Env} {s : State} {mi : MethodId} {args : Array Value} {below : List Frame} {meth : Method} {c : Code} {D : va_G} {cy : Nat → ClassId} {B n0 Lm : Nat} {res : jm_G} {N : Nat} (C : jCx p s mi args meth c cX10_init 2 RX10 none D cy) (hin : meth.name = "<init>") (hO : jAO s) : ∀ (n : Nat) (a0 : Nat) (x1 : Int), jIn x1 → a0 ≠ 0 → ∀ (g : jm_G) (H : Heap) (locs : List Loc) (ls : Array Slot), jHA D cy B 0 n0 Lm g s s.heap H locs → jL ls [some (jR B a0), some (jI x1)] → f_X10_init_l35 N Lm n a0 x1 g = some res → W p l e (jrm 1 (Lm - n0) (jq (Lm - n0))) s mi args below meth c H locs (0 + (g.1 - n0)) (jq (0 + (g.1 - n0))) (MQ below (jQcA D cy B res) args s (Lm - n0) (jq (Lm - n0)) (fun q => B < q)) (F0 mi 35 ls []) := by
  intro n
  induction n with
  | zero => intro a0 x1 h_x1 h_a0 g H locs ls S L hyp; cases hyp
  | succ n ih => intro a0 x1 h_x1 h_a0 g H locs ls S L hyp; exact t_X10_init_b35 (N := N) C hin hO ih h_a0 h_x1 S L hyp
set_option maxHeartbeats 4000000 in
set_option maxRecDepth 100000 in
theorem t_X10_init_e {p : Program} {l : Launch} {e : Env} {s : State} {mi : MethodId} {args : Array Value} {below : List Frame} {meth : Method} {c : Code} {D : va_G} {cy : Nat → ClassId} {B n0 Lm : Nat} {res : jm_G} {N : Nat} (C : jCx p s mi args meth c cX10_init 2 RX10 none D cy) (hin : meth.name = "<init>") (hO : jAO s) {a0 : Nat} (h_a0 : a0 ≠ 0) {g : jm_G} {H : Heap} {locs : List Loc} {ls : Array Slot} (S : jHA D cy B 0 n0 Lm g s s.heap H locs) (L : jL ls [some (jR B a0), none]) (hyp : f_X10_init N Lm a0 g = some res) : W p l e (jrm 1 (Lm - n0) (jq (Lm - n0))) s mi args below meth c H locs (0 + (g.1 - n0)) (jq (0 + (g.1 - n0))) (MQ below (jQcA D cy B res) args s (Lm - n0) (jq (Lm - n0)) (fun q => B < q)) (F0 mi 0 ls []) := by
  unfold f_X10_init at hyp
  refine jr_aload_n (pc := 0) C L dX10_init_0 rfl rfl ?_
  refine jr_gobj (pc := 1) C L ko_X10_3 ko_i ko_c rfl h_a0 dX10_init_1 (Nat.le_of_ble_eq_true rfl) (by show _ ≤ 80 * _; simp [jR_cat, jI_cat]) ?_
  refine jr_aload_n (pc := 4) C L dX10_init_4 rfl rfl ?_
  refine jr_iconst (pc := 5) C dX10_init_5 ?_
  obtain ⟨g6, hg6, hyp⟩ := jbind hyp
  refine jr_gI (pc := 6) C S lf_X10_9 fp_X10_0 rfl (show jIn 1 from ⟨by decide, by decide⟩) hg6 dX10_init_6 (fun H locs S => ?_)
  refine jr_aload_n (pc := 9) C L dX10_init_9 rfl rfl ?_
  refine jr_bipush (pc := 10) C dX10_init_10 (by decide) ?_
  obtain ⟨g7, hg7, hyp⟩ := jbind hyp
  refine jr_newa (pc := 12) (atype := .int) jRo_self C S (show jIn 30 from ⟨by decide, by decide⟩) (by decide) ka_int hg7 dX10_init_12 (fun H S => ?_)
  obtain ⟨g8, hg8, hyp⟩ := jbind hyp
  refine jr_gF (pc := 14) C hin S lf_X10_15 fo_X10_1 fp_X10_1 rfl jty_a hg8 dX10_init_14 (fun H locs S => ?_)
  refine jr_aload_n (pc := 17) C L dX10_init_17 rfl rfl ?_
  refine jr_bipush (pc := 18) C dX10_init_18 (by decide) ?_
  obtain ⟨g9, hg9, hyp⟩ := jbind hyp
  refine jr_newa (pc := 20) (atype := .int) jRo_self C S (show jIn 30 from ⟨by decide, by decide⟩) (by decide) ka_int hg9 dX10_init_20 (fun H S => ?_)
  obtain ⟨g10, hg10, hyp⟩ := jbind hyp
  refine jr_gF (pc := 22) C hin S lf_X10_19 fo_X10_2 fp_X10_2 rfl jty_a hg10 dX10_init_22 (fun H locs S => ?_)
  refine jr_aload_n (pc := 25) C L dX10_init_25 rfl rfl ?_
  refine jr_bipush (pc := 26) C dX10_init_26 (by decide) ?_
  obtain ⟨g11, hg11, hyp⟩ := jbind hyp
  refine jr_newa (pc := 28) (atype := .int) jRo_self C S (show jIn 30 from ⟨by decide, by decide⟩) (by decide) ka_int hg11 dX10_init_28 (fun H S => ?_)
  obtain ⟨g12, hg12, hyp⟩ := jbind hyp
  refine jr_gF (pc := 30) C hin S lf_X10_22 fo_X10_3 fp_X10_3 rfl jty_a hg12 dX10_init_30 (fun H locs S => ?_)
  refine jr_iconst (pc := 33) C dX10_init_33 ?_
  refine jr_istore_n (pc := 34) C L dX10_init_34 rfl (Nat.le_of_ble_eq_true rfl) (fun ls L => ?_)
  have L : jL ls [some (jR B a0), some (jI 0)] := L
  exact t_X10_init_l35 C hin hO N a0 0 (show jIn 0 from ⟨by decide, by decide⟩) h_a0 g12 _ _ _ S (L.sub (jsub_s (jsub_s jsub_0))) hyp
theorem c_X10_init {l : Launch} {D : va_G} {cy : Nat → ClassId} {B Lm : Nat} {g res : jm_G} {N : Nat} {a0 : Nat} (h_a0 : a0 ≠ 0) (h1 : g.1 ≤ Lm) (h2 : Lm ≤ 1000000) (hyp : f_X10_init N Lm a0 g = some res) : jCtA l D cy B 1 Lm yX10_init cX10_init 2 [jR B a0] g res :=
  jcA_of (by decide) (fun v h => by rw [List.mem_singleton.mp h]; first | rfl | exact jR_cat _ _) (Nat.le_of_ble_eq_true rfl) h1 h2 (fun C hin hO S L => t_X10_init_e C hin hO h_a0 S L hyp)
set_option maxHeartbeats 4000000 in
set_option maxRecDepth 100000 in
theorem t_X1_init_e {p : Program} {l : Launch} {e : Env} {s : State} {mi : MethodId} {args : Array Value} {below : List Frame} {meth : Method} {c : Code} {D : va_G} {cy : Nat → ClassId} {B n0 Lm : Nat} {res : jm_G} {N : Nat} (C : jCx p s mi args meth c cX1_init 1 RX1 none D cy) (hin : meth.name = "<init>") (hO : jAO s) {a0 : Nat} (h_a0 : a0 ≠ 0) {g : jm_G} {H : Heap} {locs : List Loc} {ls : Array Slot} (S : jHA D cy B 0 n0 Lm g s s.heap H locs) (L : jL ls [some (jR B a0)]) (hyp : f_X1_init N Lm a0 g = some res) : W p l e (jrm 2 (Lm - n0) (jq (Lm - n0))) s mi args below meth c H locs (0 + (g.1 - n0)) (jq (0 + (g.1 - n0))) (MQ below (jQcA D cy B res) args s (Lm - n0) (jq (Lm - n0)) (fun q => B < q)) (F0 mi 0 ls []) := by
  unfold f_X1_init at hyp
  refine jr_aload_n (pc := 0) C L dX1_init_0 rfl rfl ?_
  refine jr_gobj (pc := 1) C L ko_X1_3 ko_i ko_c rfl h_a0 dX1_init_1 (Nat.le_of_ble_eq_true rfl) (by show _ ≤ 80 * _; simp [jR_cat, jI_cat]) ?_
  refine jr_aload_n (pc := 4) C L dX1_init_4 rfl rfl ?_
  refine jr_iconst (pc := 5) C dX1_init_5 ?_
  obtain ⟨g1, hg1, hyp⟩ := jbind hyp
  refine jr_newa (pc := 6) (atype := .int) jRo_self C S (show jIn 4 from ⟨by decide, by decide⟩) (by decide) ka_int hg1 dX1_init_6 (fun H S => ?_)
  refine jr_dupR (pc := 8) C dX1_init_8 ?_
  refine jr_iconst (pc := 9) C dX1_init_9 ?_
  refine jr_iconst (pc := 10) C dX1_init_10 ?_
  obtain ⟨g2, hg2, hyp⟩ := jbind hyp
  refine jr_gA (pc := 11) C S (show jIn 0 from ⟨by decide, by decide⟩) (show jIn 2 from ⟨by decide, by decide⟩) hg2 dX1_init_11 (fun H locs S => ?_)
  refine jr_dupR (pc := 12) C dX1_init_12 ?_
  refine jr_iconst (pc := 13) C dX1_init_13 ?_
  refine jr_iconst (pc := 14) C dX1_init_14 ?_
  obtain ⟨g3, hg3, hyp⟩ := jbind hyp
  refine jr_gA (pc := 15) C S (show jIn 1 from ⟨by decide, by decide⟩) (show jIn 2 from ⟨by decide, by decide⟩) hg3 dX1_init_15 (fun H locs S => ?_)
  refine jr_dupR (pc := 16) C dX1_init_16 ?_
  refine jr_iconst (pc := 17) C dX1_init_17 ?_
  refine jr_bipush (pc := 18) C dX1_init_18 (by decide) ?_
  obtain ⟨g4, hg4, hyp⟩ := jbind hyp
  refine jr_gA (pc := 20) C S (show jIn 2 from ⟨by decide, by decide⟩) (show jIn 10 from ⟨by decide, by decide⟩) hg4 dX1_init_20 (fun H locs S => ?_)
  refine jr_dupR (pc := 21) C dX1_init_21 ?_
  refine jr_iconst (pc := 22) C dX1_init_22 ?_
  refine jr_iconst (pc := 23) C dX1_init_23 ?_
  obtain ⟨g5, hg5, hyp⟩ := jbind hyp
  refine jr_gA (pc := 24) C S (show jIn 3 from ⟨by decide, by decide⟩) (show jIn 0 from ⟨by decide, by decide⟩) hg5 dX1_init_24 (fun H locs S => ?_)
  obtain ⟨g6, hg6, hyp⟩ := jbind hyp
  refine jr_gF (pc := 25) C hin S lf_X1_9 fo_X1_2 fp_X1_2 rfl jty_a hg6 dX1_init_25 (fun H locs S => ?_)
  refine jr_aload_n (pc := 28) C L dX1_init_28 rfl rfl ?_
  refine jr_iconst (pc := 29) C dX1_init_29 ?_
  obtain ⟨g7, hg7, hyp⟩ := jbind hyp
  refine jr_newa (pc := 30) (atype := .int) jRo_self C S (show jIn 4 from ⟨by decide, by decide⟩) (by decide) ka_int hg7 dX1_init_30 (fun H S => ?_)
  obtain ⟨g8, hg8, hyp⟩ := jbind hyp
  refine jr_gF (pc := 32) C hin S lf_X1_15 fo_X1_3 fp_X1_3 rfl jty_a hg8 dX1_init_32 (fun H locs S => ?_)
  refine jr_aload_n (pc := 35) C L dX1_init_35 rfl rfl ?_
  refine jr_bipush (pc := 36) C dX1_init_36 (by decide) ?_
  obtain ⟨g9, hg9, hyp⟩ := jbind hyp
  refine jr_newa (pc := 38) (atype := .int) jRo_self C S (show jIn 20 from ⟨by decide, by decide⟩) (by decide) ka_int hg9 dX1_init_38 (fun H S => ?_)
  obtain ⟨g10, hg10, hyp⟩ := jbind hyp
  refine jr_gF (pc := 40) C hin S lf_X1_18 fo_X1_4 fp_X1_4 rfl jty_a hg10 dX1_init_40 (fun H locs S => ?_)
  refine jr_aload_n (pc := 43) C L dX1_init_43 rfl rfl ?_
  obtain ⟨g11, hg11, hyp⟩ := jbind hyp
  refine jr_new (pc := 44) jRo_self C S nc_X1_21 hg11 dX1_init_44 (fun H S => ?_)
  refine jr_dupR (pc := 47) C dX1_init_47 ?_
  obtain ⟨g12, hg12, hyp⟩ := jbind hyp
  obtain ⟨u13, hu13, hyp⟩ := jbind hyp
  refine jr_gcall (pc := 48) jRo_self C hO S L (cN := 3) (As := []) (rest := [jR B (g10.1 + 1), jR B a0]) (Nat.succ_ne_zero _) (c_X10_init (Nat.succ_ne_zero _) (by omega) (by have h6 := S.2.2.2.2.2.1; have h7 := (jgl_spec hu13).2; omega) hg12) mi_X10_init ml_X1_23 ⟨Nat.le_of_ble_eq_true rfl, Nat.le_of_ble_eq_true rfl⟩ (jgl_spec hu13).1 (jgl_spec hu13).2 rfl rfl rfl (by simp [jR_cat, jI_cat]) dX1_init_48 (fun H locs S => ?_)
  obtain ⟨g14, hg14, hyp⟩ := jbind hyp
  refine jr_gF (pc := 51) C hin S lf_X1_24 fo_X1_5 fp_X1_5 rfl jty_o hg14 dX1_init_51 (fun H locs S => ?_)
  refine jr_aload_n (pc := 54) C L dX1_init_54 rfl rfl ?_
  obtain ⟨g15, hg15, hyp⟩ := jbind hyp
  refine jr_new (pc := 55) jRo_self C S nc_X1_21 hg15 dX1_init_55 (fun H S => ?_)
  refine jr_dupR (pc := 58) C dX1_init_58 ?_
  obtain ⟨g16, hg16, hyp⟩ := jbind hyp
  obtain ⟨u17, hu17, hyp⟩ := jbind hyp
  refine jr_gcall (pc := 59) jRo_self C hO S L (cN := 3) (As := []) (rest := [jR B (g14.1 + 1), jR B a0]) (Nat.succ_ne_zero _) (c_X10_init (Nat.succ_ne_zero _) (by omega) (by have h6 := S.2.2.2.2.2.1; have h7 := (jgl_spec hu17).2; omega) hg16) mi_X10_init ml_X1_23 ⟨Nat.le_of_ble_eq_true rfl, Nat.le_of_ble_eq_true rfl⟩ (jgl_spec hu17).1 (jgl_spec hu17).2 rfl rfl rfl (by simp [jR_cat, jI_cat]) dX1_init_59 (fun H locs S => ?_)
  obtain ⟨g18, hg18, hyp⟩ := jbind hyp
  refine jr_gF (pc := 62) C hin S lf_X1_28 fo_X1_6 fp_X1_6 rfl jty_o hg18 dX1_init_62 (fun H locs S => ?_)
  refine jr_aload_n (pc := 65) C L dX1_init_65 rfl rfl ?_
  obtain ⟨g19, hg19, hyp⟩ := jbind hyp
  refine jr_new (pc := 66) jRo_self C S nc_X1_21 hg19 dX1_init_66 (fun H S => ?_)
  refine jr_dupR (pc := 69) C dX1_init_69 ?_
  obtain ⟨g20, hg20, hyp⟩ := jbind hyp
  obtain ⟨u21, hu21, hyp⟩ := jbind hyp
  refine jr_gcall (pc := 70) jRo_self C hO S L (cN := 3) (As := []) (rest := [jR B (g18.1 + 1), jR B a0]) (Nat.succ_ne_zero _) (c_X10_init (Nat.succ_ne_zero _) (by omega) (by have h6 := S.2.2.2.2.2.1; have h7 := (jgl_spec hu21).2; omega) hg20) mi_X10_init ml_X1_23 ⟨Nat.le_of_ble_eq_true rfl, Nat.le_of_ble_eq_true rfl⟩ (jgl_spec hu21).1 (jgl_spec hu21).2 rfl rfl rfl (by simp [jR_cat, jI_cat]) dX1_init_70 (fun H locs S => ?_)
  obtain ⟨g22, hg22, hyp⟩ := jbind hyp
  refine jr_gF (pc := 73) C hin S lf_X1_31 fo_X1_7 fp_X1_7 rfl jty_o hg22 dX1_init_73 (fun H locs S => ?_)
  refine jr_aload_n (pc := 76) C L dX1_init_76 rfl rfl ?_
  obtain ⟨g23, hg23, hyp⟩ := jbind hyp
  refine jr_new (pc := 77) jRo_self C S nc_X1_21 hg23 dX1_init_77 (fun H S => ?_)
  refine jr_dupR (pc := 80) C dX1_init_80 ?_
  obtain ⟨g24, hg24, hyp⟩ := jbind hyp
  obtain ⟨u25, hu25, hyp⟩ := jbind hyp
  refine jr_gcall (pc := 81) jRo_self C hO S L (cN := 3) (As := []) (rest := [jR B (g22.1 + 1), jR B a0]) (Nat.succ_ne_zero _) (c_X10_init (Nat.succ_ne_zero _) (by omega) (by have h6 := S.2.2.2.2.2.1; have h7 := (jgl_spec hu25).2; omega) hg24) mi_X10_init ml_X1_23 ⟨Nat.le_of_ble_eq_true rfl, Nat.le_of_ble_eq_true rfl⟩ (jgl_spec hu25).1 (jgl_spec hu25).2 rfl rfl rfl (by simp [jR_cat, jI_cat]) dX1_init_81 (fun H locs S => ?_)
  obtain ⟨g26, hg26, hyp⟩ := jbind hyp
  refine jr_gF (pc := 84) C hin S lf_X1_34 fo_X1_8 fp_X1_8 rfl jty_o hg26 dX1_init_84 (fun H locs S => ?_)
  cases hyp
  exact jr_gret C hO S dX1_init_87
theorem c_X1_init {l : Launch} {D : va_G} {cy : Nat → ClassId} {B Lm : Nat} {g res : jm_G} {N : Nat} {a0 : Nat} (h_a0 : a0 ≠ 0) (h1 : g.1 ≤ Lm) (h2 : Lm ≤ 1000000) (hyp : f_X1_init N Lm a0 g = some res) : jCtA l D cy B 2 Lm yX1_init cX1_init 1 [jR B a0] g res :=
  jcA_of (by decide) (fun v h => by rw [List.mem_singleton.mp h]; first | rfl | exact jR_cat _ _) (Nat.le_of_ble_eq_true rfl) h1 h2 (fun C hin hO S L => t_X1_init_e C hin hO h_a0 S L hyp)
set_option maxHeartbeats 4000000 in
set_option maxRecDepth 100000 in
theorem t_X2_init_e {p : Program} {l : Launch} {e : Env} {s : State} {mi : MethodId} {args : Array Value} {below : List Frame} {meth : Method} {c : Code} {D : va_G} {cy : Nat → ClassId} {B n0 Lm : Nat} {res : jm_G} (C : jCx p s mi args meth c cX2_init 3 RX2 none D cy) (hin : meth.name = "<init>") (hO : jAO s) {a0 : Nat} (h_a0 : a0 ≠ 0) {a1 : Nat} {a2 : Nat} {g : jm_G} {H : Heap} {locs : List Loc} {ls : Array Slot} (S : jHA D cy B 0 n0 Lm g s s.heap H locs) (L : jL ls [some (jR B a0), some (jR B a1), some (jR B a2)]) (hyp : f_X2_init Lm a0 a1 a2 g = some res) : W p l e (jrm 1 (Lm - n0) (jq (Lm - n0))) s mi args below meth c H locs (0 + (g.1 - n0)) (jq (0 + (g.1 - n0))) (MQ below (jQcA D cy B res) args s (Lm - n0) (jq (Lm - n0)) (fun q => B < q)) (F0 mi 0 ls []) := by
  unfold f_X2_init at hyp
  refine jr_aload_n (pc := 0) C L dX2_init_0 rfl rfl ?_
  refine jr_gobj (pc := 1) C L ko_X2_3 ko_i ko_c rfl h_a0 dX2_init_1 (Nat.le_of_ble_eq_true rfl) (by show _ ≤ 80 * _; simp [jR_cat, jI_cat]) ?_
  refine jr_aload_n (pc := 4) C L dX2_init_4 rfl rfl ?_
  refine jr_bipush (pc := 5) C dX2_init_5 (by decide) ?_
  obtain ⟨g1, hg1, hyp⟩ := jbind hyp
  refine jr_newa (pc := 7) (atype := .int) jRo_self C S (show jIn 30 from ⟨by decide, by decide⟩) (by decide) ka_int hg1 dX2_init_7 (fun H S => ?_)
  obtain ⟨g2, hg2, hyp⟩ := jbind hyp
  refine jr_gF (pc := 9) C hin S lf_X2_9 fo_X2_3 fp_X2_3 rfl jty_a hg2 dX2_init_9 (fun H locs S => ?_)
  refine jr_aload_n (pc := 12) C L dX2_init_12 rfl rfl ?_
  refine jr_bipush (pc := 13) C dX2_init_13 (by decide) ?_
  obtain ⟨g3, hg3, hyp⟩ := jbind hyp
  refine jr_newa (pc := 15) (atype := .int) jRo_self C S (show jIn 30 from ⟨by decide, by decide⟩) (by decide) ka_int hg3 dX2_init_15 (fun H S => ?_)
  obtain ⟨g4, hg4, hyp⟩ := jbind hyp
  refine jr_gF (pc := 17) C hin S lf_X2_15 fo_X2_4 fp_X2_4 rfl jty_a hg4 dX2_init_17 (fun H locs S => ?_)
  refine jr_aload_n (pc := 20) C L dX2_init_20 rfl rfl ?_
  refine jr_aload_n (pc := 21) C L dX2_init_21 rfl rfl ?_
  obtain ⟨g5, hg5, hyp⟩ := jbind hyp
  refine jr_gF (pc := 22) C hin S lf_X2_18 fo_X2_1 fp_X2_1 rfl jty_o hg5 dX2_init_22 (fun H locs S => ?_)
  refine jr_aload_n (pc := 25) C L dX2_init_25 rfl rfl ?_
  refine jr_aload_n (pc := 26) C L dX2_init_26 rfl rfl ?_
  obtain ⟨g6, hg6, hyp⟩ := jbind hyp
  refine jr_gF (pc := 27) C hin S lf_X2_22 fo_X2_2 fp_X2_2 rfl jty_o hg6 dX2_init_27 (fun H locs S => ?_)
  refine jr_aload_n (pc := 30) C L dX2_init_30 rfl rfl ?_
  refine jr_aload_n (pc := 31) C L dX2_init_31 rfl rfl ?_
  refine jr_iconst (pc := 32) C dX2_init_32 ?_
  obtain ⟨u7, hu7, hyp⟩ := jbind hyp
  obtain ⟨q8, hq8, hyp⟩ := jbind hyp
  refine jr_callV_R (pc := 33) C S.1 L (As := [jI 0]) (rest := [jR B a0]) (c_X1_textOf (m0 := g6.2.2) (show jIn 0 from ⟨by decide, by decide⟩) hq8) mv_X1_textOf ml_X2_26 rfl (jck_spec hu7) (by decide) rfl rfl rfl (by simp [jR_cat, jI_cat]) (jHA_cs S) dX2_init_33 (fun p9 H locs S1 => ?_)
  have S : jHA D cy B 0 n0 Lm g6 s s.heap H locs := S.mem S1 S.2.1 (by have h9 := S.fits (a := a1) (by rw [jck_spec hu7]; decide); omega)
  obtain ⟨g10, hg10, hyp⟩ := jbind hyp
  refine jr_gR (pc := 36) C S lf_X2_32 fp_X2_0 rfl hg10 dX2_init_36 (fun H locs S => ?_)
  cases hyp
  exact jr_gret C hO S dX2_init_39
theorem c_X2_init {l : Launch} {D : va_G} {cy : Nat → ClassId} {B Lm : Nat} {g res : jm_G} {a0 : Nat} (h_a0 : a0 ≠ 0) {a1 : Nat} {a2 : Nat} (h1 : g.1 ≤ Lm) (h2 : Lm ≤ 1000000) (hyp : f_X2_init Lm a0 a1 a2 g = some res) : jCtA l D cy B 1 Lm yX2_init cX2_init 3 [jR B a0, jR B a1, jR B a2] g res :=
  jcA_of (by decide) (fun v h => by simp only [List.mem_cons, List.not_mem_nil, or_false] at h; rcases h with rfl | rfl | rfl <;> first | rfl | exact jR_cat _ _) (Nat.le_of_ble_eq_true rfl) h1 h2 (fun C hin hO S L => t_X2_init_e C hin hO h_a0 S L hyp)
set_option maxHeartbeats 4000000 in
set_option maxRecDepth 100000 in
theorem t_X3_init_e {p : Program} {l : Launch} {e : Env} {s : State} {mi : MethodId} {args : Array Value} {below : List Frame} {meth : Method} {c : Code} {D : va_G} {cy : Nat → ClassId} {B n0 Lm : Nat} {res : jm_G} (C : jCx p s mi args meth c cX3_init 1 RX3 none D cy) (hin : meth.name = "<init>") (hO : jAO s) {a0 : Nat} (h_a0 : a0 ≠ 0) {g : jm_G} {H : Heap} {locs : List Loc} {ls : Array Slot} (S : jHA D cy B 0 n0 Lm g s s.heap H locs) (L : jL ls [some (jR B a0)]) (hyp : f_X3_init Lm a0 g = some res) : W p l e (jrm 1 (Lm - n0) (jq (Lm - n0))) s mi args below meth c H locs (0 + (g.1 - n0)) (jq (0 + (g.1 - n0))) (MQ below (jQcA D cy B res) args s (Lm - n0) (jq (Lm - n0)) (fun q => B < q)) (F0 mi 0 ls []) := by
  unfold f_X3_init at hyp
  refine jr_aload_n (pc := 0) C L dX3_init_0 rfl rfl ?_
  refine jr_gobj (pc := 1) C L ko_X3_3 ko_i ko_c rfl h_a0 dX3_init_1 (Nat.le_of_ble_eq_true rfl) (by show _ ≤ 80 * _; simp [jR_cat, jI_cat]) ?_
  refine jr_aload_n (pc := 4) C L dX3_init_4 rfl rfl ?_
  refine jr_bipush (pc := 5) C dX3_init_5 (by decide) ?_
  obtain ⟨g1, hg1, hyp⟩ := jbind hyp
  refine jr_newa (pc := 7) (atype := .int) jRo_self C S (show jIn 30 from ⟨by decide, by decide⟩) (by decide) ka_int hg1 dX3_init_7 (fun H S => ?_)
  obtain ⟨g2, hg2, hyp⟩ := jbind hyp
  refine jr_gF (pc := 9) C hin S lf_X3_9 fo_X3_0 fp_X3_0 rfl jty_a hg2 dX3_init_9 (fun H locs S => ?_)
  refine jr_aload_n (pc := 12) C L dX3_init_12 rfl rfl ?_
  refine jr_bipush (pc := 13) C dX3_init_13 (by decide) ?_
  obtain ⟨g3, hg3, hyp⟩ := jbind hyp
  refine jr_newa (pc := 15) (atype := .int) jRo_self C S (show jIn 60 from ⟨by decide, by decide⟩) (by decide) ka_int hg3 dX3_init_15 (fun H S => ?_)
  obtain ⟨g4, hg4, hyp⟩ := jbind hyp
  refine jr_gF (pc := 17) C hin S lf_X3_15 fo_X3_2 fp_X3_2 rfl jty_a hg4 dX3_init_17 (fun H locs S => ?_)
  cases hyp
  exact jr_gret C hO S dX3_init_20
theorem c_X3_init {l : Launch} {D : va_G} {cy : Nat → ClassId} {B Lm : Nat} {g res : jm_G} {a0 : Nat} (h_a0 : a0 ≠ 0) (h1 : g.1 ≤ Lm) (h2 : Lm ≤ 1000000) (hyp : f_X3_init Lm a0 g = some res) : jCtA l D cy B 1 Lm yX3_init cX3_init 1 [jR B a0] g res :=
  jcA_of (by decide) (fun v h => by rw [List.mem_singleton.mp h]; first | rfl | exact jR_cat _ _) (Nat.le_of_ble_eq_true rfl) h1 h2 (fun C hin hO S L => t_X3_init_e C hin hO h_a0 S L hyp)
set_option maxHeartbeats 4000000 in
set_option maxRecDepth 100000 in
theorem t_X4_init_e {p : Program} {l : Launch} {e : Env} {s : State} {mi : MethodId} {args : Array Value} {below : List Frame} {meth : Method} {c : Code} {D : va_G} {cy : Nat → ClassId} {B n0 Lm : Nat} {res : jm_G} (C : jCx p s mi args meth c cX4_init 1 RX4 none D cy) (hin : meth.name = "<init>") (hO : jAO s) {a0 : Nat} (h_a0 : a0 ≠ 0) {g : jm_G} {H : Heap} {locs : List Loc} {ls : Array Slot} (S : jHA D cy B 0 n0 Lm g s s.heap H locs) (L : jL ls [some (jR B a0)]) (hyp : f_X4_init Lm a0 g = some res) : W p l e (jrm 1 (Lm - n0) (jq (Lm - n0))) s mi args below meth c H locs (0 + (g.1 - n0)) (jq (0 + (g.1 - n0))) (MQ below (jQcA D cy B res) args s (Lm - n0) (jq (Lm - n0)) (fun q => B < q)) (F0 mi 0 ls []) := by
  unfold f_X4_init at hyp
  refine jr_aload_n (pc := 0) C L dX4_init_0 rfl rfl ?_
  refine jr_gobj (pc := 1) C L ko_X4_3 ko_i ko_c rfl h_a0 dX4_init_1 (Nat.le_of_ble_eq_true rfl) (by show _ ≤ 80 * _; simp [jR_cat, jI_cat]) ?_
  refine jr_aload_n (pc := 4) C L dX4_init_4 rfl rfl ?_
  refine jr_sipush (pc := 5) C dX4_init_5 (by decide) ?_
  obtain ⟨g1, hg1, hyp⟩ := jbind hyp
  refine jr_newa (pc := 8) (atype := .int) jRo_self C S (show jIn 625 from ⟨by decide, by decide⟩) (by decide) ka_int hg1 dX4_init_8 (fun H S => ?_)
  obtain ⟨g2, hg2, hyp⟩ := jbind hyp
  refine jr_gF (pc := 10) C hin S lf_X4_9 fo_X4_1 fp_X4_1 rfl jty_a hg2 dX4_init_10 (fun H locs S => ?_)
  refine jr_aload_n (pc := 13) C L dX4_init_13 rfl rfl ?_
  refine jr_sipush (pc := 14) C dX4_init_14 (by decide) ?_
  obtain ⟨g3, hg3, hyp⟩ := jbind hyp
  refine jr_newa (pc := 17) (atype := .int) jRo_self C S (show jIn 625 from ⟨by decide, by decide⟩) (by decide) ka_int hg3 dX4_init_17 (fun H S => ?_)
  obtain ⟨g4, hg4, hyp⟩ := jbind hyp
  refine jr_gF (pc := 19) C hin S lf_X4_15 fo_X4_2 fp_X4_2 rfl jty_a hg4 dX4_init_19 (fun H locs S => ?_)
  refine jr_aload_n (pc := 22) C L dX4_init_22 rfl rfl ?_
  refine jr_sipush (pc := 23) C dX4_init_23 (by decide) ?_
  obtain ⟨g5, hg5, hyp⟩ := jbind hyp
  refine jr_newa (pc := 26) (atype := .int) jRo_self C S (show jIn 625 from ⟨by decide, by decide⟩) (by decide) ka_int hg5 dX4_init_26 (fun H S => ?_)
  obtain ⟨g6, hg6, hyp⟩ := jbind hyp
  refine jr_gF (pc := 28) C hin S lf_X4_18 fo_X4_3 fp_X4_3 rfl jty_a hg6 dX4_init_28 (fun H locs S => ?_)
  cases hyp
  exact jr_gret C hO S dX4_init_31
theorem c_X4_init {l : Launch} {D : va_G} {cy : Nat → ClassId} {B Lm : Nat} {g res : jm_G} {a0 : Nat} (h_a0 : a0 ≠ 0) (h1 : g.1 ≤ Lm) (h2 : Lm ≤ 1000000) (hyp : f_X4_init Lm a0 g = some res) : jCtA l D cy B 1 Lm yX4_init cX4_init 1 [jR B a0] g res :=
  jcA_of (by decide) (fun v h => by rw [List.mem_singleton.mp h]; first | rfl | exact jR_cat _ _) (Nat.le_of_ble_eq_true rfl) h1 h2 (fun C hin hO S L => t_X4_init_e C hin hO h_a0 S L hyp)
set_option maxHeartbeats 4000000 in
set_option maxRecDepth 100000 in
theorem t_X5_init_e {p : Program} {l : Launch} {e : Env} {s : State} {mi : MethodId} {args : Array Value} {below : List Frame} {meth : Method} {c : Code} {D : va_G} {cy : Nat → ClassId} {B n0 Lm : Nat} {res : jm_G} (C : jCx p s mi args meth c cX5_init 3 RX5 none D cy) (hin : meth.name = "<init>") (hO : jAO s) {a0 : Nat} (h_a0 : a0 ≠ 0) {a1 : Nat} {a2 : Nat} {g : jm_G} {H : Heap} {locs : List Loc} {ls : Array Slot} (S : jHA D cy B 0 n0 Lm g s s.heap H locs) (L : jL ls [some (jR B a0), some (jR B a1), some (jR B a2)]) (hyp : f_X5_init Lm a0 a1 a2 g = some res) : W p l e (jrm 1 (Lm - n0) (jq (Lm - n0))) s mi args below meth c H locs (0 + (g.1 - n0)) (jq (0 + (g.1 - n0))) (MQ below (jQcA D cy B res) args s (Lm - n0) (jq (Lm - n0)) (fun q => B < q)) (F0 mi 0 ls []) := by
  unfold f_X5_init at hyp
  refine jr_aload_n (pc := 0) C L dX5_init_0 rfl rfl ?_
  refine jr_gobj (pc := 1) C L ko_X5_3 ko_i ko_c rfl h_a0 dX5_init_1 (Nat.le_of_ble_eq_true rfl) (by show _ ≤ 80 * _; simp [jR_cat, jI_cat]) ?_
  refine jr_aload_n (pc := 4) C L dX5_init_4 rfl rfl ?_
  refine jr_bipush (pc := 5) C dX5_init_5 (by decide) ?_
  obtain ⟨g1, hg1, hyp⟩ := jbind hyp
  refine jr_newa (pc := 7) (atype := .int) jRo_self C S (show jIn 20 from ⟨by decide, by decide⟩) (by decide) ka_int hg1 dX5_init_7 (fun H S => ?_)
  obtain ⟨g2, hg2, hyp⟩ := jbind hyp
  refine jr_gF (pc := 9) C hin S lf_X5_9 fo_X5_6 fp_X5_6 rfl jty_a hg2 dX5_init_9 (fun H locs S => ?_)
  refine jr_aload_n (pc := 12) C L dX5_init_12 rfl rfl ?_
  refine jr_sipush (pc := 13) C dX5_init_13 (by decide) ?_
  obtain ⟨g3, hg3, hyp⟩ := jbind hyp
  refine jr_newa (pc := 16) (atype := .int) jRo_self C S (show jIn 625 from ⟨by decide, by decide⟩) (by decide) ka_int hg3 dX5_init_16 (fun H S => ?_)
  obtain ⟨g4, hg4, hyp⟩ := jbind hyp
  refine jr_gF (pc := 18) C hin S lf_X5_15 fo_X5_7 fp_X5_7 rfl jty_a hg4 dX5_init_18 (fun H locs S => ?_)
  refine jr_aload_n (pc := 21) C L dX5_init_21 rfl rfl ?_
  refine jr_iconst (pc := 22) C dX5_init_22 ?_
  refine jr_sipush (pc := 23) C dX5_init_23 (by decide) ?_
  obtain ⟨g5, hg5, hyp⟩ := jbind hyp
  refine jr_new2 (pc := 26) jRo_self C hO S (show jIn 5 from ⟨by decide, by decide⟩) (show jIn 625 from ⟨by decide, by decide⟩) kl_X5_18 ka_int hg5 dX5_init_26 (fun H S => ?_)
  obtain ⟨g6, hg6, hyp⟩ := jbind hyp
  refine jr_gF (pc := 30) C hin S lf_X5_20 fo_X5_8 fp_X5_8 rfl jty_a hg6 dX5_init_30 (fun H locs S => ?_)
  refine jr_aload_n (pc := 33) C L dX5_init_33 rfl rfl ?_
  refine jr_bipush (pc := 34) C dX5_init_34 (by decide) ?_
  refine jr_sipush (pc := 36) C dX5_init_36 (by decide) ?_
  obtain ⟨g7, hg7, hyp⟩ := jbind hyp
  refine jr_new2 (pc := 39) jRo_self C hO S (show jIn 20 from ⟨by decide, by decide⟩) (show jIn 625 from ⟨by decide, by decide⟩) kl_X5_18 ka_int hg7 dX5_init_39 (fun H S => ?_)
  obtain ⟨g8, hg8, hyp⟩ := jbind hyp
  refine jr_gF (pc := 43) C hin S lf_X5_23 fo_X5_9 fp_X5_9 rfl jty_a hg8 dX5_init_43 (fun H locs S => ?_)
  refine jr_aload_n (pc := 46) C L dX5_init_46 rfl rfl ?_
  refine jr_aload_n (pc := 47) C L dX5_init_47 rfl rfl ?_
  obtain ⟨g9, hg9, hyp⟩ := jbind hyp
  refine jr_gF (pc := 48) C hin S lf_X5_26 fo_X5_4 fp_X5_4 rfl jty_o hg9 dX5_init_48 (fun H locs S => ?_)
  refine jr_aload_n (pc := 51) C L dX5_init_51 rfl rfl ?_
  refine jr_aload_n (pc := 52) C L dX5_init_52 rfl rfl ?_
  obtain ⟨g10, hg10, hyp⟩ := jbind hyp
  refine jr_gF (pc := 53) C hin S lf_X5_30 fo_X5_5 fp_X5_5 rfl jty_o hg10 dX5_init_53 (fun H locs S => ?_)
  refine jr_aload_n (pc := 56) C L dX5_init_56 rfl rfl ?_
  refine jr_aload_n (pc := 57) C L dX5_init_57 rfl rfl ?_
  refine jr_iconst (pc := 58) C dX5_init_58 ?_
  obtain ⟨u11, hu11, hyp⟩ := jbind hyp
  obtain ⟨q12, hq12, hyp⟩ := jbind hyp
  refine jr_callV_R (pc := 59) C S.1 L (As := [jI 0]) (rest := [jR B a0]) (c_X1_textOf (m0 := g10.2.2) (show jIn 0 from ⟨by decide, by decide⟩) hq12) mv_X1_textOf ml_X5_34 rfl (jck_spec hu11) (by decide) rfl rfl rfl (by simp [jR_cat, jI_cat]) (jHA_cs S) dX5_init_59 (fun p13 H locs S1 => ?_)
  have S : jHA D cy B 0 n0 Lm g10 s s.heap H locs := S.mem S1 S.2.1 (by have h9 := S.fits (a := a1) (by rw [jck_spec hu11]; decide); omega)
  obtain ⟨g14, hg14, hyp⟩ := jbind hyp
  refine jr_gR (pc := 62) C S lf_X5_40 fp_X5_3 rfl hg14 dX5_init_62 (fun H locs S => ?_)
  cases hyp
  exact jr_gret C hO S dX5_init_65
theorem c_X5_init {l : Launch} {D : va_G} {cy : Nat → ClassId} {B Lm : Nat} {g res : jm_G} {a0 : Nat} (h_a0 : a0 ≠ 0) {a1 : Nat} {a2 : Nat} (h1 : g.1 ≤ Lm) (h2 : Lm ≤ 1000000) (hyp : f_X5_init Lm a0 a1 a2 g = some res) : jCtA l D cy B 1 Lm yX5_init cX5_init 3 [jR B a0, jR B a1, jR B a2] g res :=
  jcA_of (by decide) (fun v h => by simp only [List.mem_cons, List.not_mem_nil, or_false] at h; rcases h with rfl | rfl | rfl <;> first | rfl | exact jR_cat _ _) (Nat.le_of_ble_eq_true rfl) h1 h2 (fun C hin hO S L => t_X5_init_e C hin hO h_a0 S L hyp)
set_option maxHeartbeats 4000000 in
set_option maxRecDepth 100000 in
theorem t_X6_init_e {p : Program} {l : Launch} {e : Env} {s : State} {mi : MethodId} {args : Array Value} {below : List Frame} {meth : Method} {c : Code} {D : va_G} {cy : Nat → ClassId} {B n0 Lm : Nat} {res : jm_G} (C : jCx p s mi args meth c cX6_init 3 RX6 none D cy) (hin : meth.name = "<init>") (hO : jAO s) {a0 : Nat} (h_a0 : a0 ≠ 0) {a1 : Nat} {a2 : Nat} {g : jm_G} {H : Heap} {locs : List Loc} {ls : Array Slot} (S : jHA D cy B 0 n0 Lm g s s.heap H locs) (L : jL ls [some (jR B a0), some (jR B a1), some (jR B a2)]) (hyp : f_X6_init Lm a0 a1 a2 g = some res) : W p l e (jrm 1 (Lm - n0) (jq (Lm - n0))) s mi args below meth c H locs (0 + (g.1 - n0)) (jq (0 + (g.1 - n0))) (MQ below (jQcA D cy B res) args s (Lm - n0) (jq (Lm - n0)) (fun q => B < q)) (F0 mi 0 ls []) := by
  unfold f_X6_init at hyp
  refine jr_aload_n (pc := 0) C L dX6_init_0 rfl rfl ?_
  refine jr_gobj (pc := 1) C L ko_X6_3 ko_i ko_c rfl h_a0 dX6_init_1 (Nat.le_of_ble_eq_true rfl) (by show _ ≤ 80 * _; simp [jR_cat, jI_cat]) ?_
  refine jr_aload_n (pc := 4) C L dX6_init_4 rfl rfl ?_
  refine jr_aload_n (pc := 5) C L dX6_init_5 rfl rfl ?_
  obtain ⟨g1, hg1, hyp⟩ := jbind hyp
  refine jr_gF (pc := 6) C hin S lf_X6_9 fo_X6_6 fp_X6_6 rfl jty_o hg1 dX6_init_6 (fun H locs S => ?_)
  refine jr_aload_n (pc := 9) C L dX6_init_9 rfl rfl ?_
  refine jr_aload_n (pc := 10) C L dX6_init_10 rfl rfl ?_
  obtain ⟨g2, hg2, hyp⟩ := jbind hyp
  refine jr_gF (pc := 11) C hin S lf_X6_15 fo_X6_7 fp_X6_7 rfl jty_o hg2 dX6_init_11 (fun H locs S => ?_)
  refine jr_aload_n (pc := 14) C L dX6_init_14 rfl rfl ?_
  refine jr_aload_n (pc := 15) C L dX6_init_15 rfl rfl ?_
  refine jr_iconst (pc := 16) C dX6_init_16 ?_
  obtain ⟨u3, hu3, hyp⟩ := jbind hyp
  obtain ⟨q4, hq4, hyp⟩ := jbind hyp
  refine jr_callV_R (pc := 17) C S.1 L (As := [jI 0]) (rest := [jR B a0]) (c_X1_textOf (m0 := g2.2.2) (show jIn 0 from ⟨by decide, by decide⟩) hq4) mv_X1_textOf ml_X6_19 rfl (jck_spec hu3) (by decide) rfl rfl rfl (by simp [jR_cat, jI_cat]) (jHA_cs S) dX6_init_17 (fun p5 H locs S1 => ?_)
  have S : jHA D cy B 0 n0 Lm g2 s s.heap H locs := S.mem S1 S.2.1 (by have h9 := S.fits (a := a1) (by rw [jck_spec hu3]; decide); omega)
  obtain ⟨g6, hg6, hyp⟩ := jbind hyp
  refine jr_gR (pc := 20) C S lf_X6_25 fp_X6_5 rfl hg6 dX6_init_20 (fun H locs S => ?_)
  cases hyp
  exact jr_gret C hO S dX6_init_23
theorem c_X6_init {l : Launch} {D : va_G} {cy : Nat → ClassId} {B Lm : Nat} {g res : jm_G} {a0 : Nat} (h_a0 : a0 ≠ 0) {a1 : Nat} {a2 : Nat} (h1 : g.1 ≤ Lm) (h2 : Lm ≤ 1000000) (hyp : f_X6_init Lm a0 a1 a2 g = some res) : jCtA l D cy B 1 Lm yX6_init cX6_init 3 [jR B a0, jR B a1, jR B a2] g res :=
  jcA_of (by decide) (fun v h => by simp only [List.mem_cons, List.not_mem_nil, or_false] at h; rcases h with rfl | rfl | rfl <;> first | rfl | exact jR_cat _ _) (Nat.le_of_ble_eq_true rfl) h1 h2 (fun C hin hO S L => t_X6_init_e C hin hO h_a0 S L hyp)
set_option maxHeartbeats 4000000 in
set_option maxRecDepth 100000 in
theorem t_X7_init_e {p : Program} {l : Launch} {e : Env} {s : State} {mi : MethodId} {args : Array Value} {below : List Frame} {meth : Method} {c : Code} {D : va_G} {cy : Nat → ClassId} {B n0 Lm : Nat} {res : jm_G} (C : jCx p s mi args meth c cX7_init 1 RX7 none D cy) (hin : meth.name = "<init>") (hO : jAO s) {a0 : Nat} (h_a0 : a0 ≠ 0) {g : jm_G} {H : Heap} {locs : List Loc} {ls : Array Slot} (S : jHA D cy B 0 n0 Lm g s s.heap H locs) (L : jL ls [some (jR B a0)]) (hyp : f_X7_init Lm a0 g = some res) : W p l e (jrm 1 (Lm - n0) (jq (Lm - n0))) s mi args below meth c H locs (0 + (g.1 - n0)) (jq (0 + (g.1 - n0))) (MQ below (jQcA D cy B res) args s (Lm - n0) (jq (Lm - n0)) (fun q => B < q)) (F0 mi 0 ls []) := by
  unfold f_X7_init at hyp
  refine jr_aload_n (pc := 0) C L dX7_init_0 rfl rfl ?_
  refine jr_gobj (pc := 1) C L ko_X7_3 ko_i ko_c rfl h_a0 dX7_init_1 (Nat.le_of_ble_eq_true rfl) (by show _ ≤ 80 * _; simp [jR_cat, jI_cat]) ?_
  refine jr_aload_n (pc := 4) C L dX7_init_4 rfl rfl ?_
  refine jr_bipush (pc := 5) C dX7_init_5 (by decide) ?_
  obtain ⟨g1, hg1, hyp⟩ := jbind hyp
  refine jr_newa (pc := 7) (atype := .int) jRo_self C S (show jIn 8 from ⟨by decide, by decide⟩) (by decide) ka_int hg1 dX7_init_7 (fun H S => ?_)
  obtain ⟨g2, hg2, hyp⟩ := jbind hyp
  refine jr_gF (pc := 9) C hin S lf_X7_9 fo_X7_3 fp_X7_3 rfl jty_a hg2 dX7_init_9 (fun H locs S => ?_)
  refine jr_aload_n (pc := 12) C L dX7_init_12 rfl rfl ?_
  refine jr_bipush (pc := 13) C dX7_init_13 (by decide) ?_
  obtain ⟨g3, hg3, hyp⟩ := jbind hyp
  refine jr_newa (pc := 15) (atype := .int) jRo_self C S (show jIn 8 from ⟨by decide, by decide⟩) (by decide) ka_int hg3 dX7_init_15 (fun H S => ?_)
  obtain ⟨g4, hg4, hyp⟩ := jbind hyp
  refine jr_gF (pc := 17) C hin S lf_X7_15 fo_X7_4 fp_X7_4 rfl jty_a hg4 dX7_init_17 (fun H locs S => ?_)
  refine jr_aload_n (pc := 20) C L dX7_init_20 rfl rfl ?_
  refine jr_iconst (pc := 21) C dX7_init_21 ?_
  obtain ⟨g5, hg5, hyp⟩ := jbind hyp
  refine jr_newa (pc := 22) (atype := .int) jRo_self C S (show jIn 4 from ⟨by decide, by decide⟩) (by decide) ka_int hg5 dX7_init_22 (fun H S => ?_)
  obtain ⟨g6, hg6, hyp⟩ := jbind hyp
  refine jr_gF (pc := 24) C hin S lf_X7_18 fo_X7_5 fp_X7_5 rfl jty_a hg6 dX7_init_24 (fun H locs S => ?_)
  refine jr_aload_n (pc := 27) C L dX7_init_27 rfl rfl ?_
  refine jr_iconst (pc := 28) C dX7_init_28 ?_
  obtain ⟨g7, hg7, hyp⟩ := jbind hyp
  refine jr_newa (pc := 29) (atype := .int) jRo_self C S (show jIn 4 from ⟨by decide, by decide⟩) (by decide) ka_int hg7 dX7_init_29 (fun H S => ?_)
  obtain ⟨g8, hg8, hyp⟩ := jbind hyp
  refine jr_gF (pc := 31) C hin S lf_X7_21 fo_X7_6 fp_X7_6 rfl jty_a hg8 dX7_init_31 (fun H locs S => ?_)
  refine jr_aload_n (pc := 34) C L dX7_init_34 rfl rfl ?_
  refine jr_iconst (pc := 35) C dX7_init_35 ?_
  obtain ⟨g9, hg9, hyp⟩ := jbind hyp
  refine jr_newa (pc := 36) (atype := .int) jRo_self C S (show jIn 4 from ⟨by decide, by decide⟩) (by decide) ka_int hg9 dX7_init_36 (fun H S => ?_)
  obtain ⟨g10, hg10, hyp⟩ := jbind hyp
  refine jr_gF (pc := 38) C hin S lf_X7_24 fo_X7_7 fp_X7_7 rfl jty_a hg10 dX7_init_38 (fun H locs S => ?_)
  refine jr_aload_n (pc := 41) C L dX7_init_41 rfl rfl ?_
  refine jr_iconst (pc := 42) C dX7_init_42 ?_
  obtain ⟨g11, hg11, hyp⟩ := jbind hyp
  refine jr_newa (pc := 43) (atype := .int) jRo_self C S (show jIn 4 from ⟨by decide, by decide⟩) (by decide) ka_int hg11 dX7_init_43 (fun H S => ?_)
  obtain ⟨g12, hg12, hyp⟩ := jbind hyp
  refine jr_gF (pc := 45) C hin S lf_X7_27 fo_X7_8 fp_X7_8 rfl jty_a hg12 dX7_init_45 (fun H locs S => ?_)
  refine jr_aload_n (pc := 48) C L dX7_init_48 rfl rfl ?_
  refine jr_bipush (pc := 49) C dX7_init_49 (by decide) ?_
  refine jr_bipush (pc := 51) C dX7_init_51 (by decide) ?_
  obtain ⟨g13, hg13, hyp⟩ := jbind hyp
  refine jr_new2 (pc := 53) jRo_self C hO S (show jIn 8 from ⟨by decide, by decide⟩) (show jIn 65 from ⟨by decide, by decide⟩) kl_X7_30 ka_int hg13 dX7_init_53 (fun H S => ?_)
  obtain ⟨g14, hg14, hyp⟩ := jbind hyp
  refine jr_gF (pc := 57) C hin S lf_X7_32 fo_X7_9 fp_X7_9 rfl jty_a hg14 dX7_init_57 (fun H locs S => ?_)
  cases hyp
  exact jr_gret C hO S dX7_init_60
theorem c_X7_init {l : Launch} {D : va_G} {cy : Nat → ClassId} {B Lm : Nat} {g res : jm_G} {a0 : Nat} (h_a0 : a0 ≠ 0) (h1 : g.1 ≤ Lm) (h2 : Lm ≤ 1000000) (hyp : f_X7_init Lm a0 g = some res) : jCtA l D cy B 1 Lm yX7_init cX7_init 1 [jR B a0] g res :=
  jcA_of (by decide) (fun v h => by rw [List.mem_singleton.mp h]; first | rfl | exact jR_cat _ _) (Nat.le_of_ble_eq_true rfl) h1 h2 (fun C hin hO S L => t_X7_init_e C hin hO h_a0 S L hyp)
set_option maxHeartbeats 4000000 in
set_option maxRecDepth 100000 in
theorem t_X8_init_b55 {p : Program} {l : Launch} {e : Env} {s : State} {mi : MethodId} {args : Array Value} {below : List Frame} {meth : Method} {c : Code} {D : va_G} {cy : Nat → ClassId} {B n0 Lm : Nat} {res : jm_G} {N : Nat} {k55 : Nat → Int → jm_G → Option jm_G} (C : jCx p s mi args meth c cX8_init 4 RX8 none D cy) (hin : meth.name = "<init>") (hO : jAO s) (K55 : ∀ (a0 : Nat) (x3 : Int) , jIn x3 → a0 ≠ 0 → ∀ (g : jm_G) (H : Heap) (locs : List Loc) (ls : Array Slot), jHA D cy B 0 n0 Lm g s s.heap H locs → jL ls [some (jR B a0), none, none, some (jI x3)] → k55 a0 x3 g = some res → W p l e (jrm 2 (Lm - n0) (jq (Lm - n0))) s mi args below meth c H locs (0 + (g.1 - n0)) (jq (0 + (g.1 - n0))) (MQ below (jQcA D cy B res) args s (Lm - n0) (jq (Lm - n0)) (fun q => B < q)) (F0 mi 55 ls [])) {a0 : Nat} (h_a0 : a0 ≠ 0) {x3 : Int} (h_x3 : jIn x3) {g : jm_G} {H : Heap} {locs : List Loc} {ls : Array Slot} (S : jHA D cy B 0 n0 Lm g s s.heap H locs) (L : jL ls [some (jR B a0), none, none, some (jI x3)]) (hyp : f_X8_init_b55 N Lm k55 a0 x3 g = some res) : W p l e (jrm 2 (Lm - n0) (jq (Lm - n0))) s mi args below meth c H locs (0 + (g.1 - n0)) (jq (0 + (g.1 - n0))) (MQ below (jQcA D cy B res) args s (Lm - n0) (jq (Lm - n0)) (fun q => B < q)) (F0 mi 55 ls []) := by
  unfold f_X8_init_b55 at hyp
  refine jr_iload_n (pc := 55) C L dX8_init_55 rfl rfl ?_
  refine jr_aload_n (pc := 56) C L dX8_init_56 rfl rfl ?_
  obtain ⟨v1, hv1, hyp⟩ := jbind hyp
  refine jr_getR (pc := 57) C S.1 lf_X8_21 rfl hv1 dX8_init_57 ?_
  obtain ⟨v2, hv2, hyp⟩ := jbind hyp
  refine jr_alen (pc := 60) C S.1 hv2 dX8_init_60 ?_
  refine jr_icmp_ge (pc := 61) C h_x3 (jlen_in hv2) (tgt := 83) dX8_init_61 (by decide) (fun c3 => ?_) (fun c3 => ?_)
  · have hyp := (if_pos c3).symm.trans hyp
    refine jr_aload_n (pc := 64) C L dX8_init_64 rfl rfl ?_
    obtain ⟨v4, hv4, hyp⟩ := jbind hyp
    refine jr_getR (pc := 65) C S.1 lf_X8_21 rfl hv4 dX8_init_65 ?_
    refine jr_iload_n (pc := 68) C L dX8_init_68 rfl rfl ?_
    obtain ⟨g5, hg5, hyp⟩ := jbind hyp
    refine jr_new (pc := 69) jRo_self C S nc_X8_9 hg5 dX8_init_69 (fun H S => ?_)
    refine jr_dupR (pc := 72) C dX8_init_72 ?_
    obtain ⟨g6, hg6, hyp⟩ := jbind hyp
    obtain ⟨u7, hu7, hyp⟩ := jbind hyp
    refine jr_gcallN (pc := 73) jRo_self C hO S L (cN := 3) (As := []) (rest := [jR B (g.1 + 1), jI x3, jR B v4.toNat]) (Nat.succ_ne_zero _) (c_X4_init (Nat.succ_ne_zero _) (by omega) (by have h6 := S.2.2.2.2.2.1; have h7 := (jgl_spec hu7).2; omega) hg6) mi_X4_init mn_X8_11 ⟨Nat.le_of_ble_eq_true rfl, Nat.le_of_ble_eq_true rfl⟩ (jgl_spec hu7).1 (jgl_spec hu7).2 rfl rfl rfl (by simp [jR_cat, jI_cat]) dX8_init_73 (fun H locs S => ?_)
    obtain ⟨u9, hu9, hyp⟩ := jbind hyp
    obtain ⟨g8, hg8, hyp⟩ := jbind hyp
    refine jr_gQ (pc := 76) C S h_x3 hu9 hg8 dX8_init_76 (fun H locs S => ?_)
    refine jr_iinc (pc := 77) C L dX8_init_77 rfl (Nat.le_of_ble_eq_true rfl) (fun ls L => ?_)
    have L : jL ls [some (jR B a0), none, none, some (jI (jw (x3 + 1)))] := L
    refine jr_goto (pc := 80) C (tgt := 55) dX8_init_80 (by decide) ?_
    exact K55 a0 (jw (x3 + 1)) (jIn_w _) h_a0 g8 _ _ _ S (L.sub (jsub_s (jsub_n (jsub_n (jsub_s jsub_0))))) hyp
  · have hyp := (if_neg c3).symm.trans hyp
    cases hyp
    exact jr_gret C hO S dX8_init_83
theorem t_X8_init_l55 {p : Program} {l : Launch} {e : Env} {s : State} {mi : MethodId} {args : Array Value} {below : List Frame} {meth : Method} {c : Code} {D : va_G} {cy : Nat → ClassId} {B n0 Lm : Nat} {res : jm_G} {N : Nat} (C : jCx p s mi args meth c cX8_init 4 RX8 none D cy) (hin : meth.name = "<init>") (hO : jAO s) : ∀ (n : Nat) (a0 : Nat) (x3 : Int), jIn x3 → a0 ≠ 0 → ∀ (g : jm_G) (H : Heap) (locs : List Loc) (ls : Array Slot), jHA D cy B 0 n0 Lm g s s.heap H locs → jL ls [some (jR B a0), none, none, some (jI x3)] → f_X8_init_l55 N Lm n a0 x3 g = some res → W p l e (jrm 2 (Lm - n0) (jq (Lm - n0))) s mi args below meth c H locs (0 + (g.1 - n0)) (jq (0 + (g.1 - n0))) (MQ below (jQcA D cy B res) args s (Lm - n0) (jq (Lm - n0)) (fun q => B < q)) (F0 mi 55 ls []) := by
  intro n
  induction n with
  | zero => intro a0 x3 h_x3 h_a0 g H locs ls S L hyp; cases hyp
  | succ n ih => intro a0 x3 h_x3 h_a0 g H locs ls S L hyp; exact t_X8_init_b55 (N := N) C hin hO ih h_a0 h_x3 S L hyp
set_option maxHeartbeats 4000000 in
set_option maxRecDepth 100000 in
theorem t_X8_init_e {p : Program} {l : Launch} {e : Env} {s : State} {mi : MethodId} {args : Array Value} {below : List Frame} {meth : Method} {c : Code} {D : va_G} {cy : Nat → ClassId} {B n0 Lm : Nat} {res : jm_G} {N : Nat} (C : jCx p s mi args meth c cX8_init 4 RX8 none D cy) (hin : meth.name = "<init>") (hO : jAO s) {a0 : Nat} (h_a0 : a0 ≠ 0) {a1 : Nat} {a2 : Nat} {g : jm_G} {H : Heap} {locs : List Loc} {ls : Array Slot} (S : jHA D cy B 0 n0 Lm g s s.heap H locs) (L : jL ls [some (jR B a0), some (jR B a1), some (jR B a2), none]) (hyp : f_X8_init N Lm a0 a1 a2 g = some res) : W p l e (jrm 2 (Lm - n0) (jq (Lm - n0))) s mi args below meth c H locs (0 + (g.1 - n0)) (jq (0 + (g.1 - n0))) (MQ below (jQcA D cy B res) args s (Lm - n0) (jq (Lm - n0)) (fun q => B < q)) (F0 mi 0 ls []) := by
  unfold f_X8_init at hyp
  refine jr_aload_n (pc := 0) C L dX8_init_0 rfl rfl ?_
  refine jr_gobj (pc := 1) C L ko_X8_3 ko_i ko_c rfl h_a0 dX8_init_1 (Nat.le_of_ble_eq_true rfl) (by show _ ≤ 80 * _; simp [jR_cat, jI_cat]) ?_
  refine jr_aload_n (pc := 4) C L dX8_init_4 rfl rfl ?_
  obtain ⟨g10, hg10, hyp⟩ := jbind hyp
  refine jr_new (pc := 5) jRo_self C S nc_X8_9 hg10 dX8_init_5 (fun H S => ?_)
  refine jr_dupR (pc := 8) C dX8_init_8 ?_
  obtain ⟨g11, hg11, hyp⟩ := jbind hyp
  obtain ⟨u12, hu12, hyp⟩ := jbind hyp
  refine jr_gcallN (pc := 9) jRo_self C hO S L (cN := 3) (As := []) (rest := [jR B (g.1 + 1), jR B a0]) (Nat.succ_ne_zero _) (c_X4_init (Nat.succ_ne_zero _) (by omega) (by have h6 := S.2.2.2.2.2.1; have h7 := (jgl_spec hu12).2; omega) hg11) mi_X4_init mn_X8_11 ⟨Nat.le_of_ble_eq_true rfl, Nat.le_of_ble_eq_true rfl⟩ (jgl_spec hu12).1 (jgl_spec hu12).2 rfl rfl rfl (by simp [jR_cat, jI_cat]) dX8_init_9 (fun H locs S => ?_)
  obtain ⟨g13, hg13, hyp⟩ := jbind hyp
  refine jr_gF (pc := 12) C hin S lf_X8_12 fo_X8_7 fp_X8_7 rfl jty_o hg13 dX8_init_12 (fun H locs S => ?_)
  refine jr_aload_n (pc := 15) C L dX8_init_15 rfl rfl ?_
  obtain ⟨g14, hg14, hyp⟩ := jbind hyp
  refine jr_new (pc := 16) jRo_self C S nc_X8_9 hg14 dX8_init_16 (fun H S => ?_)
  refine jr_dupR (pc := 19) C dX8_init_19 ?_
  obtain ⟨g15, hg15, hyp⟩ := jbind hyp
  obtain ⟨u16, hu16, hyp⟩ := jbind hyp
  refine jr_gcallN (pc := 20) jRo_self C hO S L (cN := 3) (As := []) (rest := [jR B (g13.1 + 1), jR B a0]) (Nat.succ_ne_zero _) (c_X4_init (Nat.succ_ne_zero _) (by omega) (by have h6 := S.2.2.2.2.2.1; have h7 := (jgl_spec hu16).2; omega) hg15) mi_X4_init mn_X8_11 ⟨Nat.le_of_ble_eq_true rfl, Nat.le_of_ble_eq_true rfl⟩ (jgl_spec hu16).1 (jgl_spec hu16).2 rfl rfl rfl (by simp [jR_cat, jI_cat]) dX8_init_20 (fun H locs S => ?_)
  obtain ⟨g17, hg17, hyp⟩ := jbind hyp
  refine jr_gF (pc := 23) C hin S lf_X8_18 fo_X8_8 fp_X8_8 rfl jty_o hg17 dX8_init_23 (fun H locs S => ?_)
  refine jr_aload_n (pc := 26) C L dX8_init_26 rfl rfl ?_
  refine jr_iconst (pc := 27) C dX8_init_27 ?_
  obtain ⟨g18, hg18, hyp⟩ := jbind hyp
  refine jr_newq (pc := 28) jRo_self C hO S (show jIn 5 from ⟨by decide, by decide⟩) kl_X8_9 hg18 dX8_init_28 (fun H S => ?_)
  obtain ⟨g19, hg19, hyp⟩ := jbind hyp
  refine jr_gF (pc := 31) C hin S lf_X8_21 fo_X8_9 fp_X8_9 rfl jty_a hg19 dX8_init_31 (fun H locs S => ?_)
  refine jr_aload_n (pc := 34) C L dX8_init_34 rfl rfl ?_
  refine jr_aload_n (pc := 35) C L dX8_init_35 rfl rfl ?_
  obtain ⟨g20, hg20, hyp⟩ := jbind hyp
  refine jr_gF (pc := 36) C hin S lf_X8_25 fo_X8_5 fp_X8_5 rfl jty_o hg20 dX8_init_36 (fun H locs S => ?_)
  refine jr_aload_n (pc := 39) C L dX8_init_39 rfl rfl ?_
  refine jr_aload_n (pc := 40) C L dX8_init_40 rfl rfl ?_
  obtain ⟨g21, hg21, hyp⟩ := jbind hyp
  refine jr_gF (pc := 41) C hin S lf_X8_29 fo_X8_6 fp_X8_6 rfl jty_o hg21 dX8_init_41 (fun H locs S => ?_)
  refine jr_aload_n (pc := 44) C L dX8_init_44 rfl rfl ?_
  refine jr_aload_n (pc := 45) C L dX8_init_45 rfl rfl ?_
  refine jr_iconst (pc := 46) C dX8_init_46 ?_
  obtain ⟨u22, hu22, hyp⟩ := jbind hyp
  obtain ⟨q23, hq23, hyp⟩ := jbind hyp
  refine jr_callV_R (pc := 47) C S.1 L (As := [jI 0]) (rest := [jR B a0]) (c_X1_textOf (m0 := g21.2.2) (show jIn 0 from ⟨by decide, by decide⟩) hq23) mv_X1_textOf ml_X8_33 rfl (jck_spec hu22) (by decide) rfl rfl rfl (by simp [jR_cat, jI_cat]) (jHA_cs S) dX8_init_47 (fun p24 H locs S1 => ?_)
  have S : jHA D cy B 0 n0 Lm g21 s s.heap H locs := S.mem S1 S.2.1 (by have h9 := S.fits (a := a1) (by rw [jck_spec hu22]; decide); omega)
  obtain ⟨g25, hg25, hyp⟩ := jbind hyp
  refine jr_gR (pc := 50) C S lf_X8_39 fp_X8_4 rfl hg25 dX8_init_50 (fun H locs S => ?_)
  refine jr_iconst (pc := 53) C dX8_init_53 ?_
  refine jr_istore_n (pc := 54) C L dX8_init_54 rfl (Nat.le_of_ble_eq_true rfl) (fun ls L => ?_)
  have L : jL ls [some (jR B a0), some (jR B a1), some (jR B a2), some (jI 0)] := L
  exact t_X8_init_l55 C hin hO N a0 0 (show jIn 0 from ⟨by decide, by decide⟩) h_a0 g25 _ _ _ S (L.sub (jsub_s (jsub_n (jsub_n (jsub_s jsub_0))))) hyp
theorem c_X8_init {l : Launch} {D : va_G} {cy : Nat → ClassId} {B Lm : Nat} {g res : jm_G} {N : Nat} {a0 : Nat} (h_a0 : a0 ≠ 0) {a1 : Nat} {a2 : Nat} (h1 : g.1 ≤ Lm) (h2 : Lm ≤ 1000000) (hyp : f_X8_init N Lm a0 a1 a2 g = some res) : jCtA l D cy B 2 Lm yX8_init cX8_init 4 [jR B a0, jR B a1, jR B a2] g res :=
  jcA_of (by decide) (fun v h => by simp only [List.mem_cons, List.not_mem_nil, or_false] at h; rcases h with rfl | rfl | rfl <;> first | rfl | exact jR_cat _ _) (Nat.le_of_ble_eq_true rfl) h1 h2 (fun C hin hO S L => t_X8_init_e C hin hO h_a0 S L hyp)
set_option maxHeartbeats 4000000 in
set_option maxRecDepth 100000 in
theorem t_X9_init_e {p : Program} {l : Launch} {e : Env} {s : State} {mi : MethodId} {args : Array Value} {below : List Frame} {meth : Method} {c : Code} {D : va_G} {cy : Nat → ClassId} {B n0 Lm : Nat} {res : jm_G} (C : jCx p s mi args meth c cX9_init 3 RX9 none D cy) (hin : meth.name = "<init>") (hO : jAO s) {a0 : Nat} (h_a0 : a0 ≠ 0) {a1 : Nat} {a2 : Nat} {g : jm_G} {H : Heap} {locs : List Loc} {ls : Array Slot} (S : jHA D cy B 0 n0 Lm g s s.heap H locs) (L : jL ls [some (jR B a0), some (jR B a1), some (jR B a2)]) (hyp : f_X9_init Lm a0 a1 a2 g = some res) : W p l e (jrm 1 (Lm - n0) (jq (Lm - n0))) s mi args below meth c H locs (0 + (g.1 - n0)) (jq (0 + (g.1 - n0))) (MQ below (jQcA D cy B res) args s (Lm - n0) (jq (Lm - n0)) (fun q => B < q)) (F0 mi 0 ls []) := by
  unfold f_X9_init at hyp
  refine jr_aload_n (pc := 0) C L dX9_init_0 rfl rfl ?_
  refine jr_gobj (pc := 1) C L ko_X9_3 ko_i ko_c rfl h_a0 dX9_init_1 (Nat.le_of_ble_eq_true rfl) (by show _ ≤ 80 * _; simp [jR_cat, jI_cat]) ?_
  refine jr_aload_n (pc := 4) C L dX9_init_4 rfl rfl ?_
  refine jr_iconst (pc := 5) C dX9_init_5 ?_
  obtain ⟨g1, hg1, hyp⟩ := jbind hyp
  refine jr_newa (pc := 6) (atype := .int) jRo_self C S (show jIn 4 from ⟨by decide, by decide⟩) (by decide) ka_int hg1 dX9_init_6 (fun H S => ?_)
  obtain ⟨g2, hg2, hyp⟩ := jbind hyp
  refine jr_gF (pc := 8) C hin S lf_X9_9 fo_X9_3 fp_X9_3 rfl jty_a hg2 dX9_init_8 (fun H locs S => ?_)
  refine jr_aload_n (pc := 11) C L dX9_init_11 rfl rfl ?_
  refine jr_aload_n (pc := 12) C L dX9_init_12 rfl rfl ?_
  obtain ⟨g3, hg3, hyp⟩ := jbind hyp
  refine jr_gF (pc := 13) C hin S lf_X9_15 fo_X9_1 fp_X9_1 rfl jty_o hg3 dX9_init_13 (fun H locs S => ?_)
  refine jr_aload_n (pc := 16) C L dX9_init_16 rfl rfl ?_
  refine jr_aload_n (pc := 17) C L dX9_init_17 rfl rfl ?_
  obtain ⟨g4, hg4, hyp⟩ := jbind hyp
  refine jr_gF (pc := 18) C hin S lf_X9_19 fo_X9_2 fp_X9_2 rfl jty_o hg4 dX9_init_18 (fun H locs S => ?_)
  cases hyp
  exact jr_gret C hO S dX9_init_21
theorem c_X9_init {l : Launch} {D : va_G} {cy : Nat → ClassId} {B Lm : Nat} {g res : jm_G} {a0 : Nat} (h_a0 : a0 ≠ 0) {a1 : Nat} {a2 : Nat} (h1 : g.1 ≤ Lm) (h2 : Lm ≤ 1000000) (hyp : f_X9_init Lm a0 a1 a2 g = some res) : jCtA l D cy B 1 Lm yX9_init cX9_init 3 [jR B a0, jR B a1, jR B a2] g res :=
  jcA_of (by decide) (fun v h => by simp only [List.mem_cons, List.not_mem_nil, or_false] at h; rcases h with rfl | rfl | rfl <;> first | rfl | exact jR_cat _ _) (Nat.le_of_ble_eq_true rfl) h1 h2 (fun C hin hO S L => t_X9_init_e C hin hO h_a0 S L hyp)
set_option maxHeartbeats 4000000 in
set_option maxRecDepth 100000 in
theorem t_X11_init_e {p : Program} {l : Launch} {e : Env} {s : State} {mi : MethodId} {args : Array Value} {below : List Frame} {meth : Method} {c : Code} {D : va_G} {cy : Nat → ClassId} {B n0 Lm : Nat} {res : jm_G} {N : Nat} (C : jCx p s mi args meth c cX11_init 2 RX11 none D cy) (hin : meth.name = "<init>") (hO : jAO s) {a0 : Nat} (h_a0 : a0 ≠ 0) {g : jm_G} {H : Heap} {locs : List Loc} {ls : Array Slot} (S : jHA D cy B 0 n0 Lm g s s.heap H locs) (L : jL ls [some (jR B a0), none]) (hyp : f_X11_init N Lm a0 g = some res) : W p l e (jrm 3 (Lm - n0) (jq (Lm - n0))) s mi args below meth c H locs (0 + (g.1 - n0)) (jq (0 + (g.1 - n0))) (MQ below (jQcA D cy B res) args s (Lm - n0) (jq (Lm - n0)) (fun q => B < q)) (F0 mi 0 ls []) := by
  unfold f_X11_init at hyp
  refine jr_aload_n (pc := 0) C L dX11_init_0 rfl rfl ?_
  refine jr_gobj (pc := 1) C L ko_X11_1 ko_i ko_c rfl h_a0 dX11_init_1 (Nat.le_of_ble_eq_true rfl) (by show _ ≤ 80 * _; simp [jR_cat, jI_cat]) ?_
  refine jr_aload_n (pc := 4) C L dX11_init_4 rfl rfl ?_
  obtain ⟨g1, hg1, hyp⟩ := jbind hyp
  refine jr_new (pc := 5) jRo_self C S nc_X11_7 hg1 dX11_init_5 (fun H S => ?_)
  refine jr_dupR (pc := 8) C dX11_init_8 ?_
  obtain ⟨g2, hg2, hyp⟩ := jbind hyp
  obtain ⟨u3, hu3, hyp⟩ := jbind hyp
  refine jr_gcallN (pc := 9) jRo_self C hO S L (cN := 19) (As := []) (rest := [jR B (g.1 + 1), jR B a0]) (Nat.succ_ne_zero _) (c_X1_init (Nat.succ_ne_zero _) (by omega) (by have h6 := S.2.2.2.2.2.1; have h7 := (jgl_spec hu3).2; omega) hg2) mi_X1_init mn_X11_9 ⟨Nat.le_of_ble_eq_true rfl, Nat.le_of_ble_eq_true rfl⟩ (jgl_spec hu3).1 (jgl_spec hu3).2 rfl rfl rfl (by simp [jR_cat, jI_cat]) dX11_init_9 (fun H locs S => ?_)
  obtain ⟨g4, hg4, hyp⟩ := jbind hyp
  refine jr_gF (pc := 12) C hin S lf_X11_10 fo_X11_0 fp_X11_0 rfl jty_o hg4 dX11_init_12 (fun H locs S => ?_)
  refine jr_aload_n (pc := 15) C L dX11_init_15 rfl rfl ?_
  obtain ⟨g5, hg5, hyp⟩ := jbind hyp
  refine jr_new (pc := 16) jRo_self C S nc_X11_7 hg5 dX11_init_16 (fun H S => ?_)
  refine jr_dupR (pc := 19) C dX11_init_19 ?_
  obtain ⟨g6, hg6, hyp⟩ := jbind hyp
  obtain ⟨u7, hu7, hyp⟩ := jbind hyp
  refine jr_gcallN (pc := 20) jRo_self C hO S L (cN := 19) (As := []) (rest := [jR B (g4.1 + 1), jR B a0]) (Nat.succ_ne_zero _) (c_X1_init (Nat.succ_ne_zero _) (by omega) (by have h6 := S.2.2.2.2.2.1; have h7 := (jgl_spec hu7).2; omega) hg6) mi_X1_init mn_X11_9 ⟨Nat.le_of_ble_eq_true rfl, Nat.le_of_ble_eq_true rfl⟩ (jgl_spec hu7).1 (jgl_spec hu7).2 rfl rfl rfl (by simp [jR_cat, jI_cat]) dX11_init_20 (fun H locs S => ?_)
  obtain ⟨g8, hg8, hyp⟩ := jbind hyp
  refine jr_gF (pc := 23) C hin S lf_X11_16 fo_X11_1 fp_X11_1 rfl jty_o hg8 dX11_init_23 (fun H locs S => ?_)
  refine jr_aload_n (pc := 26) C L dX11_init_26 rfl rfl ?_
  obtain ⟨g9, hg9, hyp⟩ := jbind hyp
  refine jr_new (pc := 27) jRo_self C S nc_X11_7 hg9 dX11_init_27 (fun H S => ?_)
  refine jr_dupR (pc := 30) C dX11_init_30 ?_
  obtain ⟨g10, hg10, hyp⟩ := jbind hyp
  obtain ⟨u11, hu11, hyp⟩ := jbind hyp
  refine jr_gcallN (pc := 31) jRo_self C hO S L (cN := 19) (As := []) (rest := [jR B (g8.1 + 1), jR B a0]) (Nat.succ_ne_zero _) (c_X1_init (Nat.succ_ne_zero _) (by omega) (by have h6 := S.2.2.2.2.2.1; have h7 := (jgl_spec hu11).2; omega) hg10) mi_X1_init mn_X11_9 ⟨Nat.le_of_ble_eq_true rfl, Nat.le_of_ble_eq_true rfl⟩ (jgl_spec hu11).1 (jgl_spec hu11).2 rfl rfl rfl (by simp [jR_cat, jI_cat]) dX11_init_31 (fun H locs S => ?_)
  obtain ⟨g12, hg12, hyp⟩ := jbind hyp
  refine jr_gF (pc := 34) C hin S lf_X11_19 fo_X11_2 fp_X11_2 rfl jty_o hg12 dX11_init_34 (fun H locs S => ?_)
  refine jr_aload_n (pc := 37) C L dX11_init_37 rfl rfl ?_
  obtain ⟨g13, hg13, hyp⟩ := jbind hyp
  refine jr_new (pc := 38) jRo_self C S nc_X11_22 hg13 dX11_init_38 (fun H S => ?_)
  refine jr_dupR (pc := 41) C dX11_init_41 ?_
  obtain ⟨g14, hg14, hyp⟩ := jbind hyp
  obtain ⟨u15, hu15, hyp⟩ := jbind hyp
  refine jr_gcallN (pc := 42) jRo_self C hO S L (cN := 2) (As := []) (rest := [jR B (g12.1 + 1), jR B a0]) (Nat.succ_ne_zero _) (c_X3_init (Nat.succ_ne_zero _) (by omega) (by have h6 := S.2.2.2.2.2.1; have h7 := (jgl_spec hu15).2; omega) hg14) mi_X3_init mn_X11_24 ⟨Nat.le_of_ble_eq_true rfl, Nat.le_of_ble_eq_true rfl⟩ (jgl_spec hu15).1 (jgl_spec hu15).2 rfl rfl rfl (by simp [jR_cat, jI_cat]) dX11_init_42 (fun H locs S => ?_)
  obtain ⟨g16, hg16, hyp⟩ := jbind hyp
  refine jr_gF (pc := 45) C hin S lf_X11_25 fo_X11_3 fp_X11_3 rfl jty_o hg16 dX11_init_45 (fun H locs S => ?_)
  obtain ⟨g17, hg17, hyp⟩ := jbind hyp
  refine jr_new (pc := 48) jRo_self C S nc_X11_29 hg17 dX11_init_48 (fun H S => ?_)
  refine jr_dupR (pc := 51) C dX11_init_51 ?_
  obtain ⟨g18, hg18, hyp⟩ := jbind hyp
  obtain ⟨u19, hu19, hyp⟩ := jbind hyp
  refine jr_gcallN (pc := 52) jRo_self C hO S L (cN := 15) (As := []) (rest := [jR B (g16.1 + 1)]) (Nat.succ_ne_zero _) (c_X7_init (Nat.succ_ne_zero _) (by omega) (by have h6 := S.2.2.2.2.2.1; have h7 := (jgl_spec hu19).2; omega) hg18) mi_X7_init mn_X11_31 ⟨Nat.le_of_ble_eq_true rfl, Nat.le_of_ble_eq_true rfl⟩ (jgl_spec hu19).1 (jgl_spec hu19).2 rfl rfl rfl (by simp [jR_cat, jI_cat]) dX11_init_52 (fun H locs S => ?_)
  refine jr_astore_n (pc := 55) C L dX11_init_55 rfl (Nat.le_of_ble_eq_true rfl) (fun ls L => ?_)
  have L : jL ls [some (jR B a0), some (jR B (g16.1 + 1))] := L
  refine jr_aload_n (pc := 56) C L dX11_init_56 rfl rfl ?_
  obtain ⟨g20, hg20, hyp⟩ := jbind hyp
  refine jr_new (pc := 57) jRo_self C S nc_X11_32 hg20 dX11_init_57 (fun H S => ?_)
  refine jr_dupR (pc := 60) C dX11_init_60 ?_
  refine jr_aload_n (pc := 61) C L dX11_init_61 rfl rfl ?_
  obtain ⟨v21, hv21, hyp⟩ := jbind hyp
  refine jr_getR (pc := 62) C S.1 lf_X11_10 rfl hv21 dX11_init_62 ?_
  refine jr_aload_n (pc := 65) C L dX11_init_65 rfl rfl ?_
  obtain ⟨g22, hg22, hyp⟩ := jbind hyp
  obtain ⟨u23, hu23, hyp⟩ := jbind hyp
  refine jr_gcall (pc := 66) jRo_self C hO S L (cN := 0) (As := [jR B v21.toNat, jR B (g16.1 + 1)]) (rest := [jR B (g18.1 + 1), jR B a0]) (Nat.succ_ne_zero _) (c_X6_init (Nat.succ_ne_zero _) (by omega) (by have h6 := S.2.2.2.2.2.1; have h7 := (jgl_spec hu23).2; omega) hg22) mi_X6_init ml_X11_34 ⟨Nat.le_of_ble_eq_true rfl, Nat.le_of_ble_eq_true rfl⟩ (jgl_spec hu23).1 (jgl_spec hu23).2 rfl rfl rfl (by simp [jR_cat, jI_cat]) dX11_init_66 (fun H locs S => ?_)
  obtain ⟨g24, hg24, hyp⟩ := jbind hyp
  refine jr_gF (pc := 69) C hin S lf_X11_37 fo_X11_4 fp_X11_4 rfl jty_o hg24 dX11_init_69 (fun H locs S => ?_)
  refine jr_aload_n (pc := 72) C L dX11_init_72 rfl rfl ?_
  obtain ⟨g25, hg25, hyp⟩ := jbind hyp
  refine jr_new (pc := 73) jRo_self C S nc_X11_41 hg25 dX11_init_73 (fun H S => ?_)
  refine jr_dupR (pc := 76) C dX11_init_76 ?_
  refine jr_aload_n (pc := 77) C L dX11_init_77 rfl rfl ?_
  obtain ⟨v26, hv26, hyp⟩ := jbind hyp
  refine jr_getR (pc := 78) C S.1 lf_X11_10 rfl hv26 dX11_init_78 ?_
  refine jr_aload_n (pc := 81) C L dX11_init_81 rfl rfl ?_
  obtain ⟨g27, hg27, hyp⟩ := jbind hyp
  obtain ⟨u28, hu28, hyp⟩ := jbind hyp
  refine jr_gcall (pc := 82) jRo_self C hO S L (cN := 29) (As := [jR B v26.toNat, jR B (g16.1 + 1)]) (rest := [jR B (g24.1 + 1), jR B a0]) (Nat.succ_ne_zero _) (c_X8_init (Nat.succ_ne_zero _) (by omega) (by have h6 := S.2.2.2.2.2.1; have h7 := (jgl_spec hu28).2; omega) hg27) mi_X8_init ml_X11_43 ⟨Nat.le_of_ble_eq_true rfl, Nat.le_of_ble_eq_true rfl⟩ (jgl_spec hu28).1 (jgl_spec hu28).2 rfl rfl rfl (by simp [jR_cat, jI_cat]) dX11_init_82 (fun H locs S => ?_)
  obtain ⟨g29, hg29, hyp⟩ := jbind hyp
  refine jr_gF (pc := 85) C hin S lf_X11_44 fo_X11_5 fp_X11_5 rfl jty_o hg29 dX11_init_85 (fun H locs S => ?_)
  refine jr_aload_n (pc := 88) C L dX11_init_88 rfl rfl ?_
  obtain ⟨g30, hg30, hyp⟩ := jbind hyp
  refine jr_new (pc := 89) jRo_self C S nc_X11_48 hg30 dX11_init_89 (fun H S => ?_)
  refine jr_dupR (pc := 92) C dX11_init_92 ?_
  refine jr_aload_n (pc := 93) C L dX11_init_93 rfl rfl ?_
  obtain ⟨v31, hv31, hyp⟩ := jbind hyp
  refine jr_getR (pc := 94) C S.1 lf_X11_10 rfl hv31 dX11_init_94 ?_
  refine jr_aload_n (pc := 97) C L dX11_init_97 rfl rfl ?_
  obtain ⟨g32, hg32, hyp⟩ := jbind hyp
  obtain ⟨u33, hu33, hyp⟩ := jbind hyp
  refine jr_gcall (pc := 98) jRo_self C hO S L (cN := 29) (As := [jR B v31.toNat, jR B (g16.1 + 1)]) (rest := [jR B (g29.1 + 1), jR B a0]) (Nat.succ_ne_zero _) (c_X5_init (Nat.succ_ne_zero _) (by omega) (by have h6 := S.2.2.2.2.2.1; have h7 := (jgl_spec hu33).2; omega) hg32) mi_X5_init ml_X11_50 ⟨Nat.le_of_ble_eq_true rfl, Nat.le_of_ble_eq_true rfl⟩ (jgl_spec hu33).1 (jgl_spec hu33).2 rfl rfl rfl (by simp [jR_cat, jI_cat]) dX11_init_98 (fun H locs S => ?_)
  obtain ⟨g34, hg34, hyp⟩ := jbind hyp
  refine jr_gF (pc := 101) C hin S lf_X11_51 fo_X11_6 fp_X11_6 rfl jty_o hg34 dX11_init_101 (fun H locs S => ?_)
  refine jr_aload_n (pc := 104) C L dX11_init_104 rfl rfl ?_
  obtain ⟨g35, hg35, hyp⟩ := jbind hyp
  refine jr_new (pc := 105) jRo_self C S nc_X11_55 hg35 dX11_init_105 (fun H S => ?_)
  refine jr_dupR (pc := 108) C dX11_init_108 ?_
  refine jr_aload_n (pc := 109) C L dX11_init_109 rfl rfl ?_
  obtain ⟨v36, hv36, hyp⟩ := jbind hyp
  refine jr_getR (pc := 110) C S.1 lf_X11_10 rfl hv36 dX11_init_110 ?_
  obtain ⟨g37, hg37, hyp⟩ := jbind hyp
  obtain ⟨u38, hu38, hyp⟩ := jbind hyp
  refine jr_gcall (pc := 113) jRo_self C hO S L (cN := 44) (As := [jR B v36.toNat]) (rest := [jR B (g34.1 + 1), jR B a0]) (Nat.succ_ne_zero _) (c_X0_init (Nat.succ_ne_zero _) (by omega) (by have h6 := S.2.2.2.2.2.1; have h7 := (jgl_spec hu38).2; omega) hg37) mi_X0_init ml_X11_57 ⟨Nat.le_of_ble_eq_true rfl, Nat.le_of_ble_eq_true rfl⟩ (jgl_spec hu38).1 (jgl_spec hu38).2 rfl rfl rfl (by simp [jR_cat, jI_cat]) dX11_init_113 (fun H locs S => ?_)
  obtain ⟨g39, hg39, hyp⟩ := jbind hyp
  refine jr_gF (pc := 116) C hin S lf_X11_60 fo_X11_7 fp_X11_7 rfl jty_o hg39 dX11_init_116 (fun H locs S => ?_)
  refine jr_aload_n (pc := 119) C L dX11_init_119 rfl rfl ?_
  obtain ⟨g40, hg40, hyp⟩ := jbind hyp
  refine jr_new (pc := 120) jRo_self C S nc_X11_64 hg40 dX11_init_120 (fun H S => ?_)
  refine jr_dupR (pc := 123) C dX11_init_123 ?_
  refine jr_aload_n (pc := 124) C L dX11_init_124 rfl rfl ?_
  obtain ⟨v41, hv41, hyp⟩ := jbind hyp
  refine jr_getR (pc := 125) C S.1 lf_X11_10 rfl hv41 dX11_init_125 ?_
  refine jr_aload_n (pc := 128) C L dX11_init_128 rfl rfl ?_
  obtain ⟨v42, hv42, hyp⟩ := jbind hyp
  refine jr_getR (pc := 129) C S.1 lf_X11_60 rfl hv42 dX11_init_129 ?_
  obtain ⟨g43, hg43, hyp⟩ := jbind hyp
  obtain ⟨u44, hu44, hyp⟩ := jbind hyp
  refine jr_gcall (pc := 132) jRo_self C hO S L (cN := 2) (As := [jR B v41.toNat, jR B v42.toNat]) (rest := [jR B (g39.1 + 1), jR B a0]) (Nat.succ_ne_zero _) (c_X2_init (Nat.succ_ne_zero _) (by omega) (by have h6 := S.2.2.2.2.2.1; have h7 := (jgl_spec hu44).2; omega) hg43) mi_X2_init ml_X11_66 ⟨Nat.le_of_ble_eq_true rfl, Nat.le_of_ble_eq_true rfl⟩ (jgl_spec hu44).1 (jgl_spec hu44).2 rfl rfl rfl (by simp [jR_cat, jI_cat]) dX11_init_132 (fun H locs S => ?_)
  obtain ⟨g45, hg45, hyp⟩ := jbind hyp
  refine jr_gF (pc := 135) C hin S lf_X11_69 fo_X11_8 fp_X11_8 rfl jty_o hg45 dX11_init_135 (fun H locs S => ?_)
  refine jr_aload_n (pc := 138) C L dX11_init_138 rfl rfl ?_
  obtain ⟨g46, hg46, hyp⟩ := jbind hyp
  refine jr_new (pc := 139) jRo_self C S nc_X11_73 hg46 dX11_init_139 (fun H S => ?_)
  refine jr_dupR (pc := 142) C dX11_init_142 ?_
  refine jr_aload_n (pc := 143) C L dX11_init_143 rfl rfl ?_
  obtain ⟨v47, hv47, hyp⟩ := jbind hyp
  refine jr_getR (pc := 144) C S.1 lf_X11_10 rfl hv47 dX11_init_144 ?_
  refine jr_aload_n (pc := 147) C L dX11_init_147 rfl rfl ?_
  obtain ⟨v48, hv48, hyp⟩ := jbind hyp
  refine jr_getR (pc := 148) C S.1 lf_X11_44 rfl hv48 dX11_init_148 ?_
  obtain ⟨g49, hg49, hyp⟩ := jbind hyp
  obtain ⟨u50, hu50, hyp⟩ := jbind hyp
  refine jr_gcall (pc := 151) jRo_self C hO S L (cN := 1) (As := [jR B v47.toNat, jR B v48.toNat]) (rest := [jR B (g45.1 + 1), jR B a0]) (Nat.succ_ne_zero _) (c_X9_init (Nat.succ_ne_zero _) (by omega) (by have h6 := S.2.2.2.2.2.1; have h7 := (jgl_spec hu50).2; omega) hg49) mi_X9_init ml_X11_75 ⟨Nat.le_of_ble_eq_true rfl, Nat.le_of_ble_eq_true rfl⟩ (jgl_spec hu50).1 (jgl_spec hu50).2 rfl rfl rfl (by simp [jR_cat, jI_cat]) dX11_init_151 (fun H locs S => ?_)
  obtain ⟨g51, hg51, hyp⟩ := jbind hyp
  refine jr_gF (pc := 154) C hin S lf_X11_78 fo_X11_9 fp_X11_9 rfl jty_o hg51 dX11_init_154 (fun H locs S => ?_)
  cases hyp
  exact jr_gret C hO S dX11_init_157
theorem c_X11_init {l : Launch} {D : va_G} {cy : Nat → ClassId} {B Lm : Nat} {g res : jm_G} {N : Nat} {a0 : Nat} (h_a0 : a0 ≠ 0) (h1 : g.1 ≤ Lm) (h2 : Lm ≤ 1000000) (hyp : f_X11_init N Lm a0 g = some res) : jCtA l D cy B 3 Lm yX11_init cX11_init 2 [jR B a0] g res :=
  jcA_of (by decide) (fun v h => by rw [List.mem_singleton.mp h]; first | rfl | exact jR_cat _ _) (Nat.le_of_ble_eq_true rfl) h1 h2 (fun C hin hO S L => t_X11_init_e C hin hO h_a0 S L hyp)
set_option maxHeartbeats 4000000 in
set_option maxRecDepth 100000 in
theorem t_X12_init_b212 {p : Program} {l : Launch} {e : Env} {s : State} {mi : MethodId} {args : Array Value} {below : List Frame} {meth : Method} {c : Code} {D : va_G} {cy : Nat → ClassId} {B n0 Lm : Nat} {res : jm_G} {N : Nat} {k212 : Nat → Int → jm_G → Option jm_G} (C : jCx p s mi args meth c cX12_init 2 RX12 none D cy) (hin : meth.name = "<init>") (hO : jAO s) (K212 : ∀ (a0 : Nat) (x1 : Int) , jIn x1 → a0 ≠ 0 → ∀ (g : jm_G) (H : Heap) (locs : List Loc) (ls : Array Slot), jHA D cy B 0 n0 Lm g s s.heap H locs → jL ls [some (jR B a0), some (jI x1)] → k212 a0 x1 g = some res → W p l e (jrm 1 (Lm - n0) (jq (Lm - n0))) s mi args below meth c H locs (0 + (g.1 - n0)) (jq (0 + (g.1 - n0))) (MQ below (jQcA D cy B res) args s (Lm - n0) (jq (Lm - n0)) (fun q => B < q)) (F0 mi 212 ls [])) {a0 : Nat} (h_a0 : a0 ≠ 0) {x1 : Int} (h_x1 : jIn x1) {g : jm_G} {H : Heap} {locs : List Loc} {ls : Array Slot} (S : jHA D cy B 0 n0 Lm g s s.heap H locs) (L : jL ls [some (jR B a0), some (jI x1)]) (hyp : f_X12_init_b212 N Lm k212 a0 x1 g = some res) : W p l e (jrm 1 (Lm - n0) (jq (Lm - n0))) s mi args below meth c H locs (0 + (g.1 - n0)) (jq (0 + (g.1 - n0))) (MQ below (jQcA D cy B res) args s (Lm - n0) (jq (Lm - n0)) (fun q => B < q)) (F0 mi 212 ls []) := by
  unfold f_X12_init_b212 at hyp
  refine jr_iload_n (pc := 212) C L dX12_init_212 rfl rfl ?_
  refine jr_iconst (pc := 213) C dX12_init_213 ?_
  refine jr_icmp_ge (pc := 214) C h_x1 (show jIn 4 from ⟨by decide, by decide⟩) (tgt := 251) dX12_init_214 (by decide) (fun c1 => ?_) (fun c1 => ?_)
  · have hyp := (if_pos c1).symm.trans hyp
    refine jr_aload_n (pc := 217) C L dX12_init_217 rfl rfl ?_
    obtain ⟨v2, hv2, hyp⟩ := jbind hyp
    refine jr_getR (pc := 218) C S.1 lf_X12_16 rfl hv2 dX12_init_218 ?_
    refine jr_iload_n (pc := 221) C L dX12_init_221 rfl rfl ?_
    refine jr_iconst (pc := 222) C dX12_init_222 ?_
    obtain ⟨g3, hg3, hyp⟩ := jbind hyp
    refine jr_gA (pc := 223) C S h_x1 (show jIn 1 from ⟨by decide, by decide⟩) hg3 dX12_init_223 (fun H locs S => ?_)
    refine jr_aload_n (pc := 224) C L dX12_init_224 rfl rfl ?_
    obtain ⟨v4, hv4, hyp⟩ := jbind hyp
    refine jr_getR (pc := 225) C S.1 lf_X12_19 rfl hv4 dX12_init_225 ?_
    refine jr_bipush (pc := 228) C dX12_init_228 (by decide) ?_
    refine jr_iload_n (pc := 230) C L dX12_init_230 rfl rfl ?_
    refine jr_imul (pc := 231) C dX12_init_231 ?_
    refine jr_bipush (pc := 232) C dX12_init_232 (by decide) ?_
    obtain ⟨g5, hg5, hyp⟩ := jbind hyp
    refine jr_gA (pc := 234) C S (jIn_w _) (show jIn 45 from ⟨by decide, by decide⟩) hg5 dX12_init_234 (fun H locs S => ?_)
    refine jr_aload_n (pc := 235) C L dX12_init_235 rfl rfl ?_
    obtain ⟨v6, hv6, hyp⟩ := jbind hyp
    refine jr_getR (pc := 236) C S.1 lf_X12_22 rfl hv6 dX12_init_236 ?_
    refine jr_bipush (pc := 239) C dX12_init_239 (by decide) ?_
    refine jr_iload_n (pc := 241) C L dX12_init_241 rfl rfl ?_
    refine jr_imul (pc := 242) C dX12_init_242 ?_
    refine jr_iconst (pc := 243) C dX12_init_243 ?_
    obtain ⟨g7, hg7, hyp⟩ := jbind hyp
    refine jr_gA (pc := 244) C S (jIn_w _) (show jIn 1 from ⟨by decide, by decide⟩) hg7 dX12_init_244 (fun H locs S => ?_)
    refine jr_iinc (pc := 245) C L dX12_init_245 rfl (Nat.le_of_ble_eq_true rfl) (fun ls L => ?_)
    have L : jL ls [some (jR B a0), some (jI (jw (x1 + 1)))] := L
    refine jr_goto (pc := 248) C (tgt := 212) dX12_init_248 (by decide) ?_
    exact K212 a0 (jw (x1 + 1)) (jIn_w _) h_a0 g7 _ _ _ S (L.sub (jsub_s (jsub_s jsub_0))) hyp
  · have hyp := (if_neg c1).symm.trans hyp
    cases hyp
    exact jr_gret C hO S dX12_init_251
theorem t_X12_init_l212 {p : Program} {l : Launch} {e : Env} {s : State} {mi : MethodId} {args : Array Value} {below : List Frame} {meth : Method} {c : Code} {D : va_G} {cy : Nat → ClassId} {B n0 Lm : Nat} {res : jm_G} {N : Nat} (C : jCx p s mi args meth c cX12_init 2 RX12 none D cy) (hin : meth.name = "<init>") (hO : jAO s) : ∀ (n : Nat) (a0 : Nat) (x1 : Int), jIn x1 → a0 ≠ 0 → ∀ (g : jm_G) (H : Heap) (locs : List Loc) (ls : Array Slot), jHA D cy B 0 n0 Lm g s s.heap H locs → jL ls [some (jR B a0), some (jI x1)] → f_X12_init_l212 N Lm n a0 x1 g = some res → W p l e (jrm 1 (Lm - n0) (jq (Lm - n0))) s mi args below meth c H locs (0 + (g.1 - n0)) (jq (0 + (g.1 - n0))) (MQ below (jQcA D cy B res) args s (Lm - n0) (jq (Lm - n0)) (fun q => B < q)) (F0 mi 212 ls []) := by
  intro n
  induction n with
  | zero => intro a0 x1 h_x1 h_a0 g H locs ls S L hyp; cases hyp
  | succ n ih => intro a0 x1 h_x1 h_a0 g H locs ls S L hyp; exact t_X12_init_b212 (N := N) C hin hO ih h_a0 h_x1 S L hyp
set_option maxHeartbeats 4000000 in
set_option maxRecDepth 100000 in
theorem t_X12_init_e {p : Program} {l : Launch} {e : Env} {s : State} {mi : MethodId} {args : Array Value} {below : List Frame} {meth : Method} {c : Code} {D : va_G} {cy : Nat → ClassId} {B n0 Lm : Nat} {res : jm_G} {N : Nat} (C : jCx p s mi args meth c cX12_init 2 RX12 none D cy) (hin : meth.name = "<init>") (hO : jAO s) {a0 : Nat} (h_a0 : a0 ≠ 0) {g : jm_G} {H : Heap} {locs : List Loc} {ls : Array Slot} (S : jHA D cy B 0 n0 Lm g s s.heap H locs) (L : jL ls [some (jR B a0), none]) (hyp : f_X12_init N Lm a0 g = some res) : W p l e (jrm 1 (Lm - n0) (jq (Lm - n0))) s mi args below meth c H locs (0 + (g.1 - n0)) (jq (0 + (g.1 - n0))) (MQ below (jQcA D cy B res) args s (Lm - n0) (jq (Lm - n0)) (fun q => B < q)) (F0 mi 0 ls []) := by
  unfold f_X12_init at hyp
  refine jr_aload_n (pc := 0) C L dX12_init_0 rfl rfl ?_
  refine jr_gobj (pc := 1) C L ko_X12_1 ko_i ko_c rfl h_a0 dX12_init_1 (Nat.le_of_ble_eq_true rfl) (by show _ ≤ 80 * _; simp [jR_cat, jI_cat]) ?_
  refine jr_aload_n (pc := 4) C L dX12_init_4 rfl rfl ?_
  refine jr_iconst (pc := 5) C dX12_init_5 ?_
  obtain ⟨g8, hg8, hyp⟩ := jbind hyp
  refine jr_newa (pc := 6) (atype := .int) jRo_self C S (show jIn 4 from ⟨by decide, by decide⟩) (by decide) ka_int hg8 dX12_init_6 (fun H S => ?_)
  obtain ⟨g9, hg9, hyp⟩ := jbind hyp
  refine jr_gF (pc := 8) C hin S lf_X12_7 fo_X12_0 fp_X12_0 rfl jty_a hg9 dX12_init_8 (fun H locs S => ?_)
  refine jr_aload_n (pc := 11) C L dX12_init_11 rfl rfl ?_
  refine jr_bipush (pc := 12) C dX12_init_12 (by decide) ?_
  obtain ⟨g10, hg10, hyp⟩ := jbind hyp
  refine jr_newa (pc := 14) (atype := .int) jRo_self C S (show jIn 30 from ⟨by decide, by decide⟩) (by decide) ka_int hg10 dX12_init_14 (fun H S => ?_)
  obtain ⟨g11, hg11, hyp⟩ := jbind hyp
  refine jr_gF (pc := 16) C hin S lf_X12_13 fo_X12_2 fp_X12_2 rfl jty_a hg11 dX12_init_16 (fun H locs S => ?_)
  refine jr_aload_n (pc := 19) C L dX12_init_19 rfl rfl ?_
  refine jr_iconst (pc := 20) C dX12_init_20 ?_
  obtain ⟨g12, hg12, hyp⟩ := jbind hyp
  refine jr_newa (pc := 21) (atype := .int) jRo_self C S (show jIn 4 from ⟨by decide, by decide⟩) (by decide) ka_int hg12 dX12_init_21 (fun H S => ?_)
  obtain ⟨g13, hg13, hyp⟩ := jbind hyp
  refine jr_gF (pc := 23) C hin S lf_X12_16 fo_X12_3 fp_X12_3 rfl jty_a hg13 dX12_init_23 (fun H locs S => ?_)
  refine jr_aload_n (pc := 26) C L dX12_init_26 rfl rfl ?_
  refine jr_bipush (pc := 27) C dX12_init_27 (by decide) ?_
  obtain ⟨g14, hg14, hyp⟩ := jbind hyp
  refine jr_newa (pc := 29) (atype := .int) jRo_self C S (show jIn 120 from ⟨by decide, by decide⟩) (by decide) ka_int hg14 dX12_init_29 (fun H S => ?_)
  obtain ⟨g15, hg15, hyp⟩ := jbind hyp
  refine jr_gF (pc := 31) C hin S lf_X12_19 fo_X12_4 fp_X12_4 rfl jty_a hg15 dX12_init_31 (fun H locs S => ?_)
  refine jr_aload_n (pc := 34) C L dX12_init_34 rfl rfl ?_
  refine jr_bipush (pc := 35) C dX12_init_35 (by decide) ?_
  obtain ⟨g16, hg16, hyp⟩ := jbind hyp
  refine jr_newa (pc := 37) (atype := .int) jRo_self C S (show jIn 120 from ⟨by decide, by decide⟩) (by decide) ka_int hg16 dX12_init_37 (fun H S => ?_)
  obtain ⟨g17, hg17, hyp⟩ := jbind hyp
  refine jr_gF (pc := 39) C hin S lf_X12_22 fo_X12_5 fp_X12_5 rfl jty_a hg17 dX12_init_39 (fun H locs S => ?_)
  refine jr_aload_n (pc := 42) C L dX12_init_42 rfl rfl ?_
  refine jr_iconst (pc := 43) C dX12_init_43 ?_
  obtain ⟨g18, hg18, hyp⟩ := jbind hyp
  refine jr_newa (pc := 44) (atype := .int) jRo_self C S (show jIn 4 from ⟨by decide, by decide⟩) (by decide) ka_int hg18 dX12_init_44 (fun H S => ?_)
  obtain ⟨g19, hg19, hyp⟩ := jbind hyp
  refine jr_gF (pc := 46) C hin S lf_X12_25 fo_X12_6 fp_X12_6 rfl jty_a hg19 dX12_init_46 (fun H locs S => ?_)
  refine jr_aload_n (pc := 49) C L dX12_init_49 rfl rfl ?_
  refine jr_bipush (pc := 50) C dX12_init_50 (by decide) ?_
  obtain ⟨g20, hg20, hyp⟩ := jbind hyp
  refine jr_newa (pc := 52) (atype := .int) jRo_self C S (show jIn 20 from ⟨by decide, by decide⟩) (by decide) ka_int hg20 dX12_init_52 (fun H S => ?_)
  obtain ⟨g21, hg21, hyp⟩ := jbind hyp
  refine jr_gF (pc := 54) C hin S lf_X12_28 fo_X12_8 fp_X12_8 rfl jty_a hg21 dX12_init_54 (fun H locs S => ?_)
  refine jr_aload_n (pc := 57) C L dX12_init_57 rfl rfl ?_
  refine jr_iconst (pc := 58) C dX12_init_58 ?_
  obtain ⟨g22, hg22, hyp⟩ := jbind hyp
  refine jr_newa (pc := 59) (atype := .int) jRo_self C S (show jIn 5 from ⟨by decide, by decide⟩) (by decide) ka_int hg22 dX12_init_59 (fun H S => ?_)
  obtain ⟨g23, hg23, hyp⟩ := jbind hyp
  refine jr_gF (pc := 61) C hin S lf_X12_31 fo_X12_9 fp_X12_9 rfl jty_a hg23 dX12_init_61 (fun H locs S => ?_)
  refine jr_aload_n (pc := 64) C L dX12_init_64 rfl rfl ?_
  refine jr_sipush (pc := 65) C dX12_init_65 (by decide) ?_
  obtain ⟨g24, hg24, hyp⟩ := jbind hyp
  refine jr_newa (pc := 68) (atype := .int) jRo_self C S (show jIn 625 from ⟨by decide, by decide⟩) (by decide) ka_int hg24 dX12_init_68 (fun H S => ?_)
  obtain ⟨g25, hg25, hyp⟩ := jbind hyp
  refine jr_gF (pc := 70) C hin S lf_X12_34 fo_X12_11 fp_X12_11 rfl jty_a hg25 dX12_init_70 (fun H locs S => ?_)
  refine jr_aload_n (pc := 73) C L dX12_init_73 rfl rfl ?_
  refine jr_bipush (pc := 74) C dX12_init_74 (by decide) ?_
  obtain ⟨g26, hg26, hyp⟩ := jbind hyp
  refine jr_newa (pc := 76) (atype := .int) jRo_self C S (show jIn 6 from ⟨by decide, by decide⟩) (by decide) ka_int hg26 dX12_init_76 (fun H S => ?_)
  obtain ⟨g27, hg27, hyp⟩ := jbind hyp
  refine jr_gF (pc := 78) C hin S lf_X12_37 fo_X12_13 fp_X12_13 rfl jty_a hg27 dX12_init_78 (fun H locs S => ?_)
  refine jr_aload_n (pc := 81) C L dX12_init_81 rfl rfl ?_
  refine jr_bipush (pc := 82) C dX12_init_82 (by decide) ?_
  obtain ⟨g28, hg28, hyp⟩ := jbind hyp
  refine jr_newa (pc := 84) (atype := .int) jRo_self C S (show jIn 6 from ⟨by decide, by decide⟩) (by decide) ka_int hg28 dX12_init_84 (fun H S => ?_)
  obtain ⟨g29, hg29, hyp⟩ := jbind hyp
  refine jr_gF (pc := 86) C hin S lf_X12_40 fo_X12_14 fp_X12_14 rfl jty_a hg29 dX12_init_86 (fun H locs S => ?_)
  refine jr_aload_n (pc := 89) C L dX12_init_89 rfl rfl ?_
  refine jr_bipush (pc := 90) C dX12_init_90 (by decide) ?_
  obtain ⟨g30, hg30, hyp⟩ := jbind hyp
  refine jr_newa (pc := 92) (atype := .int) jRo_self C S (show jIn 6 from ⟨by decide, by decide⟩) (by decide) ka_int hg30 dX12_init_92 (fun H S => ?_)
  obtain ⟨g31, hg31, hyp⟩ := jbind hyp
  refine jr_gF (pc := 94) C hin S lf_X12_43 fo_X12_15 fp_X12_15 rfl jty_a hg31 dX12_init_94 (fun H locs S => ?_)
  refine jr_aload_n (pc := 97) C L dX12_init_97 rfl rfl ?_
  refine jr_sipush (pc := 98) C dX12_init_98 (by decide) ?_
  obtain ⟨g32, hg32, hyp⟩ := jbind hyp
  refine jr_newa (pc := 101) (atype := .int) jRo_self C S (show jIn 3750 from ⟨by decide, by decide⟩) (by decide) ka_int hg32 dX12_init_101 (fun H S => ?_)
  obtain ⟨g33, hg33, hyp⟩ := jbind hyp
  refine jr_gF (pc := 103) C hin S lf_X12_46 fo_X12_16 fp_X12_16 rfl jty_a hg33 dX12_init_103 (fun H locs S => ?_)
  refine jr_aload_n (pc := 106) C L dX12_init_106 rfl rfl ?_
  refine jr_sipush (pc := 107) C dX12_init_107 (by decide) ?_
  obtain ⟨g34, hg34, hyp⟩ := jbind hyp
  refine jr_newa (pc := 110) (atype := .int) jRo_self C S (show jIn 3750 from ⟨by decide, by decide⟩) (by decide) ka_int hg34 dX12_init_110 (fun H S => ?_)
  obtain ⟨g35, hg35, hyp⟩ := jbind hyp
  refine jr_gF (pc := 112) C hin S lf_X12_49 fo_X12_17 fp_X12_17 rfl jty_a hg35 dX12_init_112 (fun H locs S => ?_)
  refine jr_aload_n (pc := 115) C L dX12_init_115 rfl rfl ?_
  refine jr_bipush (pc := 116) C dX12_init_116 (by decide) ?_
  obtain ⟨g36, hg36, hyp⟩ := jbind hyp
  refine jr_newa (pc := 118) (atype := .int) jRo_self C S (show jIn 21 from ⟨by decide, by decide⟩) (by decide) ka_int hg36 dX12_init_118 (fun H S => ?_)
  obtain ⟨g37, hg37, hyp⟩ := jbind hyp
  refine jr_gF (pc := 120) C hin S lf_X12_52 fo_X12_21 fp_X12_21 rfl jty_a hg37 dX12_init_120 (fun H locs S => ?_)
  refine jr_aload_n (pc := 123) C L dX12_init_123 rfl rfl ?_
  refine jr_sipush (pc := 124) C dX12_init_124 (by decide) ?_
  obtain ⟨g38, hg38, hyp⟩ := jbind hyp
  refine jr_newa (pc := 127) (atype := .int) jRo_self C S (show jIn 625 from ⟨by decide, by decide⟩) (by decide) ka_int hg38 dX12_init_127 (fun H S => ?_)
  obtain ⟨g39, hg39, hyp⟩ := jbind hyp
  refine jr_gF (pc := 129) C hin S lf_X12_55 fo_X12_24 fp_X12_24 rfl jty_a hg39 dX12_init_129 (fun H locs S => ?_)
  refine jr_aload_n (pc := 132) C L dX12_init_132 rfl rfl ?_
  refine jr_bipush (pc := 133) C dX12_init_133 (by decide) ?_
  obtain ⟨g40, hg40, hyp⟩ := jbind hyp
  refine jr_newa (pc := 135) (atype := .int) jRo_self C S (show jIn 16 from ⟨by decide, by decide⟩) (by decide) ka_int hg40 dX12_init_135 (fun H S => ?_)
  obtain ⟨g41, hg41, hyp⟩ := jbind hyp
  refine jr_gF (pc := 137) C hin S lf_X12_58 fo_X12_27 fp_X12_27 rfl jty_a hg41 dX12_init_137 (fun H locs S => ?_)
  refine jr_aload_n (pc := 140) C L dX12_init_140 rfl rfl ?_
  refine jr_bipush (pc := 141) C dX12_init_141 (by decide) ?_
  obtain ⟨g42, hg42, hyp⟩ := jbind hyp
  refine jr_newa (pc := 143) (atype := .int) jRo_self C S (show jIn 96 from ⟨by decide, by decide⟩) (by decide) ka_int hg42 dX12_init_143 (fun H S => ?_)
  obtain ⟨g43, hg43, hyp⟩ := jbind hyp
  refine jr_gF (pc := 145) C hin S lf_X12_61 fo_X12_28 fp_X12_28 rfl jty_a hg43 dX12_init_145 (fun H locs S => ?_)
  refine jr_aload_n (pc := 148) C L dX12_init_148 rfl rfl ?_
  refine jr_sipush (pc := 149) C dX12_init_149 (by decide) ?_
  obtain ⟨g44, hg44, hyp⟩ := jbind hyp
  refine jr_newa (pc := 152) (atype := .int) jRo_self C S (show jIn 480 from ⟨by decide, by decide⟩) (by decide) ka_int hg44 dX12_init_152 (fun H S => ?_)
  obtain ⟨g45, hg45, hyp⟩ := jbind hyp
  refine jr_gF (pc := 154) C hin S lf_X12_64 fo_X12_29 fp_X12_29 rfl jty_a hg45 dX12_init_154 (fun H locs S => ?_)
  refine jr_aload_n (pc := 157) C L dX12_init_157 rfl rfl ?_
  refine jr_bipush (pc := 158) C dX12_init_158 (by decide) ?_
  obtain ⟨g46, hg46, hyp⟩ := jbind hyp
  refine jr_newa (pc := 160) (atype := .int) jRo_self C S (show jIn 30 from ⟨by decide, by decide⟩) (by decide) ka_int hg46 dX12_init_160 (fun H S => ?_)
  obtain ⟨g47, hg47, hyp⟩ := jbind hyp
  refine jr_gF (pc := 162) C hin S lf_X12_67 fo_X12_30 fp_X12_30 rfl jty_a hg47 dX12_init_162 (fun H locs S => ?_)
  refine jr_aload_n (pc := 165) C L dX12_init_165 rfl rfl ?_
  refine jr_iconst (pc := 166) C dX12_init_166 ?_
  obtain ⟨g48, hg48, hyp⟩ := jbind hyp
  refine jr_newa (pc := 167) (atype := .int) jRo_self C S (show jIn 4 from ⟨by decide, by decide⟩) (by decide) ka_int hg48 dX12_init_167 (fun H S => ?_)
  obtain ⟨g49, hg49, hyp⟩ := jbind hyp
  refine jr_gF (pc := 169) C hin S lf_X12_70 fo_X12_31 fp_X12_31 rfl jty_a hg49 dX12_init_169 (fun H locs S => ?_)
  refine jr_aload_n (pc := 172) C L dX12_init_172 rfl rfl ?_
  refine jr_sipush (pc := 173) C dX12_init_173 (by decide) ?_
  obtain ⟨g50, hg50, hyp⟩ := jbind hyp
  refine jr_newa (pc := 176) (atype := .int) jRo_self C S (show jIn 320 from ⟨by decide, by decide⟩) (by decide) ka_int hg50 dX12_init_176 (fun H S => ?_)
  obtain ⟨g51, hg51, hyp⟩ := jbind hyp
  refine jr_gF (pc := 178) C hin S lf_X12_73 fo_X12_32 fp_X12_32 rfl jty_a hg51 dX12_init_178 (fun H locs S => ?_)
  refine jr_aload_n (pc := 181) C L dX12_init_181 rfl rfl ?_
  refine jr_iconst (pc := 182) C dX12_init_182 ?_
  obtain ⟨g52, hg52, hyp⟩ := jbind hyp
  refine jr_newa (pc := 183) (atype := .boolean) jRo_self C S (show jIn 2 from ⟨by decide, by decide⟩) (by decide) ka_bool hg52 dX12_init_183 (fun H S => ?_)
  obtain ⟨g53, hg53, hyp⟩ := jbind hyp
  refine jr_gF (pc := 185) C hin S lf_X12_76 fo_X12_33 fp_X12_33 rfl jty_a hg53 dX12_init_185 (fun H locs S => ?_)
  refine jr_aload_n (pc := 188) C L dX12_init_188 rfl rfl ?_
  obtain ⟨v54, hv54, hyp⟩ := jbind hyp
  refine jr_getR (pc := 189) C S.1 lf_X12_7 rfl hv54 dX12_init_189 ?_
  refine jr_iconst (pc := 192) C dX12_init_192 ?_
  refine jr_iconst (pc := 193) C dX12_init_193 ?_
  obtain ⟨g55, hg55, hyp⟩ := jbind hyp
  refine jr_gA (pc := 194) C S (show jIn 0 from ⟨by decide, by decide⟩) (show jIn 2 from ⟨by decide, by decide⟩) hg55 dX12_init_194 (fun H locs S => ?_)
  refine jr_aload_n (pc := 195) C L dX12_init_195 rfl rfl ?_
  obtain ⟨v56, hv56, hyp⟩ := jbind hyp
  refine jr_getR (pc := 196) C S.1 lf_X12_7 rfl hv56 dX12_init_196 ?_
  refine jr_iconst (pc := 199) C dX12_init_199 ?_
  refine jr_iconst (pc := 200) C dX12_init_200 ?_
  obtain ⟨g57, hg57, hyp⟩ := jbind hyp
  refine jr_gA (pc := 201) C S (show jIn 1 from ⟨by decide, by decide⟩) (show jIn 2 from ⟨by decide, by decide⟩) hg57 dX12_init_201 (fun H locs S => ?_)
  refine jr_aload_n (pc := 202) C L dX12_init_202 rfl rfl ?_
  obtain ⟨v58, hv58, hyp⟩ := jbind hyp
  refine jr_getR (pc := 203) C S.1 lf_X12_7 rfl hv58 dX12_init_203 ?_
  refine jr_iconst (pc := 206) C dX12_init_206 ?_
  refine jr_bipush (pc := 207) C dX12_init_207 (by decide) ?_
  obtain ⟨g59, hg59, hyp⟩ := jbind hyp
  refine jr_gA (pc := 209) C S (show jIn 2 from ⟨by decide, by decide⟩) (show jIn 10 from ⟨by decide, by decide⟩) hg59 dX12_init_209 (fun H locs S => ?_)
  refine jr_iconst (pc := 210) C dX12_init_210 ?_
  refine jr_istore_n (pc := 211) C L dX12_init_211 rfl (Nat.le_of_ble_eq_true rfl) (fun ls L => ?_)
  have L : jL ls [some (jR B a0), some (jI 0)] := L
  exact t_X12_init_l212 C hin hO N a0 0 (show jIn 0 from ⟨by decide, by decide⟩) h_a0 g59 _ _ _ S (L.sub (jsub_s (jsub_s jsub_0))) hyp
theorem c_X12_init {l : Launch} {D : va_G} {cy : Nat → ClassId} {B Lm : Nat} {g res : jm_G} {N : Nat} {a0 : Nat} (h_a0 : a0 ≠ 0) (h1 : g.1 ≤ Lm) (h2 : Lm ≤ 1000000) (hyp : f_X12_init N Lm a0 g = some res) : jCtA l D cy B 1 Lm yX12_init cX12_init 2 [jR B a0] g res :=
  jcA_of (by decide) (fun v h => by rw [List.mem_singleton.mp h]; first | rfl | exact jR_cat _ _) (Nat.le_of_ble_eq_true rfl) h1 h2 (fun C hin hO S L => t_X12_init_e C hin hO h_a0 S L hyp)
