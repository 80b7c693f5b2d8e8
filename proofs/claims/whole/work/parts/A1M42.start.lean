theorem jl_arr {s : State} {args : Array Value} {ty : FieldType} (h : (Cond.arrayClass ty).before args s = true) : ∃ (cA : ClassId) (comp : ClassId), s.vm.findClass ("[" ++ ty.toString) = some cA ∧ (∃ kA : Class, s.vm.classes[cA]? = some kA ∧ kA.kind = .array comp ty) := by
  obtain ⟨c, k, comp, h1, h2, h3⟩ := Cond.arrayClass_spec h
  exact ⟨c, comp, h1, k, h2, h3⟩
theorem jn_M : ∀ q ∈ jnM, Cond.methodLinkNest q.1 q.2.1 q.2.2.1 q.2.2.2 ∈ lw_tbl := by
  have h : jnM.map (fun q => Cond.methodLinkNest q.1 q.2.1 q.2.2.1 q.2.2.2) = ([114, 173, 191, 276, 517, 538, 547, 596, 603, 642, 833, 838, 839, 873, 976, 1015] : List Nat).filterMap (fun i => lw_tbl[i]?) := by decide +kernel
  intro q hq
  have h1 := List.mem_map_of_mem (f := fun q : String × Nat × MethodName × String => Cond.methodLinkNest q.1 q.2.1 q.2.2.1 q.2.2.2) hq
  rw [h] at h1
  obtain ⟨i, -, hi⟩ := List.mem_filterMap.mp h1
  exact List.mem_of_getElem? hi
theorem jn_F : ∀ q ∈ jnF, Cond.fieldLinkNest q.1 q.2.1 q.2.2.1 q.2.2.2.1 q.2.2.2.2.1 q.2.2.2.2.2 ∈ lw_tbl := by
  have h : jnF.map (fun q => Cond.fieldLinkNest q.1 q.2.1 q.2.2.1 q.2.2.2.1 q.2.2.2.2.1 q.2.2.2.2.2) = ([129] : List Nat).filterMap (fun i => lw_tbl[i]?) := by decide +kernel
  intro q hq
  have h1 := List.mem_map_of_mem (f := fun q : String × Nat × String × String × String × String => Cond.fieldLinkNest q.1 q.2.1 q.2.2.1 q.2.2.2.1 q.2.2.2.2.1 q.2.2.2.2.2) hq
  rw [h] at h1
  obtain ⟨i, -, hi⟩ := List.mem_filterMap.mp h1
  exact List.mem_of_getElem? hi
/-- the classes' numbers and slots, and the array classes, at the law's start -/
theorem law_known {s : State} {args : Array Value} (hts : ∀ w ∈ lw_tbl, w.before args s = true) : ∃ (D : va_G) (cy : Nat → ClassId), jK D cy s ∧ jAO s := by
  have htB : ∀ w ∈ jB, w.before args s = true := fun w h => hts w (List.mem_filter.mp h).1
  obtain ⟨c0, i0, k0⟩ := u_known (C := RX0) (T := TX0) (N := 6) (n := 6) htB inB_X0 (htB _ (jB_at 370 (by decide +kernel) rfl))
  obtain ⟨c1, i1, k1⟩ := u_known (C := RX1) (T := TX1) (N := 9) (n := 9) htB inB_X1 (htB _ (jB_at 113 (by decide +kernel) rfl))
  obtain ⟨c2, i2, k2⟩ := u_known (C := RX2) (T := TX2) (N := 5) (n := 5) htB inB_X2 (htB _ (jB_at 397 (by decide +kernel) rfl))
  obtain ⟨c3, i3, k3⟩ := u_known (C := RX3) (T := TX3) (N := 3) (n := 3) htB inB_X3 (htB _ (jB_at 172 (by decide +kernel) rfl))
  obtain ⟨c4, i4, k4⟩ := u_known (C := RX4) (T := TX4) (N := 4) (n := 4) htB inB_X4 (htB _ (jB_at 275 (by decide +kernel) rfl))
  obtain ⟨c5, i5, k5⟩ := u_known (C := RX5) (T := TX5) (N := 10) (n := 10) htB inB_X5 (htB _ (jB_at 330 (by decide +kernel) rfl))
  obtain ⟨c6, i6, k6⟩ := u_known (C := RX6) (T := TX6) (N := 8) (n := 8) htB inB_X6 (htB _ (jB_at 230 (by decide +kernel) rfl))
  obtain ⟨c7, i7, k7⟩ := u_known (C := RX7) (T := TX7) (N := 10) (n := 10) htB inB_X7 (htB _ (jB_at 190 (by decide +kernel) rfl))
  obtain ⟨c8, i8, k8⟩ := u_known (C := RX8) (T := TX8) (N := 10) (n := 10) htB inB_X8 (htB _ (jB_at 269 (by decide +kernel) rfl))
  obtain ⟨c9, i9, k9⟩ := u_known (C := RX9) (T := TX9) (N := 4) (n := 4) htB inB_X9 (htB _ (jB_at 420 (by decide +kernel) rfl))
  obtain ⟨c10, i10, k10⟩ := u_known (C := RX10) (T := TX10) (N := 4) (n := 4) htB inB_X10 (htB _ (jB_at 119 (by decide +kernel) rfl))
  obtain ⟨c11, i11, k11⟩ := u_known (C := RX11) (T := TX11) (N := 10) (n := 10) htB inB_X11 (htB _ (jB_at 105 (by decide +kernel) rfl))
  obtain ⟨c12, i12, k12⟩ := u_known (C := RX12) (T := TX12) (N := 34) (n := 34) htB inB_X12 (htB _ (jB_at 1082 (by decide +kernel) rfl))
  have ho1 : (Cond.arrayOver (.object "LongestRuns$Reached")).before args s = true := hts _ (List.mem_of_getElem? (i := 294) (by decide +kernel))
  have ho2 : (Cond.arrayOver (.array .int)).before args s = true := hts _ (List.mem_of_getElem? (i := 196) (by decide +kernel))
  obtain ⟨a13, p13, e13, q13, f13, g13⟩ := jl_arr (htB _ ka_int)
  obtain ⟨a14, p14, e14, q14, f14, g14⟩ := jl_arr (htB _ ka_bool)
  obtain ⟨p15, a15, q15, e15, -, f15, g15, h15⟩ := Cond.arrayOver_spec ho1
  obtain ⟨p16, a16, q16, e16, -, f16, g16, h16⟩ := arrayOver_specB ho2
  refine ⟨(fun k => if k = 0 then c0 else if k = 1 then c1 else if k = 2 then c2 else if k = 3 then c3 else if k = 4 then c4 else if k = 5 then c5 else if k = 6 then c6 else if k = 7 then c7 else if k = 8 then c8 else if k = 9 then c9 else if k = 10 then c10 else if k = 11 then c11 else c12, fun k => if k = 0 then i0 else if k = 1 then i1 else if k = 2 then i2 else if k = 3 then i3 else if k = 4 then i4 else if k = 5 then i5 else if k = 6 then i6 else if k = 7 then i7 else if k = 8 then i8 else if k = 9 then i9 else if k = 10 then i10 else if k = 11 then i11 else i12), fun k => if k = 13 then a13 else if k = 14 then a14 else if k = 15 then a15 else a16, ⟨⟨fun k q hq => ?_, fun k q hk => ?_⟩, fun q hq => ?_, fun q hq => ?_⟩, ho1, ho2⟩
  · match k, hq with
    | 0, hq => cases hq; exact k0
    | 1, hq => cases hq; exact k1
    | 2, hq => cases hq; exact k2
    | 3, hq => cases hq; exact k3
    | 4, hq => cases hq; exact k4
    | 5, hq => cases hq; exact k5
    | 6, hq => cases hq; exact k6
    | 7, hq => cases hq; exact k7
    | 8, hq => cases hq; exact k8
    | 9, hq => cases hq; exact k9
    | 10, hq => cases hq; exact k10
    | 11, hq => cases hq; exact k11
    | 12, hq => cases hq; exact k12
    | k + 13, hq => simp [vwCl] at hq
  · match k, hk with
    | 0, hk => cases hk; exact ⟨fun n z => ⟨fun x h => (by cases h), _, f13, _, g13⟩, e13⟩
    | 1, hk => cases hk; exact ⟨fun n z => ⟨fun x h => (by cases h), _, f14, _, g14⟩, e14⟩
    | 2, hk => cases hk; exact ⟨fun n z => ⟨fun x h => (by cases h), _, f15, _, g15⟩, _, _, f15, g15, e15, h15⟩
    | 3, hk => cases hk; exact ⟨fun n z => ⟨fun x h => (by cases h), _, f16, _, g16⟩, h16⟩
    | k + 4, hk => simp [jtys] at hk
  · exact va_Nw.of rfl (hts _ (jn_M q hq))
  · exact va_Nw.of rfl (hts _ (jn_F q hq))
set_option maxHeartbeats 4000000 in
set_option maxRecDepth 100000 in
/-- THE LAW from its entry, out of what its calls owe -/
theorem law_start {p : Program} {e : Env} {s : State} {m : MethodId} {below : List Frame} {meth : Method} {c : Code} (l : Launch) {b L : Nat} {xs : Nat → Int32} (hL : L ≤ 320) (C0 : lw_At p s m meth c b L xs) {N : Nat} {shC shM : jm_S} {mC0 mM0 : jm_M} {Inv : jm_M → jm_M → Prop} (hc : f_X11_init N 191 1 gC1 = some (191, shC, mC0)) (hm : f_X12_init N 24 1 gM1 = some (24, shM, mM0)) (hC1 : shC 1 = (11, 10)) (hM1 : shM 1 = (12, 34)) (hI : Inv mC0 mM0) (H_shelf : jOp_shelf N shC shM Inv) (H_say : jOp_say N shC shM Inv) (H_wipe : jOp_wipe N shC shM Inv) (H_fault : jOp_fault N shC shM Inv) (H_program : jOp_program N shC shM Inv) (H_node : jOp_node N shC shM Inv) (H_choose : jOp_choose N shC shM Inv) (H_forget : jOp_forget N shC shM Inv) (H_run : jOp_run N shC shM Inv) (H_most : jOp_most N shC shM Inv) (H_row : jOp_row N shC shM Inv) (H_age : jOp_age N shC shM Inv) (H_sort : jOp_sort N shC shM Inv) (H_bound : jOp_bound N shC shM Inv) (H_fast : jOp_fast N shC shM Inv) (H_crowd : jOp_crowd N shC shM Inv) (H_period : jOp_period N shC shM Inv) (H_breaks : jOp_breaks N shC shM Inv) (H_done : jOp_done N shC shM Inv) (H_late : jOp_late N shC shM Inv) (H_image : jOp_image N shC shM Inv) (H_restore : jOp_restore N shC shM Inv) (H_told : jOp_told N shC shM Inv) : W p l e room_1 s m #[Value.ref b] below meth c s.heap [] 0 0 (lw_Z below #[Value.ref b] s) (entryFrame m ([Value.ref b] : List Value).toArray 4) := by
  obtain ⟨hx, hb, hr, hml, hown, hts, hX, hbl, hlocks, hgv⟩ := id C0
  obtain ⟨D, cy, hK, hO⟩ := law_known hts
  have C : jCx p s m #[Value.ref b] meth c cL_law 4 RL (some .boolean) D cy := ⟨hx, hb, hml, hown, fun w h => hts w (List.mem_filter.mp h).1, hlocks, hr, hK⟩
  obtain ⟨B, hB⟩ : ∃ B, s.heap.size = B + 1 := ⟨s.heap.size - 1, by omega⟩
  rw [lg_entry_eq]
  have Lc := jL.entry [Value.ref b] (n := 4) (fun v h => by rw [List.mem_singleton.mp h]; rfl) (Nat.le_of_ble_eq_true rfl)
  generalize (lg_sl ([Value.ref b] : List Value) ++ List.replicate (4 - (lg_sl ([Value.ref b] : List Value)).length) Slot.unset).toArray = ls at Lc ⊢
  have Lc : jL ls [some (.ref b), none, none, none] := Lc
  have S0 : jHA D cy B 0 0 191 g00 s s.heap s.heap [] := ⟨⟨fun k q h => by obtain ⟨h1, -⟩ := jwd_get h; exact absurd h1 (Nat.not_lt_zero _), va_S.rf, fun _ _ => (show jIn 0 from ⟨by decide, by decide⟩), fun a h => by have h : (99 : Nat) ≤ 16 := h; omega, fun a h1 h2 => by have h2 : a ≤ 0 := h2; omega⟩, fun _ _ _ => rfl, by omega, Nat.le_refl _, Nat.zero_le _, by decide, fun _ => by omega⟩
  have HR1 : jRo room_1 0 0 191 := ⟨Nat.le_of_ble_eq_true rfl, Nat.le_of_ble_eq_true rfl⟩
  have HR2 : jRo room_1 191 0 24 := ⟨Nat.le_of_ble_eq_true rfl, Nat.le_of_ble_eq_true rfl⟩
  refine W.widen (k := 0 + (g00.1 - 0)) (n := jq (0 + (g00.1 - 0))) (Nat.zero_le _) (Nat.zero_le _) ?_
  refine jr_new (pc := 0) HR1 C S0 nc_L_7 (g' := gC1) rfl dL_law_0 (fun H S => ?_)
  refine jr_dupR (pc := 3) C dL_law_3 ?_
  refine jr_gcall (pc := 4) HR1 C hO S Lc (cN := 190) (As := []) (rest := [jR B (g00.1 + 1)]) (Nat.succ_ne_zero _) (c_X11_init (Nat.succ_ne_zero _) (by decide) (by decide) hc) mi_X11_init ml_L_9 ⟨Nat.le_of_ble_eq_true rfl, Nat.le_of_ble_eq_true rfl⟩ rfl (by decide) rfl rfl rfl (by simp [jR_cat, jI_cat]) dL_law_4 (fun H locs S => ?_)
  refine jr_astore_n (pc := 7) C Lc dL_law_7 rfl (Nat.le_of_ble_eq_true rfl) (fun ls Lc => ?_)
  have Lc : jL ls [some (.ref b), some (jR B 1), none, none] := Lc
  refine va_forget (fun q hq => by have h := S.1.2.1.2.2 q hq; have h : B < q.base := h; omega) ?_
  have hlow : B + 191 + 1 ≤ H.size := S.low
  have hP1 : va_P D vwCl (jwd cy B shC mC0 191) H := S.1.1
  have hold1 : ∀ q : Nat, q < s.heap.size → H[q]? = s.heap[q]? := fun q hq => S.1.2.1.2.1 q hq (fun h => by have h : B < q := h; omega)
  have hin1 : ∀ a i, jIn (mC0 a i) := S.1.2.2.1
  have hok1 : jok shC 191 := S.1.2.2.2.1
  have T0 : jHA D cy (B + 191) 191 0 24 g00 s H H [] := ⟨⟨fun k q h => by obtain ⟨h1, -⟩ := jwd_get h; exact absurd h1 (Nat.not_lt_zero _), va_S.rf, fun _ _ => (show jIn 0 from ⟨by decide, by decide⟩), fun a h => by have h : (99 : Nat) ≤ 16 := h; omega, fun a h1 h2 => by have h2 : a ≤ 0 := h2; omega⟩, fun _ _ _ => rfl, by omega, Nat.le_refl _, Nat.zero_le _, by decide, fun _ => by omega⟩
  refine W.widen (k := 191 + (g00.1 - 0)) (n := jq (191 + (g00.1 - 0))) (Nat.le_refl _) (Nat.le_refl _) ?_
  generalize hHH : H = HH at hP1 hold1 T0 hlow ⊢
  refine jr_new (pc := 8) HR2 C T0 nc_L_10 (g' := gM1) rfl dL_law_8 (fun H1 S1 => ?_)
  refine jr_dupR (pc := 11) C dL_law_11 ?_
  refine jr_gcall (pc := 12) HR2 C hO S1 Lc (cN := 23) (As := []) (rest := [jR (B + 191) (g00.1 + 1)]) (Nat.succ_ne_zero _) (c_X12_init (Nat.succ_ne_zero _) (by decide) (by decide) hm) mi_X12_init ml_L_12 ⟨Nat.le_of_ble_eq_true rfl, Nat.le_of_ble_eq_true rfl⟩ rfl (by decide) rfl rfl rfl (by simp [jR_cat, jI_cat]) dL_law_12 (fun H2 locs2 S2 => ?_)
  refine jr_astore_n (pc := 15) C Lc dL_law_15 rfl (Nat.le_of_ble_eq_true rfl) (fun ls Lc => ?_)
  have Lc : jL ls [some (.ref b), some (jR B 1), some (jR (B + 191) 1), none] := Lc
  refine jr_iconst (pc := 16) C dL_law_16 ?_
  refine jr_istore_n (pc := 17) C Lc dL_law_17 rfl (Nat.le_of_ble_eq_true rfl) (fun ls Lc => ?_)
  have Lc : jL ls [some (.ref b), some (jR B 1), some (jR (B + 191) 1), some (jI 0)] := Lc
  have hv2 := S2.1.2.1
  refine law_loop C hX hbl hL ⟨Nat.le_of_ble_eq_true rfl, Nat.le_of_ble_eq_true rfl⟩ hC1 hM1 hr hlocks H_shelf H_say H_wipe H_fault H_program H_node H_choose H_forget H_run H_most H_row H_age H_sort H_bound H_fast H_crowd H_period H_breaks H_done H_late H_image H_restore H_told (L + 1) 0 ⟨by decide, by decide⟩ (by omega) (by omega) (by omega) H2 locs2 ls mC0 mM0 hI ⟨jwd_kept hP1 (fun q h1 h2 h3 => hv2.2.1 q h3 (fun h => by have h : B + 191 < q := h; omega)), S2.1.1, ⟨by have := hv2.1; omega, fun q h1 h2 => (hv2.2.1 q (by omega) (fun h => by have h : B + 191 < q := h; omega)).trans (hold1 q h1), fun q hq => by have h := hv2.2.2 q hq; have h : B + 191 < q.base := h; omega⟩, hin1, S2.1.2.2.1, hok1, S2.1.2.2.2.1, hB⟩ Lc
