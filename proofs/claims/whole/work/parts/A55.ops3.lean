theorem op_period : jOp_period jN shC shM Inv := by
  intro mC mM x1 x2 hx1 hx2 hI
  obtain ⟨A, hV, ⟨hF, hRR, hK⟩, hFM, hKM⟩ := id hI
  by_cases c0 : 0 ≤ x1 ∧ x1 < 4
  · by_cases c1 : 0 ≤ x2 ∧ x2 ≤ 9999
    · obtain ⟨p, rfl⟩ : ∃ p : Nat, x1 = p := ⟨x1.toNat, by omega⟩
      have hp : p < 4 := by omega
      have e1 := hF.f1_0
      have e2 := hFM.f6
      have e6 := hF.f2_3
      refine ⟨A.1.2.2.2.1 p, jm_up mC 4 p x2, jm_up mM 7 p x2, ?_, ?_, ((A.1.1, A.1.2.1, A.1.2.2.1, (fun i => if i = p then x2 else A.1.2.2.2.1 i), A.1.2.2.2.2), A.2), ⟨⟨hV.1.1, hV.1.2.1, fun i hi => ?_, hV.1.2.2.2⟩, hV.2⟩, ⟨hF.up (nC_of (by decide) _), RRs.up hRR (by decide), ?_⟩, hFM.up (nM_of (by decide) _), ?_⟩
      · simp [f_X11_period, s_isProgram, c0, show ¬ x2 < 0 by omega, show ¬ 9999 < x2 by omega, jrf_ok sC1, e1, jck_ok sC2, s_periodOf hF two_bL c0.1 c0.2, hK.1.2.2.1 p hp, f_X1_setPeriod, jrf_ok sC2, e6, jlen_ok sC4, jwa_ok sC4, hp, show ¬ ((p : Int) < 0) by omega]
      · simp [f_X12_period, sM_isProgram, c0, sM_in, c1, jrf_ok sM1, e2, jra_ok sM7, jwa_ok sM7, hKM.1.2.2.1 p hp, hp]
      · show 0 ≤ (if i = p then x2 else A.1.2.2.2.1 i) ∧ (if i = p then x2 else A.1.2.2.2.1 i) ≤ 9999
        split
        · exact c1
        · exact hV.1.2.2.1 i hi
      · obtain ⟨⟨a1, a2, a3, a4, a5⟩, h2, h3, h4⟩ := hK
        refine ⟨⟨fun i hi => by rw [up_ne (by decide)]; exact a1 i hi, fun p hp => (a2 p hp).same (fun a ha _ i => by rw [up_ne (by omega)]), fun i hi => ?_, by rw [up_ne (by decide)]; exact a4, fun i hi => by rw [up_ne (by decide)]; exact a5 i hi⟩, by rw [up_ne (by decide)]; exact h2, fun i hi => by rw [up_ne (by decide)]; exact h3 i hi, KCi.same h4 (fun a ha _ i => by rw [up_ne (by omega)])⟩
        rw [up_row]
        show _ = if i = p then x2 else A.1.2.2.2.1 i
        split
        · rfl
        · exact a3 i hi
      · obtain ⟨⟨a1, a2, a3, a4, a5⟩, h2, h3, h4⟩ := hKM
        refine ⟨⟨fun i hi => by rw [up_ne (by decide)]; exact a1 i hi, fun p hp => ⟨by rw [up_ne (by decide)]; exact (a2 p hp).1, fun i hi => by rw [up_ne (by decide), up_ne (by decide)]; exact (a2 p hp).2 i hi⟩, fun i hi => ?_, by rw [up_ne (by decide)]; exact a4, fun i hi => by rw [up_ne (by decide)]; exact a5 i hi⟩, by rw [up_ne (by decide)]; exact h2, fun i hi => by rw [up_ne (by decide)]; exact h3 i hi, KMi.same h4 (fun i => by rw [up_ne (by decide)]) (fun i => by rw [up_ne (by decide)])⟩
        rw [up_row]
        show _ = if i = p then x2 else A.1.2.2.2.1 i
        split
        · rfl
        · exact a3 i hi
    · refine ⟨-2, mC, mM, ?_, ?_, hI⟩
      · simp only [f_X11_period, s_isProgram, c0, and_self, if_true, Option.bind_some]
        by_cases c2 : x2 < 0
        · simp [c2]
        · simp [c2, show 9999 < x2 by omega]
      · simp [f_X12_period, sM_isProgram, c0, sM_in, c1]
  · exact ⟨-1, mC, mM, by simp [f_X11_period, s_isProgram, c0], by simp [f_X12_period, sM_isProgram, c0], hI⟩
theorem op_told : jOp_told jN shC shM Inv := by
  intro mC mM x1 hx hI
  obtain ⟨A, hV, ⟨hF, hRR, hK⟩, hFM, hKM⟩ := id hI
  have hb : -2147483648 ≤ x1 ∧ x1 ≤ 2147483647 := hx
  have e1 := hF.f1_3
  have e2 := hF.f1_0
  have e3 := hFM.f0
  have e4 := hFM.f3
  have e5 := hFM.f6
  suffices h : ∃ r, f_X11_told shC 1 x1 mC = some r ∧ f_X12_told shM 1 x1 mM = some r by
    obtain ⟨r, h1, h2⟩ := h
    exact ⟨r, mC, mM, ⟨h1, rfl⟩, ⟨h2, rfl⟩, hI⟩
  by_cases c0 : x1 = 0
  · subst c0
    exact ⟨A.2.1.1, by simp [f_X11_told, jrf_ok sC1, e1, jrf_ok sC62, hK.2.1], by simp [f_X12_told, sM_in, jrf_ok sM1, hKM.2.1]⟩
  by_cases c1 : x1 = 1
  · subst c1
    exact ⟨A.1.2.2.2.2.1, by simp [f_X11_told, jrf_ok sC1, e2, jrf_ok sC2, hK.1.2.2.2.1], by simp [f_X12_told, sM_in, jrf_ok sM1, hKM.1.2.2.2.1]⟩
  by_cases c2 : 2 ≤ x1 ∧ x1 ≤ 5
  · obtain ⟨p, rfl⟩ : ∃ p : Nat, x1 = (p : Int) + 2 := ⟨(x1 - 2).toNat, by omega⟩
    have hw : jw (p : Int) = (p : Int) := jw_eq (by omega) (by omega)
    refine ⟨A.1.1 p, ?_, ?_⟩
    · simp [f_X11_told, c0, c1, show ¬ ((p : Int) + 2 < 2) by omega, show ¬ (5 < (p : Int) + 2) by omega, jrf_ok sC1, e2, jck_ok sC2, hw, s_setting hF two_bL (i := (p : Int)) (by omega) (by omega), hK.1.1 p (by omega)]
    · simp [f_X12_told, sM_in, c0, c1, c2, jrf_ok sM1, e3, hw, jra_ok sM2 (i := (p : Int)) (by omega) (by omega), hKM.1.1 p (by omega), show ¬ (10 ≤ (p : Int) + 2 ∧ (p : Int) + 2 ≤ 13) by omega, show ¬ (20 ≤ (p : Int) + 2 ∧ (p : Int) + 2 ≤ 23) by omega]
  have hb46 : f_X11_told shC 1 x1 mC = f_X11_told_b46 shC 1 x1 mC := by
    unfold f_X11_told
    rw [if_neg c0, if_neg c1]
    by_cases c3 : x1 < 2
    · rw [if_pos c3]
    · rw [if_neg c3, if_pos (by omega)]
  rw [hb46]
  by_cases c3 : 10 ≤ x1 ∧ x1 ≤ 13
  · obtain ⟨p, rfl⟩ : ∃ p : Nat, x1 = (p : Int) + 10 := ⟨(x1 - 10).toNat, by omega⟩
    have hw : jw (p : Int) = (p : Int) := jw_eq (by omega) (by omega)
    refine ⟨A.1.2.2.2.1 p, ?_, ?_⟩
    · simp [f_X11_told_b46, hw, s_isProgram, show (0 : Int) ≤ p ∧ (p : Int) < 4 by omega, show p < 4 by omega, jrf_ok sC1, e2, jck_ok sC2, s_periodOf hF two_bL (i := (p : Int)) (by omega) (by omega), hK.1.2.2.1 p (by omega)]
    · simp [f_X12_told, sM_in, c3, jrf_ok sM1, e5, hw, jra_ok sM7 (i := (p : Int)) (by omega) (by omega), hKM.1.2.2.1 p (by omega)]
  have n3 : ¬ (0 ≤ jw (x1 - 10) ∧ jw (x1 - 10) < 4) := by
    by_cases hr : -2147483648 ≤ x1 - 10
    · rw [jw_eq hr (by omega)]; omega
    · have : jw (x1 - 10) = x1 - 10 + 4294967296 := by
        have h1 : jw (x1 - 10) = jw (x1 - 10 + 4294967296) := by
          unfold jw
          rw [Int32.toInt_ofInt, Int32.toInt_ofInt]
          exact (Int.add_bmod_right (x1 - 10) 4294967296).symm
        rw [h1]
        exact jw_eq (by omega) (by omega)
      omega
  by_cases c4 : 20 ≤ x1 ∧ x1 ≤ 23
  · obtain ⟨p, rfl⟩ : ∃ p : Nat, x1 = (p : Int) + 20 := ⟨(x1 - 20).toNat, by omega⟩
    have hw : jw (p : Int) = (p : Int) := jw_eq (by omega) (by omega)
    have hp : p < 4 := by omega
    obtain ⟨t1, -⟩ := tC hF _ (tL_of two_bL hp)
    refine ⟨A.1.2.1 p, ?_, ?_⟩
    · simp [f_X11_told_b46, s_isProgram, n3, hw, show (0 : Int) ≤ p ∧ (p : Int) < 4 by omega, hp, jrf_ok sC1, e2, jck_ok sC2, s_textOf hF two_bL hp, jrf_ok t1, (hK.1.2.1 p hp).1]
    · simp [f_X12_told, sM_in, c3, c4, jrf_ok sM1, e4, hw, jra_ok sM4 (i := (p : Int)) (by omega) (by omega), (hKM.1.2.1 p hp).1]
  have n4 : ¬ (0 ≤ jw (x1 - 20) ∧ jw (x1 - 20) < 4) := by
    by_cases hr : -2147483648 ≤ x1 - 20
    · rw [jw_eq hr (by omega)]; omega
    · have : jw (x1 - 20) = x1 - 20 + 4294967296 := by
        have h1 : jw (x1 - 20) = jw (x1 - 20 + 4294967296) := by
          unfold jw
          rw [Int32.toInt_ofInt, Int32.toInt_ofInt]
          exact (Int.add_bmod_right (x1 - 20) 4294967296).symm
        rw [h1]
        exact jw_eq (by omega) (by omega)
      omega
  exact ⟨-2, by simp [f_X11_told_b46, s_isProgram, n3, n4], by simp [f_X12_told, sM_in, c3, c4, c0, c1, c2]⟩
theorem op_node : jOp_node jN shC shM Inv := by
  intro mC mM x1 x2 x3 hx1 hx2 hx3 hI
  obtain ⟨A, hV, ⟨hF, hRR, hK⟩, hFM, hKM⟩ := id hI
  suffices h : ∃ r, f_X11_node shC 1 x1 x2 x3 mC = some r ∧ f_X12_node shM 1 x1 x2 x3 mM = some r by
    obtain ⟨r, h1, h2⟩ := h
    exact ⟨r, mC, mM, ⟨h1, rfl⟩, ⟨h2, rfl⟩, hI⟩
  by_cases c0 : 0 ≤ x1 ∧ x1 < 4
  · obtain ⟨p, rfl⟩ : ∃ p : Nat, x1 = p := ⟨x1.toNat, by omega⟩
    have hp : p < 4 := by omega
    have ht := tL_of two_bL hp
    obtain ⟨t1, t2, t3, t4, t5, t6, t7⟩ := tC hF _ ht
    obtain ⟨k1, k2, k3, k4, k5, k6, k7⟩ := hK.1.2.1 p hp
    obtain ⟨q1, q2⟩ := hKM.1.2.1 p hp
    have hcn : A.1.2.1 p ≤ 30 := (hV.1.2.1 p hp).1
    have e1 := hF.f1_0
    have e3 := hFM.f3
    have e4 := hFM.f4
    have e5 := hFM.f5
    generalize hcn2 : A.1.2.1 p = cn at *
    have hwc : jw ((cn : Int) - 1) = (cn : Int) - 1 := jw_eq (by omega) (by omega)
    by_cases c1 : 0 ≤ x2 ∧ x2 < cn
    · obtain ⟨i, rfl⟩ : ∃ i : Nat, x2 = i := ⟨x2.toNat, by omega⟩
      have hi : i < cn := by omega
      have hw1 : jw (30 * (p : Int)) = 30 * (p : Int) := jw_eq (by omega) (by omega)
      have hw2 : jw (30 * (p : Int) + (i : Int)) = 30 * (p : Int) + (i : Int) := jw_eq (by omega) (by omega)
      have ec : 30 * (p : Int) + (i : Int) = ((30 * p + i : Nat) : Int) := by omega
      have j5 : jra shM mM 5 13 (30 * (p : Int) + (i : Int)) = some (A.1.2.2.1 p i) := by rw [ec, jra_ok sM5 (by omega) (by omega), Int.toNat_natCast, (q2 i hi).1]
      have j6 : jra shM mM 6 13 (30 * (p : Int) + (i : Int)) = some (zs (A.1.2.2.1 p) 4 i : Int) := by rw [ec, jra_ok sM6 (by omega) (by omega), Int.toNat_natCast, (q2 i hi).2]
      have hnode : f_X12_isNode shM 1 p i mM = some 1 := by
        simp only [f_X12_isNode, sM_isProgram, c0, and_self, if_true, Option.bind_some, jrf_ok sM1, e3, Int.reduceToNat, jra_ok sM4 c0.1 c0.2, Int.toNat_natCast, q1, hwc, sM_in]
        rw [if_pos (show (0 : Int) ≤ (i : Int) ∧ (i : Int) ≤ (cn : Int) - 1 by omega)]
        simp
      have hhas : f_X10_has shC (2 + 4 + 4 * p) i mC = some 1 := by
        simp [f_X10_has, jrf_ok t1, k1, hi, show ¬ ((i : Int) < 0) by omega]
      have hsg : (if 0 ≤ (i : Int) ∧ (i : Int) < 30 then mC (2 + 4 + 4 * p + 1) (i : Int).toNat else 45) = A.1.2.2.1 p i := by rw [if_pos (by omega), Int.toNat_natCast]; exact k2 i hi
      have hsz : (if 0 ≤ (i : Int) ∧ (i : Int) < 30 then mC (2 + 4 + 4 * p + 2) (i : Int).toNat else 1) = (zs (A.1.2.2.1 p) 4 i : Int) := by rw [if_pos (by omega), Int.toNat_natCast]; exact k4 i hi
      have hC : f_X11_node shC 1 p i x3 mC = if (0 : Int) = x3 then some (A.1.2.2.1 p i) else if (1 : Int) = x3 then some (zs (A.1.2.2.1 p) 4 i : Int) else some (-2) := by
        unfold f_X11_node
        simp only [s_isProgram, c0, and_self, if_true, Option.bind_some, jrf_ok sC1, e1, Int.reduceToNat, jck_ok sC2, s_textOf hF two_bL hp, jck_ok t1, hhas, s_signAt hF ht, s_sizeAt hF ht, hsg, hsz]
        simp
      rw [hC]
      by_cases c2 : x3 = 0
      · subst c2
        exact ⟨A.1.2.2.1 p i, by simp, by simp [f_X12_node, jck_ok sM1, hnode, jrf_ok sM1, e4, hw1, hw2, j5]⟩
      · by_cases c3 : x3 = 1
        · subst c3
          exact ⟨zs (A.1.2.2.1 p) 4 i, by simp, by simp [f_X12_node, jck_ok sM1, hnode, jrf_ok sM1, e5, hw1, hw2, j6]⟩
        · exact ⟨-2, by rw [if_neg (fun h => c2 h.symm), if_neg (fun h => c3 h.symm)], by simp [f_X12_node, jck_ok sM1, hnode, c2, c3]⟩
    · refine ⟨-1, ?_, ?_⟩
      · have hhas : f_X10_has shC (2 + 4 + 4 * p) x2 mC = some 0 := by
          unfold f_X10_has
          by_cases c4 : x2 < 0
          · rw [if_pos c4]
          · rw [if_neg c4, jrf_ok t1, Option.bind_some, k1, if_neg (by omega)]
        unfold f_X11_node
        simp only [s_isProgram, c0, and_self, if_true, Option.bind_some, jrf_ok sC1, e1, Int.reduceToNat, jck_ok sC2, s_textOf hF two_bL hp, jck_ok t1, hhas]
        simp
      · have hnode : f_X12_isNode shM 1 p x2 mM = some 0 := by
          simp only [f_X12_isNode, sM_isProgram, c0, and_self, if_true, Option.bind_some, jrf_ok sM1, e3, Int.reduceToNat, jra_ok sM4 c0.1 c0.2, Int.toNat_natCast, q1, hwc, sM_in]
          rw [if_neg (show ¬ (0 ≤ x2 ∧ x2 ≤ (cn : Int) - 1) by omega)]
          simp
        simp [f_X12_node, jck_ok sM1, hnode]
  · exact ⟨-1, by simp [f_X11_node, s_isProgram, c0], by simp [f_X12_node, jck_ok sM1, f_X12_isNode, sM_isProgram, c0]⟩
