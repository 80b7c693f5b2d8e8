/-! reads of the class, at the board b (2, 22, 42) and a text t -/
def bL : List Nat := [2, 22, 42]
def tL : List Nat := [6, 10, 14, 18, 26, 30, 34, 38, 46, 50, 54, 58]
theorem bC {m : jm_M} (h : CF m) : ∀ b ∈ bL, shC b = (1, 9) ∧ shC (b + 1) = (13, 4) ∧ shC (b + 2) = (13, 4) ∧ shC (b + 3) = (13, 20) ∧ m b 2 = ((b + 1 : Nat) : Int) ∧ m b 3 = ((b + 2 : Nat) : Int) ∧ m b 4 = ((b + 3 : Nat) : Int) ∧ m b 5 = ((b + 4 : Nat) : Int) ∧ m b 6 = ((b + 8 : Nat) : Int) ∧ m b 7 = ((b + 12 : Nat) : Int) ∧ m b 8 = ((b + 16 : Nat) : Int) := by
  intro b hb
  simp only [bL, List.mem_cons, List.not_mem_nil, or_false] at hb
  rcases hb with rfl | rfl | rfl
  · exact ⟨sC2, sC3, sC4, sC5, h.f2_2, h.f2_3, h.f2_4, h.f2_5, h.f2_6, h.f2_7, h.f2_8⟩
  · exact ⟨sC22, sC23, sC24, sC25, h.f22_2, h.f22_3, h.f22_4, h.f22_5, h.f22_6, h.f22_7, h.f22_8⟩
  · exact ⟨sC42, sC43, sC44, sC45, h.f42_2, h.f42_3, h.f42_4, h.f42_5, h.f42_6, h.f42_7, h.f42_8⟩
theorem tC {m : jm_M} (h : CF m) : ∀ t ∈ tL, shC t = (10, 4) ∧ shC (t + 1) = (13, 30) ∧ shC (t + 2) = (13, 30) ∧ shC (t + 3) = (13, 30) ∧ m t 1 = ((t + 1 : Nat) : Int) ∧ m t 2 = ((t + 2 : Nat) : Int) ∧ m t 3 = ((t + 3 : Nat) : Int) := by
  intro t ht
  simp only [tL, List.mem_cons, List.not_mem_nil, or_false] at ht
  rcases ht with rfl | rfl | rfl | rfl | rfl | rfl | rfl | rfl | rfl | rfl | rfl | rfl
  · exact ⟨sC6, sC7, sC8, sC9, h.f6_1, h.f6_2, h.f6_3⟩
  · exact ⟨sC10, sC11, sC12, sC13, h.f10_1, h.f10_2, h.f10_3⟩
  · exact ⟨sC14, sC15, sC16, sC17, h.f14_1, h.f14_2, h.f14_3⟩
  · exact ⟨sC18, sC19, sC20, sC21, h.f18_1, h.f18_2, h.f18_3⟩
  · exact ⟨sC26, sC27, sC28, sC29, h.f26_1, h.f26_2, h.f26_3⟩
  · exact ⟨sC30, sC31, sC32, sC33, h.f30_1, h.f30_2, h.f30_3⟩
  · exact ⟨sC34, sC35, sC36, sC37, h.f34_1, h.f34_2, h.f34_3⟩
  · exact ⟨sC38, sC39, sC40, sC41, h.f38_1, h.f38_2, h.f38_3⟩
  · exact ⟨sC46, sC47, sC48, sC49, h.f46_1, h.f46_2, h.f46_3⟩
  · exact ⟨sC50, sC51, sC52, sC53, h.f50_1, h.f50_2, h.f50_3⟩
  · exact ⟨sC54, sC55, sC56, sC57, h.f54_1, h.f54_2, h.f54_3⟩
  · exact ⟨sC58, sC59, sC60, sC61, h.f58_1, h.f58_2, h.f58_3⟩
theorem tL_of {b p : Nat} (hb : b ∈ bL) (hp : p < 4) : b + 4 + 4 * p ∈ tL := by
  simp only [bL, List.mem_cons, List.not_mem_nil, or_false] at hb
  rcases (show p = 0 ∨ p = 1 ∨ p = 2 ∨ p = 3 by omega) with rfl | rfl | rfl | rfl <;> rcases hb with rfl | rfl | rfl <;> decide
theorem s_textOf {m : jm_M} (h : CF m) {b p : Nat} (hb : b ∈ bL) (hp : p < 4) : f_X1_textOf shC b (p : Int) m = some (b + 4 + 4 * p) := by
  obtain ⟨h1, -, -, -, -, -, -, h5, h6, h7, h8⟩ := bC h b hb
  rcases (show p = 0 ∨ p = 1 ∨ p = 2 ∨ p = 3 by omega) with rfl | rfl | rfl | rfl
  · simp [f_X1_textOf, jrf_ok h1, h5]; omega
  · simp [f_X1_textOf, jrf_ok h1, h6]; omega
  · simp [f_X1_textOf, jrf_ok h1, h7]; omega
  · simp [f_X1_textOf, jrf_ok h1, h8]; omega
theorem s_signAt {m : jm_M} (h : CF m) {t : Nat} (ht : t ∈ tL) (i : Int) : f_X10_signAt shC t i m = some (if 0 ≤ i ∧ i < 30 then m (t + 1) i.toNat else 45) := by
  obtain ⟨h1, h2, h3, h4, h5, h6, h7⟩ := tC h t ht
  unfold f_X10_signAt
  by_cases c1 : i < 0
  · rw [if_pos c1, if_neg (by omega)]
  · by_cases c2 : i < 30
    · rw [if_neg c1, if_pos c2, if_pos ⟨by omega, c2⟩, jrf_ok h1, Option.bind_some, h5, Int.toNat_natCast, jra_ok h2 (by omega) (by omega)]
      rfl
    · rw [if_neg c1, if_neg c2, if_neg (by omega)]
theorem s_sizeAt {m : jm_M} (h : CF m) {t : Nat} (ht : t ∈ tL) (i : Int) : f_X10_sizeAt shC t i m = some (if 0 ≤ i ∧ i < 30 then m (t + 2) i.toNat else 1) := by
  obtain ⟨h1, h2, h3, h4, h5, h6, h7⟩ := tC h t ht
  unfold f_X10_sizeAt
  by_cases c1 : i < 0
  · rw [if_pos c1, if_neg (by omega)]
  · by_cases c2 : i < 30
    · rw [if_neg c1, if_pos c2, if_pos ⟨by omega, c2⟩, jrf_ok h1, Option.bind_some, h6, Int.toNat_natCast, jra_ok h3 (by omega) (by omega)]
      rfl
    · rw [if_neg c1, if_neg c2, if_neg (by omega)]
theorem s_linesWithin {m : jm_M} (h : CF m) {t : Nat} (ht : t ∈ tL) (i : Int) : f_X10_linesWithin shC t i m = some (if 0 ≤ i ∧ i < 30 then m (t + 3) i.toNat else 0) := by
  obtain ⟨h1, h2, h3, h4, h5, h6, h7⟩ := tC h t ht
  unfold f_X10_linesWithin
  by_cases c1 : i < 0
  · rw [if_pos c1, if_neg (by omega)]
  · by_cases c2 : i < 30
    · rw [if_neg c1, if_pos c2, if_pos ⟨by omega, c2⟩, jrf_ok h1, Option.bind_some, h7, Int.toNat_natCast, jra_ok h4 (by omega) (by omega)]
      rfl
    · rw [if_neg c1, if_neg c2, if_neg (by omega)]
theorem s_setting {m : jm_M} (h : CF m) {b : Nat} (hb : b ∈ bL) {i : Int} (h0 : 0 ≤ i) (h4 : i < 4) : f_X1_setting shC b i m = some (m (b + 1) i.toNat) := by
  obtain ⟨h1, h2, h3, -, h5, -⟩ := bC h b hb
  unfold f_X1_setting
  rw [if_neg (by omega)]
  simp only [jrf_ok h1, Option.bind_some, h5, Int.toNat_natCast, jlen_ok h2 (by decide) (by decide) (by decide)]
  rw [if_pos (by omega), jra_ok h2 h0 (by omega)]
  rfl
theorem s_periodOf {m : jm_M} (h : CF m) {b : Nat} (hb : b ∈ bL) {i : Int} (h0 : 0 ≤ i) (h4 : i < 4) : f_X1_periodOf shC b i m = some (m (b + 2) i.toNat) := by
  obtain ⟨h1, h2, h3, -, h5, h6, -⟩ := bC h b hb
  unfold f_X1_periodOf
  rw [if_neg (by omega)]
  simp only [jrf_ok h1, Option.bind_some, h6, Int.toNat_natCast, jlen_ok h3 (by decide) (by decide) (by decide)]
  rw [if_pos (by omega), jra_ok h3 h0 (by omega)]
  rfl
theorem s_isProgram (x : Int) : f_X11_isProgram x = some (if 0 ≤ x ∧ x < 4 then 1 else 0) := by
  unfold f_X11_isProgram
  split
  · rw [if_neg (by omega)]
  · split
    · rw [if_pos (by omega)]
    · rw [if_neg (by omega)]
theorem sM_isProgram (x : Int) : f_X12_isProgram x = some (if 0 ≤ x ∧ x < 4 then 1 else 0) := by
  unfold f_X12_isProgram
  rw [sM_in]
  by_cases c : 0 ≤ x ∧ x < 4
  · rw [if_pos c, if_pos (by omega)]
    rfl
  · rw [if_neg c, if_neg (by omega)]
    rfl
theorem two_bL : 2 ∈ bL := by decide
theorem op_choose : jOp_choose jN shC shM Inv := by
  intro mC mM x1 hx hI
  obtain ⟨A, hV, ⟨hF, hRR, hK⟩, hFM, hKM⟩ := id hI
  by_cases c0 : 0 ≤ x1 ∧ x1 ≤ 9
  · have e1 := hF.f1_0
    have e2 := hK.1.2.2.2.1
    have e3 := hKM.1.2.2.2.1
    have e4 := hF.f2_4
    have e5 := hFM.f8
    have hn : A.1.2.2.2.2.1 ≤ 20 := hV.1.2.2.2.1
    by_cases c1 : A.1.2.2.2.2.1 = 20
    · refine ⟨-4, mC, mM, ?_, ?_, hI⟩
      · simp [f_X11_choose, f_X1_addDigit, show ¬ x1 < 0 by omega, show ¬ 9 < x1 by omega, jrf_ok sC1, e1, jck_ok sC2, jrf_ok sC2, e4, e2, jlen_ok sC5, c1]
      · simp [f_X12_choose, sM_in, c0, jrf_ok sM1, e3, c1]
    · generalize hc : A.1.2.2.2.2.1 = ch at *
      have hlt : (ch : Int) < 20 := by omega
      have hw : jw ((ch : Int) + 1) = (ch : Int) + 1 := jw_eq (by omega) (by omega)
      refine ⟨(ch : Int) + 1, jm_up (jm_up mC 5 ch x1) 2 0 ((ch : Int) + 1), jm_up (jm_up mM 8 ch x1) 1 7 ((ch : Int) + 1), ?_, ?_, ((A.1.1, A.1.2.1, A.1.2.2.1, A.1.2.2.2.1, ch + 1, fun i => if i = ch then x1 else A.1.2.2.2.2.2 i), A.2), ⟨⟨hV.1.1, hV.1.2.1, hV.1.2.2.1, by show ch + 1 ≤ 20; omega, fun i hi => ?_⟩, hV.2⟩, ⟨(hF.up (nC_of (by decide) _)).up (by decide), RRs.up (RRs.up hRR (by decide)) (by decide), ?_⟩, (hFM.up (nM_of (by decide) _)).up (by decide), ?_⟩
      · simp [f_X11_choose, f_X1_addDigit, show ¬ x1 < 0 by omega, show ¬ 9 < x1 by omega, jrf_ok sC1, e1, jck_ok sC2, jrf_ok sC2, e4, e2, jlen_ok sC5, hlt, jwa_ok sC5, jwf_ok sC2, up_ne, up_eq, hw]
      · simp [f_X12_choose, sM_in, c0, jrf_ok sM1, e3, show ¬ ((ch : Int) = 20) by omega, e5, jwa_ok sM8, hlt, up_ne, up_eq, jwf_ok sM1, hw]
      · have hi : i < ch + 1 := hi
        show 0 ≤ (if i = ch then x1 else A.1.2.2.2.2.2 i) ∧ (if i = ch then x1 else A.1.2.2.2.2.2 i) ≤ 9
        split
        · exact c0
        · exact hV.1.2.2.2.2 i (by omega)
      · obtain ⟨⟨a1, a2, a3, a4, a5⟩, h2, h3, h4⟩ := hK
        refine ⟨⟨fun i hi => by rw [up_ne (by decide), up_ne (by decide)]; exact a1 i hi, fun p hp => (a2 p hp).same (fun a ha _ i => by rw [up_ne (by omega), up_ne (by omega)]), fun p hp => by rw [up_ne (by decide), up_ne (by decide)]; exact a3 p hp, by rw [up_eq]; simp, fun i hi => ?_⟩, by rw [up_ne (by decide), up_ne (by decide)]; exact h2, fun i hi => by rw [up_ne (by decide), up_ne (by decide)]; exact h3 i hi, KCi.same h4 (fun a ha _ i => by rw [up_ne (by omega), up_ne (by omega)])⟩
        have hi : i < ch + 1 := hi
        rw [up_ne (by decide), up_row]
        show _ = if i = ch then x1 else A.1.2.2.2.2.2 i
        split
        · rfl
        · exact a5 i (by omega)
      · obtain ⟨⟨a1, a2, a3, a4, a5⟩, h2, h3, h4⟩ := hKM
        refine ⟨⟨fun i hi => by rw [up_ne (by decide), up_ne (by decide)]; exact a1 i hi, fun p hp => ⟨by rw [up_ne (by decide), up_ne (by decide)]; exact (a2 p hp).1, fun i hi => by rw [up_ne (by decide), up_ne (by decide), up_ne (by decide), up_ne (by decide)]; exact (a2 p hp).2 i hi⟩, fun p hp => by rw [up_ne (by decide), up_ne (by decide)]; exact a3 p hp, by rw [up_eq]; simp, fun i hi => ?_⟩, by rw [up_nk (by decide), up_ne (by decide)]; exact h2, fun i hi => by rw [up_ne (by decide), up_ne (by decide)]; exact h3 i hi, KMi.same h4 (fun i => by rw [up_ne (by decide), up_ne (by decide)]) (fun i => by rw [up_ne (by decide), up_ne (by decide)])⟩
        have hi : i < ch + 1 := hi
        rw [up_ne (by decide), up_row]
        show _ = if i = ch then x1 else A.1.2.2.2.2.2 i
        split
        · rfl
        · exact a5 i (by omega)
  · refine ⟨-2, mC, mM, ?_, ?_, hI⟩
    · unfold f_X11_choose
      by_cases c1 : x1 < 0
      · rw [if_pos c1]
      · rw [if_neg c1, if_pos (by omega)]
    · simp [f_X12_choose, sM_in, c0]
