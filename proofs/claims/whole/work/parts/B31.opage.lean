theorem FrG.IM {m M : jm_M} {A : jAb} (hf : FrG m M 0) (h : IM m A) (hF : MF M) : IM M A := h.keep (fun a ha j => hf.1 a (by omega) (by omega) (by omega) (by omega) (by omega) (by omega) (by omega) j) (hf.2.1 1 (by decide)) (hf.2.1 7 (by decide)) hF
theorem s_ageAt {m : jm_M} (hF : CF m) {i k : Nat} {a : AgT} (hi : i < 30) (hk : k < 16) (hA : RA m (145 + i) a) : f_X0_ageAt shC 142 (i : Int) (k : Int) m = some (a k : Int) := by
  obtain ⟨r1, r2⟩ := at_row hF hi
  unfold f_X0_ageAt f_X0_ageAt_b25
  rw [if_neg (by omega), if_pos (by omega), if_neg (by omega), if_pos (by omega), if_neg (by decide), jrf_ok sC142, Option.bind_some, hF.t142_3, jra_ok sC144 (by omega) (by omega), Option.bind_some, Int.toNat_natCast, r1, hA.get r2.s hk, Option.bind_some]
theorem op_age : jOp_age jN shC shM Inv := by
  intro mC mM x1 x2 x3 x4 hx1 hx2 hx3 hx4 hI
  obtain ⟨A, hV, hC, hM⟩ := id hI
  obtain ⟨hF, hRR, hK⟩ := id hC
  obtain ⟨hFM, hKM⟩ := id hM
  have hJ := jN_huge
  have fC := s_isFetch2 (x1 := x1) (x2 := x2) hF hV.1 hK.1
  have fM := sM_isFetch2 (x1 := x1) (x2 := x2) hFM hV.1 hKM.1
  by_cases c0 : ftO A.1 x1 x2
  · have fC := fC.1 c0
    have fM := fM.1 c0
    by_cases c1 : 0 ≤ x4 ∧ x4 ≤ 7
    · by_cases c2 : 0 ≤ x3 ∧ x3 ≤ 1
      · obtain ⟨h1, h2, h3⟩ := c0
        obtain ⟨p, rfl⟩ : ∃ p : Nat, x1 = p := ⟨x1.toNat, by omega⟩
        obtain ⟨i, rfl⟩ : ∃ i : Nat, x2 = i := ⟨x2.toNat, by omega⟩
        obtain ⟨k, rfl⟩ : ∃ k : Nat, x4 = k := ⟨x4.toNat, by omega⟩
        rw [Int.toNat_natCast] at h2 h3
        rw [Int.toNat_natCast] at h3
        have hp : p < 4 := by omega
        have ht := tL_of two_bL hp
        have hX := hV.1.2.1 p hp
        have hcn := hX.1
        obtain ⟨S, w, h, ms, s0, s1, s2, s3, hT, hm1, hm2⟩ := hV.1.1.nat
        obtain ⟨q1, q2, q3⟩ := hKM.1.prog (S := S) (w := w) (h := h) (ms := ms) hp s0 s1 s2 s3
        obtain ⟨M, e, cf, aw, f⟩ := s_trace (N := jN) (by omega) ht hF hX (hK.1.2.1 p hp) hT (⟨by rw [hK.1.1 0 (by decide)]; exact s0, by rw [hK.1.1 1 (by decide)]; exact s1, by rw [hK.1.1 3 (by decide)]; exact s3⟩ : GS mC S w h)
        obtain ⟨M', e', mf, am, f'⟩ := sM_layAges (N := jN) hJ hp hT hX (⟨hFM, q1, q3⟩ : GNa mM p (A.1.2.1 p) (A.1.2.2.1 p) S w h)
        obtain ⟨a, ha⟩ := pa_has (S := S) (w := w) (h := h) 4 (Nat.le_refl 4) 0 hX.2.1 (inA S w h, fun _ => none) i (by omega) (by rw [hX.2.2]; omega) h3
        have vC := aw.2 i (by omega) a ha
        have vM := am.2 i (by omega) a ha
        have hIn : Inv M M' := ⟨A, hV, hC.keep (fun a ha => f a (by omega)) cf (fun r hr => (hRR r hr).same (fun a h1 h2 j => f a (by have := rr_ge r hr; omega) j)), f'.IM hM mf⟩
        refine ⟨(a (8 * x3.toNat + k) : Int), M, M', ?_, ?_, hIn⟩
        · unfold f_X11_age
          rw [jck_ok sC1, Option.bind_some, fC, Option.bind_some, if_neg (by decide), if_neg (by omega), if_pos (by omega), if_neg (by omega), if_neg (by omega), jrf_ok sC1, Option.bind_some, jrf_ok sC1, Option.bind_some, hF.t1_0, hF.t1_7, jck_ok sC2, Option.bind_some, s_textOf hF two_bL hp, Option.bind_some, jck_ok sC142, Option.bind_some, e, Option.bind_some]
          by_cases c3 : x3 = 0
          · unfold f_X0_mustAt
            rw [if_pos c3, jrf_ok sC1, Option.bind_some, cf.t1_7, jck_ok sC142, Option.bind_some, Option.bind_some, s_ageAt cf (by omega) (by omega) vC, Option.bind_some, Option.bind_some, c3]
            rw [show 8 * (0 : Int).toNat + k = k by simp]
          · have e1 : x3 = 1 := by omega
            unfold f_X0_mayAt
            rw [if_neg c3, jrf_ok sC1, Option.bind_some, cf.t1_7, jck_ok sC142, Option.bind_some, Option.bind_some, jw_eq (by omega) (by omega), show (8 : Int) + (k : Int) = ((8 + k : Nat) : Int) by omega, s_ageAt cf (by omega) (by omega) vC, Option.bind_some, Option.bind_some, e1]
            rw [show 8 * (1 : Int).toNat + k = 8 + k by simp]
        · have ex : jw (jw (jw (16 * (i : Int)) + jw (8 * x3)) + (k : Int)) = ((16 * i + (8 * x3.toNat + k) : Nat) : Int) := by
            rw [jw_eq (x := 16 * (i : Int)) (by omega) (by omega), jw_eq (x := 8 * x3) (by omega) (by omega), jw_eq (x := 16 * (i : Int) + 8 * x3) (by omega) (by omega), jw_eq (by omega) (by omega)]
            omega
          unfold f_X12_age
          rw [jck_ok sM1, Option.bind_some, fM, Option.bind_some, if_neg (by decide), sM_in, if_pos c1, Option.bind_some, if_neg (by decide), sM_in, if_pos c2, Option.bind_some, if_neg (by decide), Option.bind_some, e', Option.bind_some, jrf_ok sM1, Option.bind_some, mf.t29, ex, jra_ok sM20 (by omega) (by omega), Option.bind_some, Int.toNat_natCast, vM _ (by omega)]
      · refine ⟨-2, mC, mM, ?_, ?_, hI⟩
        · unfold f_X11_age
          rw [jck_ok sC1, Option.bind_some, fC, Option.bind_some, if_neg (by decide), if_neg (by omega), if_pos (by omega)]
          by_cases c3 : x3 < 0
          · rw [if_pos c3]
          · rw [if_neg c3, if_pos (by omega)]
        · unfold f_X12_age
          rw [jck_ok sM1, Option.bind_some, fM, Option.bind_some, if_neg (by decide), sM_in, if_pos c1, Option.bind_some, if_neg (by decide), sM_in, if_neg c2, Option.bind_some, if_pos rfl]
    · refine ⟨-1, mC, mM, ?_, ?_, hI⟩
      · unfold f_X11_age
        rw [jck_ok sC1, Option.bind_some, fC, Option.bind_some, if_neg (by decide)]
        by_cases c3 : x4 < 0
        · rw [if_pos c3]
        · rw [if_neg c3, if_neg (by omega)]
      · unfold f_X12_age
        rw [jck_ok sM1, Option.bind_some, fM, Option.bind_some, if_neg (by decide), sM_in, if_neg c1, Option.bind_some, if_pos rfl]
  · refine ⟨-1, mC, mM, ?_, ?_, hI⟩
    · unfold f_X11_age
      rw [jck_ok sC1, Option.bind_some, fC.2 c0, Option.bind_some, if_pos rfl]
    · unfold f_X12_age
      rw [jck_ok sM1, Option.bind_some, fM.2 c0, Option.bind_some, if_pos rfl]
