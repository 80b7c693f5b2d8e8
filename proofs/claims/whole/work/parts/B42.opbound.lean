theorem op_bound : jOp_bound jN shC shM Inv := by
  intro mC mM x1 x2 hx1 hx2 hI
  obtain ⟨A, hV, hC, hM⟩ := id hI
  obtain ⟨hF, hRR, hK⟩ := id hC
  obtain ⟨hFM, hKM⟩ := id hM
  have hJ := jN_huge
  by_cases c0 : 0 ≤ x1 ∧ x1 < 4
  · by_cases c1 : 0 ≤ x2 ∧ x2 ≤ 1
    · obtain ⟨p, rfl⟩ : ∃ p : Nat, x1 = p := ⟨x1.toNat, by omega⟩
      have hp : p < 4 := by omega
      have ht := tL_of two_bL hp
      have htl := tL_lt _ ht
      obtain ⟨S, w, h, ms, s0, s1, s2, s3, hT, hm1, hm2⟩ := hV.1.1.nat
      have hX := hV.1.2.1 p hp
      have hcn := hX.1
      have hpos := hX.pos
      obtain ⟨q1, q2, q3⟩ := hKM.1.prog (S := S) (w := w) (h := h) (ms := ms) hp s0 s1 s2 s3
      have hG : GNa mM p (A.1.2.1 p) (A.1.2.2.1 p) S w h := ⟨hFM, q1, q3⟩
      have gsC : GS mC S w h := ⟨by rw [hK.1.1 0 (by decide)]; exact s0, by rw [hK.1.1 1 (by decide)]; exact s1, by rw [hK.1.1 3 (by decide)]; exact s3⟩
      have z2C : mC 3 2 = (ms : Int) := by rw [hK.1.1 2 (by decide)]; exact s2
      obtain ⟨M, e, cf, aw, so, z0, f⟩ := s_study (N := jN) (by omega) ht hF hX (hK.1.2.1 p hp) hT gsC
      have ct : CT M (2 + 4 + 4 * p) (A.1.2.1 p) (A.1.2.2.1 p) := (hK.1.2.1 p hp).same (fun a h1 h2 j => f a (by omega) j)
      have gs : GS M S w h := ⟨by rw [f 3 (by omega)]; exact gsC.1, by rw [f 3 (by omega)]; exact gsC.2.1, by rw [f 3 (by omega)]; exact gsC.2.2⟩
      have z2 : M 3 2 = (ms : Int) := by rw [f 3 (by omega)]; exact z2C
      have IC' : ∀ M2 : jm_M, CF M2 → (∀ a, a ≠ 189 → ∀ j, M2 a j = M a j) → IC M2 A := fun M2 cf2 f2 => hC.keep (fun a ha j => (f2 a (by omega) j).trans (f a (by omega) j)) cf2 (fun r hr => (hRR r hr).same (fun a h1 h2 j => by have := rr_ge r hr; exact (f2 a (by omega) j).trans (f a (by omega) j)))
      obtain ⟨M', e', mf, am, f'⟩ := sM_layAges (N := jN) hJ hp hT hX hG
      have hIM : IM M' A := f'.IM hM mf
      have hGB : GBo M' p (A.1.2.1 p) (A.1.2.2.1 p) S w h ms := ⟨hG.fr f', am, (hIM.2.1.1 2 (by decide)).trans s2, (hIM.2.1.2.1 p hp).1⟩
      obtain ⟨M3, e3, f3⟩ := sM_table (x2 := x2) (one := if x2 = 1 then 1 else (ms : Int)) rfl hp hT hX hGB
      have hGB3 := hGB.same f3
      have hIM3 : IM M3 A := hIM.keep (fun a ha j => f3 a (by omega) j) (f3 1 (by decide) 1) (f3 1 (by decide) 7) hGB3.1.1
      have hfe : ∀ k, k < A.1.2.1 p → f_X12_isFetch shM 1 (p : Int) (k : Int) M3 = some (if 48 ≤ A.1.2.2.1 p k ∧ A.1.2.2.1 p k ≤ 55 then 1 else 0) := fun k hk => by
        have fM := sM_isFetch2 (x1 := (p : Int)) (x2 := (k : Int)) hIM3.1 hV.1 hIM3.2.1
        by_cases c : 48 ≤ A.1.2.2.1 p k ∧ A.1.2.2.1 p k ≤ 55
        · rw [if_pos c]
          exact fM.1 ⟨c0, by rw [Int.toNat_natCast]; omega, by rw [Int.toNat_natCast, Int.toNat_natCast]; exact c⟩
        · rw [if_neg c]
          refine fM.2 (fun z => c ?_)
          have z2 := z.2.2
          rw [Int.toNat_natCast, Int.toNat_natCast] at z2
          exact z2
      have hv4 : (M' 4 p) = ((A.1.2.1 p : Nat) : Int) := hGB.2.2.2
      have hC11 : ∀ r : Option (Int × jm_M), (if x2 = 0 then Option.bind (f_X2_plain jN shC 187 M) (fun q17 => some (q17.1, q17.2)) else Option.bind (f_X2_closer jN shC 187 M) (fun q21 => some (q21.1, q21.2))) = r → f_X11_bound jN shC 1 (p : Int) x2 mC = r := fun r hr => by
        unfold f_X11_bound
        rw [s_isProgram, if_pos c0, Option.bind_some, if_neg (by decide), if_neg (by omega), if_neg (by omega), jrf_ok sC1, Option.bind_some, jrf_ok sC1, Option.bind_some, hF.t1_0, hF.t1_8, jck_ok sC2, Option.bind_some, s_textOf hF two_bL hp, Option.bind_some, jck_ok sC187, Option.bind_some, e, Option.bind_some, jrf_ok sC1, Option.bind_some, cf.t1_8, jck_ok sC187, Option.bind_some, Option.bind_some, cf.t1_8, jck_ok sC187, Option.bind_some]
        exact hr
      have hM11 : ∀ r : Option (Int × jm_M), f_X12_bound_l240 jN shM jN 1 (p : Int) x2 (tbO S w h (ms : Int) (if x2 = 1 then 1 else (ms : Int)) (A.1.2.2.1 p) (A.1.2.1 p) (A.1.2.1 p) 0) 0 M3 = r → f_X12_bound jN shM 1 (p : Int) x2 mM = r := fun r hr => by
        unfold f_X12_bound
        rw [sM_isProgram, if_pos c0, Option.bind_some, if_neg (by decide), sM_in, if_pos c1, Option.bind_some, if_neg (by decide), jck_ok sM1, Option.bind_some, e', Option.bind_some, jrf_ok sM1, Option.bind_some, mf.t3, jra_ok sM4 (by omega) (by omega), Option.bind_some, Int.toNat_natCast, hv4, jw_eq (by omega) (by omega), e3]
        exact hr
      by_cases k : x2 = 0
      · obtain ⟨M2, e2, cf2, f2⟩ := s_bcostOf (N := jN) (one := (ms : Int)) (by omega) ht cf hX ct z0 so z2
        refine ⟨tbO S w h (ms : Int) (ms : Int) (A.1.2.2.1 p) (A.1.2.1 p) (A.1.2.1 p) 0, M2, M3, hC11 _ ?_, hM11 _ ?_, A, hV, IC' M2 cf2 f2, hIM3⟩
        · rw [if_pos k]
          unfold f_X2_plain
          have g2 : f_X1_setting shC 2 2 M = some (ms : Int) := by
            rw [s_setting cf two_bL (by decide) (by decide)]
            show some (M 3 2) = _
            rw [z2]
          rw [jrf_ok sC187]
          simp only [Option.bind_some]
          rw [cf.t187_1, jck_ok sC2, g2, jck_ok sC187]
          simp only [Option.bind_some]
          rw [e2]
          rfl
        · rw [if_neg (by omega)]
          obtain ⟨nn, hnn⟩ : ∃ n', jN = n' + 1 := ⟨jN - 1, by omega⟩
          have key : ∀ (n : Nat) (acc : Int), f_X12_bound_l240 jN shM (n + 1) 1 (p : Int) x2 acc 0 M3 = some (acc, M3) := fun n acc => by
            unfold f_X12_bound_l240 f_X12_bound_b240
            rw [jrf_ok sM1, Option.bind_some, hGB3.1.1.t3, jra_ok sM4 (by omega) (by omega), Option.bind_some, Int.toNat_natCast, hGB3.2.2.2, if_pos (by omega), if_neg (by omega)]
          have := key nn (tbO S w h (ms : Int) (ms : Int) (A.1.2.2.1 p) (A.1.2.1 p) (A.1.2.1 p) 0)
          rw [← hnn] at this
          exact this
      · obtain rfl : x2 = 1 := by omega
        obtain ⟨M2, e2, cf2, f2⟩ := s_closer (N := jN) (by omega) ht cf hX ct hT gs z0 so z2
        refine ⟨clO S w h (ms : Int) (A.1.2.2.1 p) (A.1.2.1 p) 0 (tbO S w h (ms : Int) 1 (A.1.2.2.1 p) (A.1.2.1 p) (A.1.2.1 p) 0), M2, M3, hC11 _ ?_, hM11 _ ?_, A, hV, IC' M2 cf2 f2, hIM3⟩
        · rw [if_neg k, e2, Option.bind_some]
        · rw [if_pos rfl]
          exact sM_closer hp hT hX hGB3 hfe (A.1.2.1 p) 0 jN _ (by omega) (by omega) (jIn_tb (by unfold jIn; omega) (by unfold jIn; omega) _ _)
    · refine ⟨-2, mC, mM, ?_, ?_, hI⟩
      · unfold f_X11_bound
        rw [s_isProgram, if_pos c0, Option.bind_some, if_neg (by decide)]
        by_cases k : x2 < 0
        · rw [if_pos k]
        · rw [if_neg k, if_pos (by omega)]
      · unfold f_X12_bound
        rw [sM_isProgram, if_pos c0, Option.bind_some, if_neg (by decide), sM_in, if_neg (by omega), Option.bind_some, if_pos rfl]
  · refine ⟨-1, mC, mM, ?_, ?_, hI⟩
    · unfold f_X11_bound
      rw [s_isProgram, if_neg c0, Option.bind_some, if_pos rfl]
    · unfold f_X12_bound
      rw [sM_isProgram, if_neg c0, Option.bind_some, if_pos rfl]
