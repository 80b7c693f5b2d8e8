theorem n112 : nC 112 0 = true ∧ nC 112 1 = true ∧ nC 112 2 = true ∧ nC 112 3 = true := by decide +kernel
theorem s_find {N t cn : Nat} {sg : Nat → Int} {S w h ms : Nat} {m : jm_M} (hN : 1000 ≤ N) (ht : t ∈ tL) (hF : CF m) (hX : TX cn sg) (hC : CT m t cn sg) (hT : ST S w h) (hms : ms ≤ 20) (h0 : m 3 0 = (S : Int)) (h1 : m 3 1 = (w : Int)) (h2 : m 3 2 = (ms : Int)) (h3 : m 3 3 = (h : Int)) :
    ∃ M k, f_X5_find N shC 112 t m = some M ∧ CF M ∧ QW M S w h (lr sg 0 cn) k (rwD S w h ms sg) ∧ ∀ a, a < 65 ∨ (80 < a ∧ a < 112) ∨ 141 < a → ∀ j, M a j = m a j := by
  obtain ⟨n0, n1, n2, n3⟩ := n112
  have htl := tL_lt t ht
  have hcn := hX.1
  obtain ⟨t1, -⟩ := tC hF t ht
  have hw2 := hT.2.1.2
  generalize hm13 : jm_up m 112 3 (t : Int) = m13
  have k13 : ∀ a, a ≠ 112 → ∀ j, m13 a j = m a j := fun a ha j => by rw [← hm13]; exact up_ne ha
  have hF13 : CF m13 := by rw [← hm13]; exact hF.up n3
  generalize hm20 : jm_up (jm_up (jm_up m13 112 2 (ms : Int)) 112 0 0) 112 1 0 = m20
  have k20 : ∀ a, a ≠ 112 → ∀ j, m20 a j = m a j := fun a ha j => by rw [← hm20, up_ne ha, up_ne ha, up_ne ha]; exact k13 a ha j
  have hF20 : CF m20 := by rw [← hm20]; exact ((hF13.up n2).up n0).up n1
  have hC20 : CT m20 t cn sg := hC.same (fun a h1 h2 => k20 a (by omega))
  have hC13 : CT m13 t cn sg := hC.same (fun a h1 h2 => k13 a (by omega))
  obtain ⟨M1, e1, l1, c1, f1⟩ := s_lay (N := N) (cr := lr sg 0 cn) (by omega) hF20 hT (lr_lt sg 0 cn) (by rw [k20 3 (by decide)]; exact h0) (by rw [k20 3 (by decide)]; exact h1)
  have hG1 : GRr M1 t cn sg S w h ms (lr sg 0 cn) := ⟨c1, hC20.same (fun a h1 h2 j => f1 a (by omega) j), l1, by rw [f1 112 (by omega), ← hm20, up_nk (by decide), up_nk (by decide), up_nk (by decide), ← hm13]; exact up_eq, by rw [f1 112 (by omega), ← hm20, up_nk (by decide), up_nk (by decide)]; exact up_eq⟩
  have hCN := CN_le (w := w) (h := h) (cr := lr sg 0 cn) hT.1
  have hW : isW 114 := by unfold isW; omega
  obtain ⟨M2, n', e2, q⟩ := loopN (fun n k m => f_X5_find_l52 N shC n 112 k m) (CN S w h (lr sg 0 cn)) (fun x M => (∀ c, c < x → M 114 c = 0) ∧ ∀ a, a ≠ 114 → ∀ j, M a j = M1 a j) (fun n x M hx hI => by
    obtain ⟨g1, g2, g3, g4, g5⟩ := hG1.row ht hW hI.2
    have h6 : (x : Int) < ((625 : Nat) : Int) := by omega
    refine ⟨jm_up M 114 x 0, ?_, fun c hc => ?_, fun a ha j => (up_ne ha).trans (hI.2 a ha j)⟩
    · show f_X5_find_b52 N shC (f_X5_find_l52 N shC n) 112 (x : Int) M = _
      unfold f_X5_find_b52
      rw [jrf_ok sC112, Option.bind_some, g1.t112_5, jrf_ok sC65, Option.bind_some, g3.1.2.1, if_pos (by omega), jrf_ok sC112, Option.bind_some, g1.t112_7, jlen_ok sC114 (by decide) (by decide) (by decide), Option.bind_some, if_pos h6, Option.bind_some, g1.t112_7, jwa_ok sC114 (by omega) h6, Option.bind_some, Int.toNat_natCast, jw_succ (by omega)]
    · by_cases k : c = x
      · rw [k]; exact up_eq
      · rw [up_nk k]; exact hI.1 c (by omega)) 0 N M1 (by omega) (by omega) ⟨fun c hc => by omega, fun _ _ _ => rfl⟩
  have e2 : f_X5_find_l52 N shC N 112 0 M1 = f_X5_find_l52 N shC (n' + 1) 112 (CN S w h (lr sg 0 cn) : Int) M2 := e2
  have hG2 := hG1.row ht hW q.2
  have tb : TBc M2 S w h (lr sg 0 cn) 114 zB := fun k c hk => by rw [q.1 c (hk.lt hw2).2]; rfl
  have q0 : QW M2 S w h (lr sg 0 cn) 0 [] := by
    refine ⟨fun _ => ⟨⟨0, Rk.zero hw2 hT.1, ?_⟩, ?_, trivial⟩, fun z => absurd z (by decide)⟩
    · rw [q.2 112 (by decide), f1 112 (by omega), ← hm20]; exact up_eq
    · rw [q.2 112 (by decide), f1 112 (by omega), ← hm20, up_nk (by decide)]; exact up_eq
  have h4 : (ms + 1) * 4 ^ 4 ≤ 21 * 4 ^ 4 := Nat.mul_le_mul_right _ (by omega)
  obtain ⟨M3, e3, q3, f3⟩ := walk_all (N := N) (ms := ms) hN ht hT hms hX rfl 4 (Nat.le_refl 4) 0 hX.2.1 8 0 114 0 0 zB [] M2 (by decide) (by decide) hW (by decide) (by rw [hX.2.2]; omega) hG2 tb (fun _ => Nat.le_refl _) (by omega) q0
  have e3 : f_X5_walk N shC 8 112 0 0 114 M2 = some M3 := e3
  refine ⟨M3, _, ?_, (f3.G hG2 ht).1, q3, fun a ha j => ?_⟩
  · have s2 : f_X1_setting shC 2 2 m13 = some (ms : Int) := by
      rw [s_setting hF13 two_bL (by decide) (by decide)]
      show some (m13 3 2) = _
      rw [k13 3 (by decide), h2]
    have s3 : f_X1_setting shC 2 3 m20 = some (h : Int) := by
      rw [s_setting hF20 two_bL (by decide) (by decide)]
      show some (m20 3 3) = _
      rw [k20 3 (by decide), h3]
    unfold f_X5_find
    rw [jwr_ok sC112 (by omega), Option.bind_some, hm13, jrf_ok sC112, Option.bind_some, hF13.t112_4, jck_ok sC2, Option.bind_some, s2, Option.bind_some, jwf_ok sC112, Option.bind_some, jwf_ok sC112, Option.bind_some, jwf_ok sC112, Option.bind_some, hm20, jrf_ok sC112, Option.bind_some, jrf_ok sC112, Option.bind_some, hF20.t112_4, hF20.t112_5, Option.bind_some, hF20.t112_4, jck_ok sC2, Option.bind_some, s3, Option.bind_some, jck_ok t1, Option.bind_some, s_allLines hF20 ht hX hC20, Option.bind_some, jck_ok sC65, Option.bind_some, e1, Option.bind_some, e2]
    show f_X5_find_b52 N shC (f_X5_find_l52 N shC n') 112 (CN S w h (lr sg 0 cn) : Int) M2 = _
    unfold f_X5_find_b52 f_X5_find_b85
    rw [jrf_ok sC112, Option.bind_some, hG2.1.t112_5, jrf_ok sC65, Option.bind_some, hG2.2.2.1.1.2.1, if_neg (by omega), jrf_ok sC112, Option.bind_some, hG2.1.t112_7, jck_ok sC112, Option.bind_some, e3, Option.bind_some]
  · rw [f3.1 a (by omega) (by omega) (by omega) (by omega), q.2 a (by omega), f1 a (by omega), k20 a (by omega)]
theorem op_row : jOp_row jN shC shM Inv := by
  intro mC mM x1 x2 hx1 hx2 hI
  obtain ⟨A, hV, hC, hM⟩ := id hI
  obtain ⟨hF, hRR, hK⟩ := id hC
  obtain ⟨hFM, hKM⟩ := id hM
  have hJ := jN_huge
  by_cases c0 : 0 ≤ x1 ∧ x1 < 4
  · obtain ⟨p, rfl⟩ : ∃ p : Nat, x1 = p := ⟨x1.toNat, by omega⟩
    have hp : p < 4 := by omega
    have ht := tL_of two_bL hp
    obtain ⟨S, w, h, ms, s0, s1, s2, s3, hT, hm1, hm2⟩ := hV.1.1.nat
    have hX := hV.1.2.1 p hp
    obtain ⟨q1, q2, q3⟩ := hKM.1.prog (S := S) (w := w) (h := h) (ms := ms) hp s0 s1 s2 s3
    obtain ⟨M, k, e, cf, qw, f⟩ := s_find (N := jN) (by omega) ht hF hX (hK.1.2.1 p hp) hT hm2 (by rw [hK.1.1 0 (by decide)]; exact s0) (by rw [hK.1.1 1 (by decide)]; exact s1) (by rw [hK.1.1 2 (by decide)]; exact s2) (by rw [hK.1.1 3 (by decide)]; exact s3)
    obtain ⟨M', e', f', fs⟩ := sM_layRow hFM hp hT hm2 hX q1 q2 q3
    have hIn : Inv M M' := ⟨A, hV, hC.keep (fun a ha j => f a (by omega) j) cf (fun r hr => (hRR r hr).same (fun a h1 h2 j => by have := rr_ge r hr; exact f a (by omega) j)), f'.IM hM⟩
    have mf := f'.MF hFM
    generalize hD : rwD S w h ms (A.1.2.2.1 p) = D at qw e' fs
    have hc11 : ∀ r : Option (Int × jm_M), (if 20 < M 112 0 then some ((-3), M) else if x2 = (-1) then some (M 112 0, M) else Option.bind (f_X5_digitAt shC 112 x2 M) (fun q20 => some (q20, M))) = r → f_X11_row jN shC 1 (p : Int) x2 mC = r := fun r hr => by
      unfold f_X11_row
      rw [s_isProgram, if_pos c0, Option.bind_some, if_neg (by decide), jrf_ok sC1, Option.bind_some, jrf_ok sC1, Option.bind_some, hF.t1_0, hF.t1_6, jck_ok sC2, Option.bind_some, s_textOf hF two_bL hp, Option.bind_some, jck_ok sC112, Option.bind_some, e, Option.bind_some, jrf_ok sC1, Option.bind_some, cf.t1_6, jrf_ok sC112, Option.bind_some]
      rw [← hr]
      by_cases z1 : 20 < M 112 0
      · rw [if_pos z1, if_pos z1]
      · rw [if_neg z1, if_neg z1]
        by_cases z2 : x2 = -1
        · rw [if_pos z2, if_pos z2, Option.bind_some, cf.t1_6, jrf_ok sC112, Option.bind_some]
        · rw [if_neg z2, if_neg z2, Option.bind_some, cf.t1_6, jck_ok sC112, Option.bind_some]
    by_cases c20 : D.length ≤ 20
    · obtain ⟨-, d0, d3⟩ := qw.1 c20
      have d6 := fs c20
      rw [if_pos c20] at e'
      have hm11 : ∀ r : Option (Int × jm_M), (if x2 = (-1) then some ((D.length : Int), M') else Option.bind (f_X12_in x2 0 ((D.length : Int) - 1)) (fun q9 => if q9 = 0 then some ((-6), M') else Option.bind (jra shM M' 16 13 x2) (fun v13 => some (v13, M')))) = r → f_X12_row jN shM 1 (p : Int) x2 mM = r := fun r hr => by
        unfold f_X12_row
        rw [sM_isProgram, if_pos c0, Option.bind_some, if_neg (by decide), jck_ok sM1, Option.bind_some, e', Option.bind_some]
        dsimp only
        rw [if_neg (by omega), jw_eq (by omega) (by omega), jrf_ok sM1, Option.bind_some, mf.t21]
        exact hr
      by_cases z2 : x2 = -1
      · refine ⟨(D.length : Int), M, M', hc11 _ ?_, hm11 _ ?_, hIn⟩
        · rw [d0, if_neg (by omega), if_pos z2]
        · rw [if_pos z2]
      · by_cases z3 : 0 ≤ x2 ∧ x2 < (D.length : Int)
        · obtain ⟨i, rfl⟩ : ∃ i : Nat, x2 = i := ⟨x2.toNat, by omega⟩
          have hi : i < D.length := by omega
          have a3 := FS3_at D 0 i hi d3
          have a6 := FSm_at D 0 i hi d6
          rw [Nat.zero_add] at a3 a6
          have h20 : (i : Int) < ((20 : Nat) : Int) := by omega
          refine ⟨(D.getD i 0 : Int), M, M', hc11 _ ?_, hm11 _ ?_, hIn⟩
          · rw [d0, if_neg (by omega), if_neg z2]
            unfold f_X5_digitAt
            rw [if_neg (by omega), jrf_ok sC112, Option.bind_some, d0, if_pos (by omega), jrf_ok sC112, Option.bind_some, cf.t112_6, jlen_ok sC113 (by decide) (by decide) (by decide), Option.bind_some, if_pos h20, Option.bind_some, cf.t112_6, jra_ok sC113 (by omega) h20, Option.bind_some, Int.toNat_natCast, a3, Option.bind_some]
          · rw [if_neg z2, sM_in, if_pos (by omega), Option.bind_some, if_neg (by decide), jra_ok sM16 (by omega) (by omega), Option.bind_some, Int.toNat_natCast, a6]
        · refine ⟨-6, M, M', hc11 _ ?_, hm11 _ ?_, hIn⟩
          · rw [d0, if_neg (by omega), if_neg z2]
            unfold f_X5_digitAt
            by_cases z4 : x2 < 0
            · rw [if_pos z4, Option.bind_some]
            · rw [if_neg z4, jrf_ok sC112, Option.bind_some, d0, if_neg (by omega), Option.bind_some]
          · rw [if_neg z2, sM_in, if_neg (by omega), Option.bind_some, if_pos rfl]
    · rw [if_neg c20] at e'
      have d0 := qw.2 (by omega)
      refine ⟨-3, M, M', hc11 _ ?_, ?_, hIn⟩
      · rw [d0, if_pos (by decide)]
      · unfold f_X12_row
        rw [sM_isProgram, if_pos c0, Option.bind_some, if_neg (by decide), jck_ok sM1, Option.bind_some, e', Option.bind_some]
        dsimp only
        rw [if_pos (by decide)]
  · refine ⟨-1, mC, mM, ?_, ?_, hI⟩
    · unfold f_X11_row
      rw [s_isProgram, if_neg c0, Option.bind_some, if_pos rfl]
    · unfold f_X12_row
      rw [sM_isProgram, if_neg c0, Option.bind_some, if_pos rfl]
