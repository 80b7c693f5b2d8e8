theorem may_hc : ∀ s : Fin 3, ∀ w : Fin 2, ∀ h : Fin 256, f_X11_mayBeHeld jN ((2 ^ s.val : Nat) : Int) ((w.val + 1 : Nat) : Int) (h.val : Int) = some (if ∀ t, t < 2 ^ s.val → hc (2 ^ s.val) h.val t ≤ w.val + 1 then 1 else 0) := by decide +kernel
theorem may_S {S w h : Nat} (hS : isS S) (hw : 1 ≤ w ∧ w ≤ 2) (hh : h < 256) : f_X11_mayBeHeld jN (S : Int) (w : Int) (h : Int) = some (if ∀ t, t < S → hc S h t ≤ w then 1 else 0) := by
  obtain ⟨v, rfl⟩ : ∃ v, w = v + 1 := ⟨w - 1, by omega⟩
  rcases hS with rfl | rfl | rfl
  · exact may_hc 0 ⟨v, by omega⟩ ⟨h, hh⟩
  · exact may_hc 1 ⟨v, by omega⟩ ⟨h, hh⟩
  · exact may_hc 2 ⟨v, by omega⟩ ⟨h, hh⟩
theorem VS.nat {st : Nat → Int} (h : VS st) : ∃ S w hh ms : Nat, st 0 = (S : Int) ∧ st 1 = (w : Int) ∧ st 2 = (ms : Int) ∧ st 3 = (hh : Int) ∧ ST S w hh ∧ 2 ≤ ms ∧ ms ≤ 20 := by
  obtain ⟨h0, h1, h2, h3, h4⟩ := h
  have hS : isS (st 0).toNat := by
    rcases h0 with e | e | e
    · exact Or.inl (by omega)
    · exact Or.inr (Or.inl (by omega))
    · exact Or.inr (Or.inr (by omega))
  have e0 : st 0 = ((st 0).toNat : Int) := by omega
  have e1 : st 1 = ((st 1).toNat : Int) := by omega
  have e3 : st 3 = ((st 3).toNat : Int) := by omega
  refine ⟨(st 0).toNat, (st 1).toNat, (st 3).toNat, (st 2).toNat, e0, e1, by omega, e3, ⟨hS, by omega, by omega, ?_⟩, by omega, by omega⟩
  unfold mayH at h4
  rw [e0, e1, e3, may_S hS (by omega) (by omega)] at h4
  by_cases c : ∀ t, t < (st 0).toNat → hc (st 0).toNat (st 3).toNat t ≤ (st 1).toNat
  · exact c
  · rw [if_neg c] at h4; cases h4
theorem wk_BD {ms : Nat} (h : ms ≤ 20) : BD 4 ms (0, 0, 0, 0, 0) := by
  have : (ms + 1) * 4 ^ 4 ≤ 21 * 4 ^ 4 := Nat.mul_le_mul_right _ (by omega)
  refine ⟨?_, ?_, ?_, ?_⟩
  · show 0 + (ms + 1) * 4 ^ 4 ≤ 100000; omega
  · show 0 + 4 ^ 4 ≤ 100000; decide
  · show 0 + 4 ^ 4 ≤ 100000; decide
  · show 0 + 5 ^ 4 ≤ 100000; decide
/-- the class's run: goThrough -/
theorem s_goThrough {N p : Nat} {m : jm_M} {q : jBd} {S w h ms : Nat} (hN : 1000 ≤ N) (hF : CF m) (hp : p < 4) (hV : VB q) (hB : CB m 2 q) (hT : ST S w h) (hms : ms ≤ 20) (s0 : q.1 0 = (S : Int)) (s1 : q.1 1 = (w : Int)) (s2 : q.1 2 = (ms : Int)) (s3 : q.1 3 = (h : Int)) :
    ∃ M, f_X6_goThrough N shC 81 (2 + 4 + 4 * p) m = some M ∧ QC M S w h (lr (q.2.2.1 p) 0 (q.2.1 p)) (ex S w h ms (dgO q) (q.2.2.1 p) 4 0 (0, 0, 0, 0, 0)) ∧ CF M ∧ LD3 M S w h (lr (q.2.2.1 p) 0 (q.2.1 p)) ∧ (∀ a, a < 65 ∨ 81 < a → ∀ j, M a j = m a j) := by
  have ht := tL_of two_bL hp
  have htl := tL_lt _ ht
  have hX := hV.2.1 p hp
  have hCT := hB.2.1 p hp
  obtain ⟨n0, n1, n2, n3, n4, n5⟩ := n81
  obtain ⟨t1, -⟩ := tC hF _ ht
  let m6 : jm_M := jm_up (jm_up (jm_up (jm_up (jm_up (jm_up m 81 5 ((2 + 4 + 4 * p : Nat) : Int)) 81 0 0) 81 1 0) 81 2 0) 81 3 0) 81 4 0
  have hF6 : CF m6 := (((((hF.up n5).up n0).up n1).up n2).up n3).up n4
  have k6 : ∀ a, a ≠ 81 → ∀ j, m6 a j = m a j := fun a ha j => by show jm_up _ _ _ _ _ _ = _; rw [up_ne ha, up_ne ha, up_ne ha, up_ne ha, up_ne ha, up_ne ha]
  have hCT6 : CT m6 (2 + 4 + 4 * p) (q.2.1 p) (q.2.2.1 p) := hCT.same (fun a h1 h2 => k6 a (by omega))
  have hlr := lr_lt (q.2.2.1 p) 0 (q.2.1 p)
  obtain ⟨M1, e1, l1, c1, f1⟩ := s_lay (N := N) (cr := lr (q.2.2.1 p) 0 (q.2.1 p)) (by omega) hF6 hT hlr (by rw [k6 3 (by decide), hB.1 0 (by decide)]; exact s0) (by rw [k6 3 (by decide), hB.1 1 (by decide)]; exact s1)
  have hG : GX M1 (2 + 4 + 4 * p) (q.2.1 p) (q.2.2.1 p) S w h ms (lr (q.2.2.1 p) 0 (q.2.1 p)) q := by
    refine ⟨c1, hCT6.same (fun a h1 h2 => f1 a (by omega)), l1, hB.same (fun a h1 h2 j => by rw [f1 a (by omega), k6 a (by omega)]) (by rw [f1 2 (by omega), k6 2 (by decide)]), ?_, ?_⟩
    · rw [f1 81 (by omega)]
      show jm_up _ _ _ _ _ _ = _
      rw [up_nk (by decide), up_nk (by decide), up_nk (by decide), up_nk (by decide), up_nk (by decide), up_eq]
    · rw [f1 3 (by omega), k6 3 (by decide), hB.1 2 (by decide)]; exact s2
  have hQ : QC M1 S w h (lr (q.2.2.1 p) 0 (q.2.1 p)) (0, 0, 0, 0, 0) := by
    refine ⟨?_, ?_, ?_, ?_, 0, Rk.zero hT.2.1.2 hT.1, ?_⟩
    · rw [f1 81 (by omega)]
      show jm_up _ _ _ _ _ _ = _
      rw [up_nk (by decide), up_nk (by decide), up_nk (by decide), up_nk (by decide), up_eq]; rfl
    · rw [f1 81 (by omega)]
      show jm_up _ _ _ _ _ _ = _
      rw [up_nk (by decide), up_nk (by decide), up_nk (by decide), up_eq]; rfl
    · rw [f1 81 (by omega)]
      show jm_up _ _ _ _ _ _ = _
      rw [up_nk (by decide), up_nk (by decide), up_eq]; rfl
    · rw [f1 81 (by omega)]
      show jm_up _ _ _ _ _ _ = _
      rw [up_nk (by decide), up_eq]; rfl
    · rw [f1 81 (by omega)]
      show jm_up _ _ _ _ _ _ = _
      rw [up_eq]; rfl
  obtain ⟨M2, e2, q2, g2, f2⟩ := go_all (N := N) (by omega) ht hT hms hX hV rfl 4 (Nat.le_refl 4) 0 hX.2.1 8 0 (0, 0, 0, 0, 0) M1 (by decide) (by decide) (by rw [hX.2.2]; omega) (wk_BD hms) hG hQ
  refine ⟨M2, ?_, q2, g2.1, g2.2.2.1, fun a ha j => by rw [f2 a (by omega), f1 a (by omega), k6 a (by omega)]⟩
  unfold f_X6_goThrough
  rw [jwr_ok sC81 (by omega), Option.bind_some, jwf_ok sC81, Option.bind_some, jwf_ok sC81, Option.bind_some, jwf_ok sC81, Option.bind_some, jwf_ok sC81, Option.bind_some, jwf_ok sC81, Option.bind_some]
  rw [show jm_up (jm_up (jm_up (jm_up (jm_up (jm_up m 81 5 ((2 + 4 + 4 * p : Nat) : Int)) 81 0 0) 81 1 0) 81 2 0) 81 3 0) 81 4 0 = m6 from rfl]
  rw [jrf_ok sC81, Option.bind_some, jrf_ok sC81, Option.bind_some, Option.bind_some, hF6.t81_6, hF6.t81_7, jck_ok sC2, Option.bind_some, s_setting hF6 two_bL (by decide) (by decide), Option.bind_some, jck_ok t1, Option.bind_some, s_allLines hF6 ht hX hCT6, Option.bind_some, jck_ok sC65, Option.bind_some, (show m6 (2 + 1) (3 : Int).toNat = (h : Int) from (by show m6 3 3 = _; rw [k6 3 (by decide), hB.1 3 (by decide)]; exact s3)), e1, Option.bind_some, jck_ok sC81, Option.bind_some]
  have e2 : f_X6_go N shC 8 81 0 0 M1 = some M2 := e2
  rw [e2, Option.bind_some]
/-- the reference's run -/
theorem sM_run {N p : Nat} {m : jm_M} {q : jBd} {S w h ms : Nat} {x2 : Int} (hN : 10000 ≤ N) (hF : MF m) (hp : p < 4) (hV : VB q) (hB : MB m q) (hT : ST S w h) (hms : ms ≤ 20) (s0 : q.1 0 = (S : Int)) (s1 : q.1 1 = (w : Int)) (s2 : q.1 2 = (ms : Int)) (s3 : q.1 3 = (h : Int)) (hx : 0 ≤ x2 ∧ x2 ≤ 4) :
    ∃ M n', f_X12_run N shM 1 (p : Int) x2 m = rl N (n' + 1) x2 (ex S w h ms (dgO q) (q.2.2.1 p) 4 0 (0, 0, 0, 0, 0)) (-6) M ∧ M 1 12 = 0 ∧ M 1 26 = ((ex S w h ms (dgO q) (q.2.2.1 p) 4 0 (0, 0, 0, 0, 0)).2.2.2.2 : Int) ∧ GM M p (q.2.1 p) (q.2.2.1 p) S w h ms q ∧ FrP m M 0 := by
  have hX := hV.2.1 p hp
  have hf : FrP m (jm_up (jm_up m 1 26 0) 1 12 0) 0 := ((FrP.rf m 0).f1 (Or.inr (Or.inr rfl))).f1 (Or.inr (Or.inl rfl))
  have hG0 : GM m p (q.2.1 p) (q.2.2.1 p) S w h ms q := ⟨hF, ⟨by rw [hB.1 0 (by decide)]; exact s0, by rw [hB.1 1 (by decide)]; exact s1, by rw [hB.1 3 (by decide)]; exact s3⟩, by rw [hB.1 2 (by decide)]; exact s2, fun i hi => (hB.2.1 p hp).2 i hi, hB.2.2.2.1, hB.2.2.2.2⟩
  have hst : stp 4 = 1561 := by decide
  obtain ⟨M, n', r1, r2, r3, r4, r5, r6, r7⟩ := run_all (N := N) (by omega) hp hT hms hX hV 4 (Nat.le_refl 4) 0 hX.2.1 0 N x2 (0, 0, 0, 0, 0) (jm_up (jm_up m 1 26 0) 1 12 0) (by decide) (by rw [hX.2.2]; omega) (wk_BD hms) (hG0.frP hf) up_eq (by rw [up_nk (by decide), up_eq]; rfl) (KN_le hT.1).2 (by omega)
  obtain ⟨n', rfl⟩ : ∃ n2, n' = n2 + 1 := ⟨n' - 1, by omega⟩
  refine ⟨M, n', ?_, r4, r5, r3, hf.tr r7 (Nat.le_refl _)⟩
  rw [← r1]
  unfold f_X12_run
  rw [sM_isProgram, if_pos (by omega), Option.bind_some, if_neg (by decide), sM_in, if_pos hx, Option.bind_some, if_neg (by decide), jwf_ok sM1, Option.bind_some, jwf_ok sM1, Option.bind_some, jw_eq (x := 30 * (p : Int)) (by omega) (by omega), show 30 * (p : Int) = ((30 * p + 0 : Nat) : Int) by omega]
  rfl
theorem op_run : jOp_run jN shC shM Inv := by
  intro mC mM x1 x2 hx1 hx2 hI
  obtain ⟨A, hV, hC, hM⟩ := id hI
  obtain ⟨hF, hRR, hK⟩ := id hC
  obtain ⟨hFM, hKM⟩ := id hM
  have hJ := jN_big
  by_cases c0 : 0 ≤ x1 ∧ x1 < 4
  · by_cases c1 : 0 ≤ x2 ∧ x2 ≤ 4
    · obtain ⟨p, rfl⟩ : ∃ p : Nat, x1 = p := ⟨x1.toNat, by omega⟩
      have hp : p < 4 := by omega
      have ht := tL_of two_bL hp
      obtain ⟨S, w, h, ms, s0, s1, s2, s3, hT, hm1, hm2⟩ := hV.1.1.nat
      obtain ⟨M, e, q, cf, l3, f⟩ := s_goThrough (N := jN) (by omega) hF hp hV.1 hK.1 hT hm2 s0 s1 s2 s3
      obtain ⟨M', n', e', m12, m26, gm, fp⟩ := sM_run (N := jN) (x2 := x2) (by omega) hFM hp hV.1 hKM.1 hT hm2 s0 s1 s2 s3 c1
      generalize hR : ex S w h ms (dgO A.1) (A.1.2.2.1 p) 4 0 (0, 0, 0, 0, 0) = R at *
      have hIn : Inv M M' := ⟨A, hV, hC.keep (fun a ha => f a (by omega)) cf (fun r hr => (hRR r hr).same (fun a h1 h2 => f a (by have := rr_ge r hr; omega))), hM.keep (fun a ha => fp.1 a (by omega) (by omega) (by omega) (by omega)) (fp.2.1 1 (by decide) (by decide) (by decide)) (fp.2.1 7 (by decide) (by decide) (by decide)) gm.1⟩
      obtain ⟨q0, q1, q2, q3, c, q4, q5⟩ := q
      obtain ⟨ev, vv, hk, hcc⟩ := id q4
      have hlines := lines_eq (c := c) hT vv hk
      have hC' : f_X11_run jN shC 1 p x2 mC = (if x2 = 0 then some ((R.2.1 : Int), M) else if x2 = 1 then some ((R.2.2.1 : Int), M) else if x2 = 2 then some ((R.2.2.2.1 : Int), M) else if x2 = 3 then some ((R.2.2.2.2 : Int), M) else some ((lnQ S h (lr (A.1.2.2.1 p) 0 (A.1.2.1 p)) R.1 8 : Int), M)) := by
        unfold f_X11_run
        rw [s_isProgram, if_pos c0, Option.bind_some, if_neg (by decide), if_neg (by omega), if_neg (by omega), jrf_ok sC1, Option.bind_some, jrf_ok sC1, Option.bind_some, hF.t1_0, hF.t1_4, jck_ok sC2, Option.bind_some, s_textOf hF two_bL hp, Option.bind_some, jck_ok sC81, Option.bind_some, e, Option.bind_some]
        by_cases d0 : x2 = 0
        · rw [if_pos d0.symm, if_pos d0, jrf_ok sC1, Option.bind_some, cf.t1_4, jrf_ok sC81, Option.bind_some, q0]
        · rw [if_neg (fun q => d0 q.symm), if_neg d0]
          by_cases d1 : x2 = 1
          · rw [if_pos d1.symm, if_pos d1, jrf_ok sC1, Option.bind_some, cf.t1_4, jrf_ok sC81, Option.bind_some, q1]
          · rw [if_neg (fun q => d1 q.symm), if_neg d1]
            by_cases d2 : x2 = 2
            · rw [if_pos d2.symm, if_pos d2, jrf_ok sC1, Option.bind_some, cf.t1_4, jrf_ok sC81, Option.bind_some, q2]
            · rw [if_neg (fun q => d2 q.symm), if_neg d2]
              by_cases d3 : x2 = 3
              · rw [if_pos d3.symm, if_pos d3, jrf_ok sC1, Option.bind_some, cf.t1_4, jrf_ok sC81, Option.bind_some, q3]
              · rw [if_neg (fun q => d3 q.symm), if_neg d3, jrf_ok sC1, Option.bind_some, cf.t1_4, jck_ok sC81, Option.bind_some]
                unfold f_X6_linesThere
                rw [jrf_ok sC81, Option.bind_some, jrf_ok sC81, Option.bind_some, cf.t81_7, jck_ok sC65, Option.bind_some, q5, s_linesOn (by omega) cf hT (lr_lt _ _ _) l3 q4, Option.bind_some, Option.bind_some]
      have hM' : f_X12_run jN shM 1 p x2 mM = (if x2 = 0 then some ((R.2.1 : Int), M') else if x2 = 1 then some ((R.2.2.1 : Int), M') else if x2 = 2 then some ((R.2.2.2.1 : Int), M') else if x2 = 3 then some ((R.2.2.2.2 : Int), M') else some ((lnQ S h (lr (A.1.2.2.1 p) 0 (A.1.2.1 p)) R.1 8 : Int), M')) := by
        rw [e']
        show f_X12_run_b48 jN shM (f_X12_run_l48 jN shM n') 1 x2 (R.1 : Int) (R.2.1 : Int) (R.2.2.1 : Int) (R.2.2.2.1 : Int) (-6) M' = _
        unfold f_X12_run_b48
        rw [if_pos (by decide), jrf_ok sM1, Option.bind_some, m12, if_neg (by decide)]
        by_cases d0 : x2 = 0
        · rw [if_pos d0, if_pos d0]
        · rw [if_neg d0, if_neg d0]
          by_cases d1 : x2 = 1
          · rw [if_pos d1, if_pos d1]
          · rw [if_neg d1, if_neg d1]
            by_cases d2 : x2 = 2
            · rw [if_pos d2, if_pos d2]
            · rw [if_neg d2, if_neg d2]
              by_cases d3 : x2 = 3
              · rw [if_pos d3, if_pos d3, jrf_ok sM1, Option.bind_some, m26]
              · rw [if_neg d3, if_neg d3, jck_ok sM1, Option.bind_some, sM_linesIn (by omega) gm.1 hT gm.2.1 vv hk, Option.bind_some, hlines]
      rw [hC', hM']
      by_cases d0 : x2 = 0
      · rw [if_pos d0, if_pos d0]; exact ⟨_, M, M', rfl, rfl, hIn⟩
      · rw [if_neg d0, if_neg d0]
        by_cases d1 : x2 = 1
        · rw [if_pos d1, if_pos d1]; exact ⟨_, M, M', rfl, rfl, hIn⟩
        · rw [if_neg d1, if_neg d1]
          by_cases d2 : x2 = 2
          · rw [if_pos d2, if_pos d2]; exact ⟨_, M, M', rfl, rfl, hIn⟩
          · rw [if_neg d2, if_neg d2]
            by_cases d3 : x2 = 3
            · rw [if_pos d3, if_pos d3]; exact ⟨_, M, M', rfl, rfl, hIn⟩
            · rw [if_neg d3, if_neg d3]; exact ⟨_, M, M', rfl, rfl, hIn⟩
    · refine ⟨-2, mC, mM, ?_, by simp [f_X12_run, sM_isProgram, c0, sM_in, c1], hI⟩
      unfold f_X11_run
      rw [s_isProgram, if_pos c0, Option.bind_some, if_neg (by decide)]
      by_cases c2 : x2 < 0
      · rw [if_pos c2]
      · rw [if_neg c2, if_pos (by omega)]
  · exact ⟨-1, mC, mM, by simp [f_X11_run, s_isProgram, c0], by simp [f_X12_run, sM_isProgram, c0], hI⟩
