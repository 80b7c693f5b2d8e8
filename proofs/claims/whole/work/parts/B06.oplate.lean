/-- but for the MISS -/
def FrL (m M : jm_M) : Prop := (∀ a, a ≠ 1 → a ≠ 2 → a ≠ 10 → a ≠ 11 → a ≠ 12 → a ≠ 13 → a ≠ 14 → a ≠ 15 → a ≠ 17 → a ≠ 22 → ∀ j, M a j = m a j) ∧ (∀ j, j ≠ 10 → j ≠ 12 → j ≠ 18 → j ≠ 19 → j ≠ 20 → j ≠ 22 → j ≠ 23 → j ≠ 25 → M 1 j = m 1 j) ∧ ∀ j, j ≠ 2 → M 2 j = m 2 j
theorem FrL.tr {m M M1 : jm_M} (h : FrL m M) (hf : FrT M M1) : FrL m M1 := ⟨fun a a1 a2 a3 a4 a5 a6 a7 a8 a9 a10 j => (hf.1 a a1 a3 a4 a5 a6 a7 a8 a9 a10 j).trans (h.1 a a1 a2 a3 a4 a5 a6 a7 a8 a9 a10 j), fun j a1 a2 a3 a4 a5 a6 a7 a8 => (hf.2 j a1 a2 a3 a4 a5 a6 a7 a8).trans (h.2.1 j a1 a2 a3 a4 a5 a6 a7 a8), fun j hj => (hf.row (by omega) j).trans (h.2.2 j hj)⟩
theorem FrL.up {m M : jm_M} {v : Int} (h : FrL m M) : FrL m (jm_up M 2 2 v) := ⟨fun a a1 a2 a3 a4 a5 a6 a7 a8 a9 a10 j => (up_ne a2).trans (h.1 a a1 a2 a3 a4 a5 a6 a7 a8 a9 a10 j), fun j a1 a2 a3 a4 a5 a6 a7 a8 => (up_ne (by decide)).trans (h.2.1 j a1 a2 a3 a4 a5 a6 a7 a8), fun j hj => (up_nk hj).trans (h.2.2 j hj)⟩
theorem FrL.MT {m M : jm_M} {q : jBd} {S w h ms ms' : Nat} (hf : FrL m M) (hM : MT m q S w h ms) (h2 : M 2 2 = (ms' : Int)) : MT M q S w h ms' := by
  obtain ⟨a, b, c, d, e⟩ := hM
  have hF : MF M := a.same fun q hq => by
    have h1 : ∀ q ∈ rfM, q.1 = 1 ∧ q.2.1 ≠ 10 ∧ q.2.1 ≠ 12 ∧ q.2.1 ≠ 18 ∧ q.2.1 ≠ 19 ∧ q.2.1 ≠ 20 ∧ q.2.1 ≠ 22 ∧ q.2.1 ≠ 23 ∧ q.2.1 ≠ 25 := by decide
    obtain ⟨e, a1, a2, a3, a4, a5, a6, a7, a8⟩ := h1 q hq
    rw [e]
    exact hf.2.1 _ a1 a2 a3 a4 a5 a6 a7 a8
  have r : ∀ a, 4 ≤ a → a ≤ 8 → ∀ j, M a j = m a j := fun a h1 h2 j => hf.1 a (by omega) (by omega) (by omega) (by omega) (by omega) (by omega) (by omega) (by omega) (by omega) (by omega) j
  exact ⟨hF, ⟨by rw [hf.2.2 0 (by decide)]; exact b.1, by rw [hf.2.2 1 (by decide)]; exact b.2.1, by rw [hf.2.2 3 (by decide)]; exact b.2.2⟩, h2, fun p hp => ⟨by rw [r 4 (by decide) (by decide)]; exact (d p hp).1, fun i hi => by rw [r 5 (by decide) (by decide), r 6 (by decide) (by decide)]; exact (d p hp).2 i hi⟩, fun p hp => by rw [r 7 (by decide) (by decide)]; exact e p hp⟩
theorem FrL.back {m M : jm_M} (hf : FrL m M) (h2 : M 2 2 = m 2 2) : FrT m M := ⟨fun a a1 a3 a4 a5 a6 a7 a8 a9 a10 j => by
  by_cases c : a = 2
  · subst c
    by_cases d : j = 2
    · rw [d]; exact h2
    · exact hf.2.2 j d
  · exact hf.1 a a1 c a3 a4 a5 a6 a7 a8 a9 a10 j, hf.2.1⟩
theorem sM_greatest {N S w h ms : Nat} {m : jm_M} {q : jBd} (hN : 20000 ≤ N) (hM : MT m q S w h ms) (hV : VB q) (hT : ST S w h) :
    ∃ M, f_X12_late_l35 N shM N 1 (ms : Int) (-6) 20 m = some ((if gmO S w h q 20 < 2 then -6 else (gmO S w h q 20 : Int)), M) ∧ FrT m M := by
  have w2 : rM 2 = true := rM_rows.1
  have last : ∀ (n : Nat) (x3 x4 : Int) (M : jm_M), FrL m M → MF M → (x4 ≤ 1 ∨ 0 ≤ x3) → ∃ M', f_X12_late_l35 N shM (n + 1) 1 (ms : Int) x3 x4 M = some (x3, M') ∧ FrT m M' := by
    intro n x3 x4 M hf hF hc
    refine ⟨jm_up M 2 2 (ms : Int), ?_, hf.up.back (by rw [up_eq]; exact hM.2.2.1.symm)⟩
    have h74 : f_X12_late_b74 N shM 1 (ms : Int) x3 M = some (x3, jm_up M 2 2 (ms : Int)) := by
      unfold f_X12_late_b74
      rw [jrf_ok sM1, Option.bind_some, hF.t0, jwa_ok sM2 (by decide) (by decide), Option.bind_some]
      rfl
    show f_X12_late_b35 N shM (f_X12_late_l35 N shM n) 1 (ms : Int) x3 x4 M = _
    unfold f_X12_late_b35
    by_cases c : 1 < x4
    · rw [if_pos c, if_neg (by omega), h74]
    · rw [if_neg c, h74]
  have key : ∀ (j n : Nat) (M : jm_M), 1 ≤ j → j ≤ 20 → j + 1 < n → FrL m M → MF M → ∃ M', f_X12_late_l35 N shM n 1 (ms : Int) (-6) (j : Int) M = some ((if gmO S w h q j < 2 then -6 else (gmO S w h q j : Int)), M') ∧ FrT m M' := by
    intro j
    induction j with
    | zero => intro n M h1; omega
    | succ j ih =>
      intro n M h1 h20 hn hf hF
      have eg : gmO S w h q (j + 1) = if ltO S w h (j + 1) q 4 = 0 ∧ 2 ≤ j + 1 then j + 1 else if j = 0 then 1 else gmO S w h q j := rfl
      obtain ⟨n, rfl⟩ : ∃ n', n = n' + 1 := ⟨n - 1, by omega⟩
      by_cases cj : j = 0
      · subst cj
        have e1 : gmO S w h q (0 + 1) = 1 := by rw [eg, if_neg (by omega), if_pos rfl]
        rw [e1, if_pos (by decide)]
        exact last n (-6) _ M hf hF (Or.inl (by omega))
      · have hf1 : FrL m (jm_up M 2 2 ((j + 1 : Nat) : Int)) := hf.up
        have hM1 := hf1.MT (ms' := j + 1) hM up_eq
        obtain ⟨M1, e1, f1⟩ := sM_lateOnes hN hM1 hV hT (by omega)
        have hf2 := hf1.tr f1
        have hF2 : MF M1 := f1.MF hM1.1
        have head : f_X12_late_l35 N shM (n + 1) 1 (ms : Int) (-6) ((j + 1 : Nat) : Int) M = (if ltO S w h (j + 1) q 4 = 0 then f_X12_late_l35 N shM n 1 (ms : Int) ((j + 1 : Nat) : Int) (j : Int) M1 else f_X12_late_l35 N shM n 1 (ms : Int) (-6) (j : Int) M1) := by
          show f_X12_late_b35 N shM (f_X12_late_l35 N shM n) 1 (ms : Int) (-6) ((j + 1 : Nat) : Int) M = _
          unfold f_X12_late_b35 f_X12_late_b67
          rw [if_pos (by omega), if_pos (by decide), jrf_ok sM1, Option.bind_some, hF.t0, jwa_ok sM2 (by decide) (by decide), Option.bind_some, jck_ok sM1, Option.bind_some, (show f_X12_lateOnes N shM 1 (jm_up M 2 (2 : Int).toNat ((j + 1 : Nat) : Int)) = some ((ltO S w h (j + 1) q 4 : Int), M1) from e1), Option.bind_some]
          dsimp only
          rw [jw_eq (x := ((j + 1 : Nat) : Int) + -1) (by omega) (by omega), show ((j + 1 : Nat) : Int) + -1 = (j : Int) by omega]
          by_cases c : ltO S w h (j + 1) q 4 = 0
          · rw [if_pos (by omega), if_pos c]
          · rw [if_neg (by omega), if_neg c]
        rw [head]
        by_cases c : ltO S w h (j + 1) q 4 = 0
        · have e2 : gmO S w h q (j + 1) = j + 1 := by rw [eg, if_pos ⟨c, by omega⟩]
          rw [if_pos c, e2, if_neg (by omega)]
          obtain ⟨n, rfl⟩ : ∃ n', n = n' + 1 := ⟨n - 1, by omega⟩
          exact last n _ _ M1 hf2 hF2 (Or.inr (by omega))
        · have e2 : gmO S w h q (j + 1) = gmO S w h q j := by rw [eg, if_neg (fun z => c z.1), if_neg cj]
          rw [if_neg c, e2]
          exact ih n M1 (by omega) (by omega) (by omega) hf2 hF2
  exact key 20 N m (by omega) (by omega) (by omega) ⟨fun _ _ _ _ _ _ _ _ _ _ _ _ => rfl, fun _ _ _ _ _ _ _ _ _ => rfl, fun _ _ => rfl⟩ hM.1
theorem op_late : jOp_late jN shC shM Inv := by
  intro mC mM x1 hx1 hI
  obtain ⟨A, hV, hC, hM⟩ := id hI
  obtain ⟨hF, hRR, hK⟩ := id hC
  obtain ⟨hFM, hKM⟩ := id hM
  have hJ := jN_big
  obtain ⟨S, w, h, ms, s0, s1, s2, s3, hT, hm1, hm2⟩ := hV.1.1.nat
  have hMT := KM.MT hM s0 s1 s2 s3
  have g2 : f_X1_setting shC 2 2 mC = some (ms : Int) := by
    rw [s_setting hF two_bL (by decide) (by decide)]
    show some (mC 3 2) = _
    rw [hK.1.1 2 (by decide), s2]
  by_cases c0 : x1 = 0
  · subst c0
    obtain ⟨M, e, gt, rr, f⟩ := s_weigh (N := jN) (by omega) hF hRR hK.1 hV.1 hT hm2 s0 s1 s3
    obtain ⟨M', e', hf⟩ := sM_lateOnes (N := jN) (by omega) hMT hV.1 hT hm2
    refine ⟨ltO S w h ms A.1 4, M, M', ?_, ?_, A, hV, hC.keep (fun a ha => f a (by omega)) gt.1 rr, hf.IM hM⟩
    · unfold f_X11_late
      rw [if_pos rfl, jrf_ok sC1, Option.bind_some, jrf_ok sC1, Option.bind_some, hF.t1_0, hF.t1_9, jck_ok sC2, Option.bind_some, g2, Option.bind_some, jck_ok sC190, Option.bind_some, e, Option.bind_some, jrf_ok sC1, Option.bind_some, gt.1.t1_9, jck_ok sC190, Option.bind_some, s_lateOnes (by omega) gt hV.1 hT hm2 s0 s3, Option.bind_some]
    · unfold f_X12_late
      rw [sM_in, if_pos (by decide), Option.bind_some, if_neg (by decide), if_pos rfl, jck_ok sM1, Option.bind_some, e', Option.bind_some]
  · by_cases c1 : x1 = 1
    · subst c1
      obtain ⟨M, e, cf, rr, f⟩ := s_greatest (N := jN) (by omega) hF hRR hK.1 hV.1 hT s0 s1 s3
      obtain ⟨M', e', hf⟩ := sM_greatest (N := jN) (by omega) hMT hV.1 hT
      refine ⟨(if gmO S w h A.1 20 < 2 then -6 else (gmO S w h A.1 20 : Int)), M, M', ?_, ?_, A, hV, hC.keep (fun a ha => f a (by omega)) cf rr, hf.IM hM⟩
      rotate_left
      · unfold f_X12_late
        rw [sM_in, if_pos (by decide), Option.bind_some, if_neg (by decide), if_neg (by decide), jrf_ok sM1, Option.bind_some, hFM.t0, jra_ok sM2 (by decide) (by decide), Option.bind_some, show (2 : Int).toNat = 2 from rfl, hMT.2.2.1]
        exact e'
      · unfold f_X11_late
        rw [if_neg (by decide), if_pos rfl, jrf_ok sC1, Option.bind_some, hF.t1_9, jck_ok sC190, Option.bind_some, e, Option.bind_some]
    · refine ⟨-2, mC, mM, ?_, ?_, hI⟩
      · unfold f_X11_late
        rw [if_neg (fun q => c0 q.symm), if_neg (fun q => c1 q.symm)]
      · unfold f_X12_late
        rw [sM_in, if_neg (by omega), Option.bind_some, if_pos rfl]
