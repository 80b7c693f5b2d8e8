/-- what the reference's searches leave alone -/
def FrS (m M : jm_M) : Prop := (∀ a, a ≠ 1 → a ≠ 10 → a ≠ 11 → a ≠ 12 → a ≠ 13 → a ≠ 14 → a ≠ 15 → a ≠ 17 → ∀ j, M a j = m a j) ∧ (∀ j, j ≠ 10 → j ≠ 12 → j ≠ 18 → j ≠ 19 → j ≠ 20 → j ≠ 22 → j ≠ 23 → j ≠ 25 → M 1 j = m 1 j)
theorem FrS.MF {m M : jm_M} (hf : FrS m M) (hF : MF m) : MF M := hF.same fun q hq => by
  have h1 : ∀ q ∈ rfM, q.1 = 1 ∧ q.2.1 ≠ 10 ∧ q.2.1 ≠ 12 ∧ q.2.1 ≠ 18 ∧ q.2.1 ≠ 19 ∧ q.2.1 ≠ 20 ∧ q.2.1 ≠ 22 ∧ q.2.1 ≠ 23 ∧ q.2.1 ≠ 25 := by decide
  obtain ⟨e, a1, a2, a3, a4, a5, a6, a7, a8⟩ := h1 q hq
  rw [e]
  exact hf.2 _ a1 a2 a3 a4 a5 a6 a7 a8
theorem FrS.IM {m M : jm_M} {A : jAb} (hf : FrS m M) (h : IM m A) : IM M A := h.keep (fun a ha j => hf.1 a (by omega) (by omega) (by omega) (by omega) (by omega) (by omega) (by omega) (by omega) j) (hf.2 1 (by decide) (by decide) (by decide) (by decide) (by decide) (by decide) (by decide) (by decide)) (hf.2 7 (by decide) (by decide) (by decide) (by decide) (by decide) (by decide) (by decide) (by decide)) (hf.MF h.1)
theorem FrS.tr {m m1 m2 : jm_M} (h1 : FrS m m1) (h2 : FrS m1 m2) : FrS m m2 := ⟨fun a a1 a2 a3 a4 a5 a6 a7 a8 j => (h2.1 a a1 a2 a3 a4 a5 a6 a7 a8 j).trans (h1.1 a a1 a2 a3 a4 a5 a6 a7 a8 j), fun j a1 a2 a3 a4 a5 a6 a7 a8 => (h2.2 j a1 a2 a3 a4 a5 a6 a7 a8).trans (h1.2 j a1 a2 a3 a4 a5 a6 a7 a8)⟩
theorem FrS.rf (m : jm_M) : FrS m m := ⟨fun _ _ _ _ _ _ _ _ _ _ => rfl, fun _ _ _ _ _ _ _ _ _ => rfl⟩
theorem FrM.S {m M : jm_M} {v : Int} (h : FrM (jm_up m 1 20 v) M) : FrS m M := ⟨fun a a1 a2 a3 a4 a5 a6 a7 a8 j => (h.1 a a1 a2 a3 a4 a5 a6 a7 a8 j).trans (up_ne a1), fun j a1 a2 a3 a4 a5 a6 a7 a8 => (h.2 j a1 a2 a3 a4 a6 a7 a8).trans (up_nk a5)⟩
/-- all runs, worked by the reference -/
theorem sM_all {N p cn : Nat} {sg : Nat → Int} {S w h ms : Nat} {W : Bool} {m : jm_M} (hN : 10000 ≤ N) (hF : MF m) (hp : p < 4) (hT : ST S w h) (hms : ms ≤ 20) (hX : TX cn sg) (hs : SMm m S w h) (h2 : m 2 2 = (ms : Int)) (htx : ∀ i, i < cn → m 5 (30 * p + i) = sg i ∧ m 6 (30 * p + i) = (zs sg 4 i : Int)) :
    ∃ M, f_X12_work N shM 1 (p : Int) (if W then 1 else 0) (jm_up m 1 20 0) = some M ∧ MF M ∧ M 1 18 = (KN S : Int) ∧ M 1 19 = (if W then 1 else 0) ∧ BO W (KN S) (AX S w h ms sg) (fun k => M 10 k) ∧ FrS m M := by
  have hF1 : MF (jm_up m 1 20 0) := hF.up n1M.2.2.2.2.2.1
  obtain ⟨M, e, g, wt, f⟩ := sM_work (N := N) (W := W) (fs := []) (m := jm_up m 1 20 0) hN hF1 hp hT hms hX (hs.same (fun i => up_ne (by decide))) (by rw [up_ne (by decide)]; exact h2) (fun i hi => by rw [up_ne (by decide), up_ne (by decide)]; exact htx i hi) up_eq trivial (by decide) okF_nil
  refine ⟨M, e, g.1, g.2.2.2.2.1, g.2.2.2.2.2, ?_, f.S⟩
  have hb := wk_AX (W := W) (ms := ms) (fm := -6) hT hX
  intro k hk
  have e1 : M 10 k = (wk W S w h ms sg 4 0 (T0, [], -6)).1 k := wt.1 k hk
  have := hb k hk
  rw [← e1] at this
  exact this
theorem sM_worstOf {N p cn : Nat} {sg : Nat → Int} {S w h ms : Nat} {m : jm_M} (hN : 10000 ≤ N) (hF : MF m) (hp : p < 4) (hT : ST S w h) (hms : ms ≤ 20) (hX : TX cn sg) (hs : SMm m S w h) (h2 : m 2 2 = (ms : Int)) (htx : ∀ i, i < cn → m 5 (30 * p + i) = sg i ∧ m 6 (30 * p + i) = (zs sg 4 i : Int)) :
    ∃ (v : Nat) (M : jm_M), f_X12_worstOf N shM 1 (p : Int) m = some ((v : Int), M) ∧ BV true (AX S w h ms sg) v ∧ FrS m M := by
  obtain ⟨M, e, hFM, k18, k19, hb, hf⟩ := sM_all (N := N) (W := true) hN hF hp hT hms hX hs h2 htx
  obtain ⟨v, e1, bv⟩ := bst_BV hT hb
  refine ⟨v, M, ?_, bv, hf⟩
  unfold f_X12_worstOf
  have e : f_X12_work N shM 1 (p : Int) 1 (jm_up m 1 20 0) = some M := e
  rw [jwf_ok sM1, Option.bind_some, jck_ok sM1, Option.bind_some, e, Option.bind_some, Option.bind_some, sM_bestOf (W := true) (by omega) hFM k18 (KN_le hT.1).1 k19, e1, Option.bind_some]
theorem MB.prog {m : jm_M} {q : jBd} {S w h ms p : Nat} (hB : MB m q) (hp : p < 4) (s0 : q.1 0 = (S : Int)) (s1 : q.1 1 = (w : Int)) (s2 : q.1 2 = (ms : Int)) (s3 : q.1 3 = (h : Int)) : SMm m S w h ∧ m 2 2 = (ms : Int) ∧ ∀ i, i < q.2.1 p → m 5 (30 * p + i) = q.2.2.1 p i ∧ m 6 (30 * p + i) = (zs (q.2.2.1 p) 4 i : Int) := ⟨⟨by rw [hB.1 0 (by decide)]; exact s0, by rw [hB.1 1 (by decide)]; exact s1, by rw [hB.1 3 (by decide)]; exact s3⟩, by rw [hB.1 2 (by decide)]; exact s2, fun i hi => (hB.2.1 p hp).2 i hi⟩
/-- how many shelves: both sides -/
theorem RB_cnt {m : jm_M} {r n S w h cr : Nat} {W : Bool} {A : SX} {T : Tb} (hT : ST S w h) (hB : RB m r n S w h cr W A) (hO : BO W (KN S) A T) : cnt (fun k => decide (0 ≤ T k)) (KN S) = n := by
  obtain ⟨hN, hb, hc⟩ := hB
  have h1 : ∀ i : Nat, ∃ k : Nat, i < n → ∃ c v : Nat, m (r + 1) i = (c : Int) ∧ Rk S w h cr k c ∧ A k v := fun i => by
    by_cases hi : i < n
    · obtain ⟨k, v, c, d1, d2, d3, d4, d5⟩ := hb i hi
      exact ⟨k, fun _ => ⟨c, v, d1, d2, d4⟩⟩
    · exact ⟨0, fun q => absurd q hi⟩
  obtain ⟨f, hf⟩ := Classical.skolem.mp h1
  refine cnt_bij (f := f) n (KN S) _ (fun i hi => ?_) (fun i j hi hj q => ?_) (fun s hs q => ?_)
  · obtain ⟨c, v, d1, d2, d3⟩ := hf i hi
    have hk := (d2.lt hT.2.1.2).1
    refine ⟨hk, decide_eq_true ?_⟩
    rcases hO (f i) hk with ⟨_, a2⟩ | ⟨u, a1, _⟩
    · exact absurd d3 (a2 v)
    · rw [a1]; omega
  · obtain ⟨c, v, d1, d2, d3⟩ := hf i hi
    obtain ⟨c', v', d1', d2', d3'⟩ := hf j hj
    rw [← q] at d2'
    have e := Rk.k_inj d2 d2'
    subst e
    have x := (hN.2.2.1 i hi).2.2
    have y := (hN.2.2.1 j hj).2.2
    rw [d1] at x
    rw [d1'] at y
    rw [x] at y
    omega
  · have q : 0 ≤ T s := of_decide_eq_true q
    rcases hO s hs with ⟨a1, _⟩ | ⟨u, a1, a2, _⟩
    · omega
    · obtain ⟨i, c, hi, e1, e2⟩ := hc s u a2
      obtain ⟨c', v', d1', d2', d3'⟩ := hf i hi
      rw [e1] at d1'
      have ec : c = c' := by omega
      subst ec
      exact ⟨i, hi, Rk.c_inj hT.1 hT.2.1.2 d2' e2⟩
theorem sM_mostL {N K : Nat} {m : jm_M} {W : Bool} {x2 : Int} (hN : 1000 ≤ N) (hF : MF m) (hK : m 1 18 = (K : Int)) (hK6 : K ≤ 625) (h19 : m 1 19 = (if W then 1 else 0)) : f_X12_most_l45 N shM N 1 x2 0 0 m = (if x2 = 2 then some ((cnt (fun k => decide (0 ≤ m 10 k)) K : Int), m) else some (bst W (fun k => m 10 k) K, m)) := by
  have key : ∀ (r k n : Nat), k + r = K → r < n → f_X12_most_l45 N shM n 1 x2 (cnt (fun k => decide (0 ≤ m 10 k)) k : Int) (k : Int) m = (if x2 = 2 then some ((cnt (fun k => decide (0 ≤ m 10 k)) K : Int), m) else some (bst W (fun k => m 10 k) K, m)) := by
    intro r
    induction r with
    | zero =>
      intro k n hk hn
      obtain ⟨n, rfl⟩ : ∃ n', n = n' + 1 := ⟨n - 1, by omega⟩
      show f_X12_most_b45 N shM (f_X12_most_l45 N shM n) 1 x2 _ (k : Int) m = _
      unfold f_X12_most_b45
      rw [jrf_ok sM1, Option.bind_some, hK, if_neg (by omega), show k = K by omega]
      by_cases c : x2 = 2
      · rw [if_pos c, if_pos c]
      · rw [if_neg c, if_neg c, jck_ok sM1, Option.bind_some, sM_bestOf hN hF hK hK6 h19, Option.bind_some]
    | succ r ih =>
      intro k n hk hn
      obtain ⟨n, rfl⟩ : ∃ n', n = n' + 1 := ⟨n - 1, by omega⟩
      have hc := cnt_le (fun k => decide (0 ≤ m 10 k)) k
      have ec : cnt (fun k => decide (0 ≤ m 10 k)) (k + 1) = cnt (fun k => decide (0 ≤ m 10 k)) k + (if decide (0 ≤ m 10 k) then 1 else 0) := rfl
      have ih' := ih (k + 1) n (by omega) (by omega)
      show f_X12_most_b45 N shM (f_X12_most_l45 N shM n) 1 x2 _ (k : Int) m = _
      unfold f_X12_most_b45 f_X12_most_b70
      rw [jrf_ok sM1, Option.bind_some, hK, if_pos (by omega), jrf_ok sM1, Option.bind_some, hF.t11, jra_ok sM10 (by omega) (by omega), Option.bind_some, Int.toNat_natCast, jw_succ (by omega)]
      rw [ec] at ih'
      by_cases c : m 10 k < 0
      · rw [if_pos c, jw_eq (by omega) (by omega)]
        rw [decide_eq_false (show ¬ 0 ≤ m 10 k by omega)] at ih'
        rw [show (cnt (fun k => decide (0 ≤ m 10 k)) k : Int) + 0 = ((cnt (fun k => decide (0 ≤ m 10 k)) k + 0 : Nat) : Int) by omega]
        exact ih'
      · rw [if_neg c, jw_eq (by omega) (by omega)]
        rw [decide_eq_true (show 0 ≤ m 10 k by omega)] at ih'
        exact ih'
  exact key K 0 N (by omega) (by omega)
theorem op_most : jOp_most jN shC shM Inv := by
  intro mC mM x1 x2 hx1 hx2 hI
  obtain ⟨A, hV, hC, hM⟩ := id hI
  obtain ⟨hF, hRR, hK⟩ := id hC
  obtain ⟨hFM, hKM⟩ := id hM
  have hJ := jN_big
  by_cases c0 : 0 ≤ x1 ∧ x1 < 4
  · by_cases c1 : 0 ≤ x2 ∧ x2 ≤ 2
    · obtain ⟨p, rfl⟩ : ∃ p : Nat, x1 = p := ⟨x1.toNat, by omega⟩
      have hp : p < 4 := by omega
      have ht := tL_of two_bL hp
      obtain ⟨S, w, h, ms, s0, s1, s2, s3, hT, hm1, hm2⟩ := hV.1.1.nat
      have hX := hV.1.2.1 p hp
      obtain ⟨q1, q2, q3⟩ := hKM.1.prog (S := S) (w := w) (h := h) (ms := ms) hp s0 s1 s2 s3
      have key : ∀ W : Bool, ((if W then (1 : Int) else 0) = if x2 = 0 then 1 else 0) → ∃ (r : Int) (nC nM : jm_M), (f_X11_most jN shC 1 p x2 mC = some (r, nC)) ∧ (f_X12_most jN shM 1 p x2 mM = some (r, nM)) ∧ Inv nC nM := by
        intro W hW
        obtain ⟨v, M, n, e, bv, rb, cf, rr, f1, f2⟩ := s_costOf (N := jN) (W := W) (m := mC) (by omega) ht hF hRR hX (hK.1.2.1 p hp) hT hm2 (by rw [hK.1.1 0 (by decide)]; exact s0) (by rw [hK.1.1 1 (by decide)]; exact s1)
        obtain ⟨M', e', hFM', k18, k19, hbo, hfs⟩ := sM_all (N := jN) (W := W) (by omega) hFM hp hT hm2 hX q1 q2 q3
        obtain ⟨v', e1', bv'⟩ := bst_BV hT hbo
        have ev := bv.uniq bv'
        subst ev
        have ec := RB_cnt hT rb hbo
        have hIn : Inv M M' := ⟨A, hV, hC.keep (fun a ha => f1 a (by omega)) cf rr, hfs.IM hM⟩
        have g2 : f_X1_setting shC 2 2 mC = some (ms : Int) := by
          rw [s_setting hF two_bL (by decide) (by decide)]
          show some (mC 3 2) = _
          rw [hK.1.1 2 (by decide), s2]
        have g3 : f_X1_setting shC 2 3 mC = some (h : Int) := by
          rw [s_setting hF two_bL (by decide) (by decide)]
          show some (mC 3 3) = _
          rw [hK.1.1 3 (by decide), s3]
        have hcl : f_X11_most jN shC 1 p x2 mC = (if x2 = 2 then some ((n : Int), M) else some ((v : Int), M)) := by
          have h60 : ∀ z : Int, z = (if W then (1 : Int) else 0) → f_X11_most_b60 jN shC 1 x2 82 (2 + 4 + 4 * p) (ms : Int) (h : Int) z mC = (if x2 = 2 then some ((n : Int), M) else some ((v : Int), M)) := by
            intro z hz
            unfold f_X11_most_b60
            rw [jck_ok sC82, Option.bind_some, hz, e, Option.bind_some]
            dsimp only
            by_cases c : x2 = 2
            · rw [if_pos c, if_pos c, jrf_ok sC1, Option.bind_some, cf.t1_5, jck_ok sC82, Option.bind_some]
              unfold f_X8_ends
              rw [jrf_ok sC82, Option.bind_some, cf.t82_8, jrf_ok sC87, Option.bind_some, rb.1.2.1, Option.bind_some]
            · rw [if_neg c, if_neg c]
          unfold f_X11_most
          rw [s_isProgram, if_pos c0, Option.bind_some, if_neg (by decide), if_neg (by omega), if_neg (by omega), jrf_ok sC1, Option.bind_some, hF.t1_0, jck_ok sC2, Option.bind_some, s_textOf hF two_bL hp, Option.bind_some, jrf_ok sC1, Option.bind_some, Option.bind_some, hF.t1_0, hF.t1_5, jck_ok sC2, Option.bind_some, g2, Option.bind_some, Option.bind_some, hF.t1_0, jck_ok sC2, Option.bind_some, g3, Option.bind_some]
          by_cases c : x2 = 0
          · rw [if_pos c]; rw [if_pos c] at hW; exact h60 1 hW.symm
          · rw [if_neg c]; rw [if_neg c] at hW; exact h60 0 hW.symm
        have hml : f_X12_most jN shM 1 p x2 mM = (if x2 = 2 then some ((n : Int), M') else some ((v : Int), M')) := by
          have h37 : ∀ z : Int, z = (if W then (1 : Int) else 0) → f_X12_most_b37 jN shM 1 x2 1 (p : Int) z (jm_up mM 1 20 0) = (if x2 = 2 then some ((n : Int), M') else some ((v : Int), M')) := by
            intro z hz
            unfold f_X12_most_b37
            rw [jck_ok sM1, Option.bind_some, hz, e', Option.bind_some, sM_mostL (W := W) (by omega) hFM' k18 (KN_le hT.1).1 k19, ec, e1']
          unfold f_X12_most
          rw [sM_isProgram, if_pos c0, Option.bind_some, if_neg (by decide), sM_in, if_pos c1, Option.bind_some, if_neg (by decide), jwf_ok sM1, Option.bind_some]
          by_cases c : x2 = 0
          · rw [if_pos c]; rw [if_pos c] at hW; exact h37 1 hW.symm
          · rw [if_neg c]; rw [if_neg c] at hW; exact h37 0 hW.symm
        rw [hcl, hml]
        by_cases c : x2 = 2
        · rw [if_pos c, if_pos c]; exact ⟨_, M, M', rfl, rfl, hIn⟩
        · rw [if_neg c, if_neg c]; exact ⟨_, M, M', rfl, rfl, hIn⟩
      by_cases c : x2 = 0
      · exact key true (by rw [if_pos c]; rfl)
      · exact key false (by rw [if_neg c]; rfl)
    · refine ⟨-2, mC, mM, ?_, by simp [f_X12_most, sM_isProgram, c0, sM_in, c1], hI⟩
      unfold f_X11_most
      rw [s_isProgram, if_pos c0, Option.bind_some, if_neg (by decide)]
      by_cases c2 : x2 < 0
      · rw [if_pos c2]
      · rw [if_neg c2, if_pos (by omega)]
  · exact ⟨-1, mC, mM, by simp [f_X11_most, s_isProgram, c0], by simp [f_X12_most, sM_isProgram, c0], hI⟩
