/-- but for the held lines -/
def FrH (m M : jm_M) : Prop := (∀ a, a ≠ 1 → a ≠ 2 → a ≠ 10 → a ≠ 11 → a ≠ 12 → a ≠ 13 → a ≠ 14 → a ≠ 15 → a ≠ 17 → a ≠ 22 → ∀ j, M a j = m a j) ∧ (∀ j, j ≠ 10 → j ≠ 12 → j ≠ 18 → j ≠ 19 → j ≠ 20 → j ≠ 22 → j ≠ 23 → j ≠ 25 → M 1 j = m 1 j) ∧ ∀ j, j ≠ 3 → M 2 j = m 2 j
theorem FrH.tr {m M M1 : jm_M} (h : FrH m M) (hf : FrT M M1) : FrH m M1 := ⟨fun a a1 a2 a3 a4 a5 a6 a7 a8 a9 a10 j => (hf.1 a a1 a3 a4 a5 a6 a7 a8 a9 a10 j).trans (h.1 a a1 a2 a3 a4 a5 a6 a7 a8 a9 a10 j), fun j a1 a2 a3 a4 a5 a6 a7 a8 => (hf.2 j a1 a2 a3 a4 a5 a6 a7 a8).trans (h.2.1 j a1 a2 a3 a4 a5 a6 a7 a8), fun j hj => (hf.row (by omega) j).trans (h.2.2 j hj)⟩
theorem FrH.up {m M : jm_M} {v : Int} (h : FrH m M) : FrH m (jm_up M 2 3 v) := ⟨fun a a1 a2 a3 a4 a5 a6 a7 a8 a9 a10 j => (up_ne a2).trans (h.1 a a1 a2 a3 a4 a5 a6 a7 a8 a9 a10 j), fun j a1 a2 a3 a4 a5 a6 a7 a8 => (up_ne (by decide)).trans (h.2.1 j a1 a2 a3 a4 a5 a6 a7 a8), fun j hj => (up_nk hj).trans (h.2.2 j hj)⟩
theorem FrH.MF {m M : jm_M} (hf : FrH m M) (a : MF m) : MF M := a.same fun q hq => by
  have h1 : ∀ q ∈ rfM, q.1 = 1 ∧ q.2.1 ≠ 10 ∧ q.2.1 ≠ 12 ∧ q.2.1 ≠ 18 ∧ q.2.1 ≠ 19 ∧ q.2.1 ≠ 20 ∧ q.2.1 ≠ 22 ∧ q.2.1 ≠ 23 ∧ q.2.1 ≠ 25 := by decide
  obtain ⟨e, a1, a2, a3, a4, a5, a6, a7, a8⟩ := h1 q hq
  rw [e]
  exact hf.2.1 _ a1 a2 a3 a4 a5 a6 a7 a8
theorem FrH.back {m M : jm_M} (hf : FrH m M) (h2 : M 2 3 = m 2 3) : FrT m M := ⟨fun a a1 a3 a4 a5 a6 a7 a8 a9 a10 j => by
  by_cases c : a = 2
  · subst c
    by_cases d : j = 3
    · rw [d]; exact h2
    · exact hf.2.2 j d
  · exact hf.1 a a1 c a3 a4 a5 a6 a7 a8 a9 a10 j, hf.2.1⟩
noncomputable def fbM (S w ms : Nat) (sg : Nat → Int) (n : Nat) : Nat := fb (cH S w ms sg) bt8 (fun x => decide (x < 256) && okS2 S w x) n
theorem sM_fastL {p cn : Nat} {sg : Nat → Int} {S w h ms : Nat} {m : jm_M} {x2 : Int} (hF : MF m) (hp : p < 4) (hT : ST S w h) (hms : ms ≤ 20) (hX : TX cn sg) (hs : SMm m S w h) (h2 : m 2 2 = (ms : Int)) (htx : ∀ i, i < cn → m 5 (30 * p + i) = sg i ∧ m 6 (30 * p + i) = (zs sg 4 i : Int)) :
    ∃ M, f_X12_fast_l38 jN shM jN 1 (p : Int) x2 (h : Int) (-6) 0 0 m = some ((if x2 = 0 then (fbM S w ms sg 255 : Int) else (cH S w ms sg (fbM S w ms sg 255) : Int)), M) ∧ FrT m M := by
  have hJ := jN_big
  have may : ∀ (M : jm_M) (x : Nat), FrH m M → x < 256 → jra shM M 2 13 0 = some (S : Int) ∧ jra shM M 2 13 1 = some (w : Int) := fun M x hf hx => by
    rw [jra_ok sM2 (by decide) (by decide), jra_ok sM2 (by decide) (by decide)]
    exact ⟨congrArg some ((hf.2.2 0 (by decide)).trans hs.1), congrArg some ((hf.2.2 1 (by decide)).trans hs.2.1)⟩
  have wo : ∀ (M : jm_M) (x : Nat), FrH m M → x < 256 → okS2 S w x = true → ∃ M1, f_X12_worstOf jN shM 1 (p : Int) (jm_up M 2 3 (x : Int)) = some ((cH S w ms sg x : Int), M1) ∧ FrH m M1 := fun M x hf hx ho => by
    have hTx : ST S w x := ⟨hT.1, hT.2.1, hx, okS2_iff.mp ho⟩
    have hf1 : FrH m (jm_up M 2 3 (x : Int)) := hf.up
    obtain ⟨v, M1, e, bv, f⟩ := sM_worstOf (N := jN) (p := p) (m := jm_up M 2 3 (x : Int)) (by omega) (hf1.MF hF) hp hTx hms hX ⟨(hf1.2.2 0 (by decide)).trans hs.1, (hf1.2.2 1 (by decide)).trans hs.2.1, up_eq⟩ ((hf1.2.2 2 (by decide)).trans h2) (fun i hi => ⟨(hf1.1 5 (by decide) (by decide) (by decide) (by decide) (by decide) (by decide) (by decide) (by decide) (by decide) (by decide) _).trans (htx i hi).1, (hf1.1 6 (by decide) (by decide) (by decide) (by decide) (by decide) (by decide) (by decide) (by decide) (by decide) (by decide) _).trans (htx i hi).2⟩)
    have ev : v = cH S w ms sg x := bv.uniq (wst_BV hTx hX)
    subst ev
    exact ⟨M1, e, hf1.tr f.T⟩
  have key : ∀ (n x : Nat) (M : jm_M), 1 ≤ x → x ≤ 256 → 257 ≤ x + n → FrH m M → ∃ M', f_X12_fast_l38 jN shM n 1 (p : Int) x2 (h : Int) (fbM S w ms sg (x - 1) : Int) (cH S w ms sg (fbM S w ms sg (x - 1)) : Int) (x : Int) M = some ((if x2 = 0 then (fbM S w ms sg 255 : Int) else (cH S w ms sg (fbM S w ms sg 255) : Int)), M') ∧ FrT m M' := by
    intro n
    induction n with
    | zero => intro x M a1 a2 a3; omega
    | succ n ih =>
      intro x M a1 a2 a3 hf
      have hFM := hf.MF hF
      show ∃ M', f_X12_fast_b38 jN shM (f_X12_fast_l38 jN shM n) 1 (p : Int) x2 (h : Int) (fbM S w ms sg (x - 1) : Int) (cH S w ms sg (fbM S w ms sg (x - 1)) : Int) (x : Int) M = _ ∧ _
      unfold f_X12_fast_b38 f_X12_fast_b114 f_X12_fast_b122
      by_cases c : x = 256
      · subst c
        refine ⟨jm_up M 2 3 (h : Int), ?_, hf.up.back (by rw [up_eq]; exact hs.2.2.symm)⟩
        rw [if_neg (by omega), jrf_ok sM1, Option.bind_some, hFM.t0, jwa_ok sM2 (by decide) (by decide), Option.bind_some]
        by_cases k : x2 = 0
        · rw [if_pos k, if_pos k]; rfl
        · rw [if_neg k, if_neg k]; rfl
      · obtain ⟨y, rfl⟩ : ∃ y, x = y + 1 := ⟨x - 1, by omega⟩
        rw [Nat.add_sub_cancel]
        have ih' := fun (M1 : jm_M) (b : Nat) (hb : fbM S w ms sg (y + 1) = b) (hf1 : FrH m M1) => by
          have := ih (y + 1 + 1) M1 (by omega) (by omega) (by omega) hf1
          rw [Nat.add_sub_cancel, hb] at this
          exact this
        have ef : fbM S w ms sg (y + 1) = if (decide (y + 1 < 256) && okS2 S w (y + 1)) && btr2 (cH S w ms sg) bt8 (y + 1) (fbM S w ms sg y) then y + 1 else fbM S w ms sg y := rfl
        have hy : decide (y + 1 < 256) = true := decide_eq_true (by omega)
        rw [hy, Bool.true_and] at ef
        obtain ⟨r0, r1⟩ := may M (y + 1) hf (by omega)
        rw [if_pos (by omega), jrf_ok sM1, Option.bind_some, hFM.t0, r0, Option.bind_some, Option.bind_some, hFM.t0, r1, Option.bind_some, jck_ok sM1, Option.bind_some, sM_may2 hT.1 hT.2.1 (by omega), Option.bind_some, jw_succ (by omega)]
        by_cases co : okS2 S w (y + 1) = true
        · obtain ⟨M1, e1, hf1⟩ := wo M (y + 1) hf (by omega) co
          rw [if_pos co, if_neg (by decide), Option.bind_some, hFM.t0, jwa_ok sM2 (by decide) (by decide), Option.bind_some, Option.bind_some, (show f_X12_worstOf jN shM 1 (p : Int) (jm_up M 2 (3 : Int).toNat ((y + 1 : Nat) : Int)) = some ((cH S w ms sg (y + 1) : Int), M1) from e1), Option.bind_some]
          dsimp only
          rw [co, Bool.true_and] at ef
          have hfb : fbM S w ms sg y < 256 := Nat.lt_of_le_of_lt (fb_le _ _ _ y) (by omega)
          rw [if_neg (by omega)]
          by_cases k1 : cH S w ms sg (y + 1) < cH S w ms sg (fbM S w ms sg y)
          · rw [if_pos (btr2_iff.mpr (Or.inl k1))] at ef
            rw [if_pos (by omega)]
            exact ih' M1 _ ef hf1
          · rw [if_neg (by omega)]
            by_cases k2 : cH S w ms sg (y + 1) = cH S w ms sg (fbM S w ms sg y)
            · rw [if_pos (by omega), (show f_X12_bits jN ((y + 1 : Nat) : Int) = some (bt8 (y + 1) : Int) from sM_bits ⟨y + 1, by omega⟩), Option.bind_some, (show f_X12_bits jN ((fbM S w ms sg y : Nat) : Int) = some (bt8 (fbM S w ms sg y) : Int) from sM_bits ⟨fbM S w ms sg y, hfb⟩), Option.bind_some]
              by_cases k3 : bt8 (y + 1) < bt8 (fbM S w ms sg y)
              · rw [if_pos (btr2_iff.mpr (Or.inr ⟨k2, k3⟩))] at ef
                rw [if_pos (by omega)]
                exact ih' M1 _ ef hf1
              · rw [if_neg (fun z => by have := btr2_iff.mp z; omega)] at ef
                rw [if_neg (by omega)]
                exact ih' M1 _ ef hf1
            · rw [if_neg (fun z => by have := btr2_iff.mp z; omega)] at ef
              rw [if_neg (by omega)]
              exact ih' M1 _ ef hf1
        · rw [if_neg co, if_pos rfl]
          have : ¬ ((okS2 S w (y + 1) && btr2 (cH S w ms sg) bt8 (y + 1) (fbM S w ms sg y)) = true) := fun z => co (Bool.and_eq_true_iff.mp z).1
          rw [if_neg this] at ef
          exact ih' M _ ef hf
  have hf0 : FrH m m := ⟨fun _ _ _ _ _ _ _ _ _ _ _ _ => rfl, fun _ _ _ _ _ _ _ _ _ => rfl, fun _ _ => rfl⟩
  obtain ⟨n, hn⟩ : ∃ n, jN = n + 1 := ⟨jN - 1, by omega⟩
  obtain ⟨r0, r1⟩ := may m 0 hf0 (by omega)
  obtain ⟨M1, e1, hf1⟩ := wo m 0 hf0 (by omega) (okS2_0 S w)
  obtain ⟨M', e', q⟩ := key n 1 M1 (by omega) (by omega) (by omega) hf1
  refine ⟨M', ?_, q⟩
  have head : f_X12_fast_l38 jN shM (n + 1) 1 (p : Int) x2 (h : Int) (-6) 0 0 m = f_X12_fast_l38 jN shM n 1 (p : Int) x2 (h : Int) 0 (cH S w ms sg 0 : Int) 1 M1 := by
    show f_X12_fast_b38 jN shM (f_X12_fast_l38 jN shM n) 1 (p : Int) x2 (h : Int) (-6) 0 0 m = _
    unfold f_X12_fast_b38 f_X12_fast_b114 f_X12_fast_b122
    rw [if_pos (by decide), jrf_ok sM1, Option.bind_some, hF.t0, r0, Option.bind_some, Option.bind_some, hF.t0, r1, Option.bind_some, jck_ok sM1, Option.bind_some, (show f_X12_mayHold jN 1 (S : Int) (w : Int) 0 = some 1 by have := sM_may2 (x := 0) hT.1 hT.2.1 (by decide); rw [okS2_0, if_pos rfl] at this; exact this), Option.bind_some, if_neg (by decide), Option.bind_some, hF.t0, jwa_ok sM2 (by decide) (by decide), Option.bind_some, Option.bind_some, (show f_X12_worstOf jN shM 1 (p : Int) (jm_up m 2 (3 : Int).toNat 0) = some ((cH S w ms sg 0 : Int), M1) from e1), Option.bind_some, if_pos (by decide)]
    rw [show jw (0 + 1) = 1 from by decide]
  have hgo : f_X12_fast_l38 jN shM jN 1 (p : Int) x2 (h : Int) (-6) 0 0 m = f_X12_fast_l38 jN shM (n + 1) 1 (p : Int) x2 (h : Int) (-6) 0 0 m := by
    exact congrArg (fun z => f_X12_fast_l38 jN shM z 1 (p : Int) x2 (h : Int) (-6) 0 0 m) hn
  rw [hgo, head]
  exact e'
theorem op_fast : jOp_fast jN shC shM Inv := by
  intro mC mM x1 x2 hx1 hx2 hI
  obtain ⟨A, hV, hC, hM⟩ := id hI
  obtain ⟨hF, hRR, hK⟩ := id hC
  obtain ⟨hFM, hKM⟩ := id hM
  by_cases c0 : 0 ≤ x1 ∧ x1 < 4
  · by_cases c1 : 0 ≤ x2 ∧ x2 ≤ 1
    · obtain ⟨p, rfl⟩ : ∃ p : Nat, x1 = p := ⟨x1.toNat, by omega⟩
      have hp : p < 4 := by omega
      have ht := tL_of two_bL hp
      obtain ⟨S, w, h, ms, s0, s1, s2, s3, hT, hm1, hm2⟩ := hV.1.1.nat
      have hX := hV.1.2.1 p hp
      obtain ⟨q1, q2, q3⟩ := hKM.1.prog (S := S) (w := w) (h := h) (ms := ms) hp s0 s1 s2 s3
      obtain ⟨M, e, cf, rr, f, b0, b1⟩ := s_holdFast (m := mC) ht hF hRR hX (hK.1.2.1 p hp) hT hm2 (by rw [hK.1.1 0 (by decide)]; exact s0) (by rw [hK.1.1 1 (by decide)]; exact s1) (by rw [hK.1.1 2 (by decide)]; exact s2)
      obtain ⟨M', e', hf⟩ := sM_fastL (x2 := x2) hFM hp hT hm2 hX q1 q2 q3
      have efb : fbM S w ms (A.1.2.2.1 p) 255 = fbO S w ms (lr (A.1.2.2.1 p) 0 (A.1.2.1 p)) (A.1.2.2.1 p) 255 := fast_eq hT hX (by omega) 255 (Nat.le_refl _)
      rw [efb] at e'
      refine ⟨(if x2 = 0 then (fbO S w ms (lr (A.1.2.2.1 p) 0 (A.1.2.1 p)) (A.1.2.2.1 p) 255 : Int) else (cH S w ms (A.1.2.2.1 p) (fbO S w ms (lr (A.1.2.2.1 p) 0 (A.1.2.1 p)) (A.1.2.2.1 p) 255) : Int)), M, M', ?_, ?_, A, hV, hC.keep (fun a ha => f a (by omega)) cf rr, hf.IM hM⟩
      rotate_left
      · unfold f_X12_fast
        rw [sM_isProgram, if_pos c0, Option.bind_some, if_neg (by decide), sM_in, if_pos c1, Option.bind_some, if_neg (by decide), jrf_ok sM1, Option.bind_some, hFM.t0, jra_ok sM2 (by decide) (by decide), Option.bind_some, show (3 : Int).toNat = 3 from rfl, q1.2.2]
        exact e'
      · unfold f_X11_fast
        rw [s_isProgram, if_pos c0, Option.bind_some, if_neg (by decide), if_neg (by omega), if_neg (by omega), jrf_ok sC1, Option.bind_some, jrf_ok sC1, Option.bind_some, hF.t1_0, hF.t1_5, jck_ok sC2, Option.bind_some, s_textOf hF two_bL hp, Option.bind_some, jck_ok sC82, Option.bind_some, e, Option.bind_some]
        by_cases k : x2 = 0
        · rw [if_pos k, if_pos k, jrf_ok sC1, Option.bind_some, cf.t1_5, jrf_ok sC82, Option.bind_some, b0]
        · rw [if_neg k, if_neg k, jrf_ok sC1, Option.bind_some, cf.t1_5, jrf_ok sC82, Option.bind_some, b1]
    · refine ⟨-2, mC, mM, ?_, ?_, hI⟩
      · unfold f_X11_fast
        rw [s_isProgram, if_pos c0, Option.bind_some, if_neg (by decide)]
        by_cases k : x2 < 0
        · rw [if_pos k]
        · rw [if_neg k, if_pos (by omega)]
      · unfold f_X12_fast
        rw [sM_isProgram, if_pos c0, Option.bind_some, if_neg (by decide), sM_in, if_neg (by omega), Option.bind_some, if_pos rfl]
  · refine ⟨-1, mC, mM, ?_, ?_, hI⟩
    · unfold f_X11_fast
      rw [s_isProgram, if_neg c0, Option.bind_some, if_pos rfl]
    · unfold f_X12_fast
      rw [sM_isProgram, if_neg c0, Option.bind_some, if_pos rfl]
