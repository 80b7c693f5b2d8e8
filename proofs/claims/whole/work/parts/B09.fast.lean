theorem s_may2 {S w x : Nat} (hS : isS S) (hw : 1 ≤ w ∧ w ≤ 2) (hx : x < 256) : f_X11_mayBeHeld jN (S : Int) (w : Int) (x : Int) = some (if okS2 S w x = true then 1 else 0) := by
  rw [may_S hS hw hx]
  by_cases c : okS2 S w x = true
  · rw [if_pos c, if_pos (okS2_iff.mp c)]
  · rw [if_neg c, if_neg (fun q => c (okS2_iff.mpr q))]
theorem sM_may2 {S w x : Nat} (hS : isS S) (hw : 1 ≤ w ∧ w ≤ 2) (hx : x < 256) : f_X12_mayHold jN 1 (S : Int) (w : Int) (x : Int) = some (if okS2 S w x = true then 1 else 0) := by
  have hs : (S : Int) = 1 ∨ (S : Int) = 2 ∨ (S : Int) = 4 := by rcases hS with rfl | rfl | rfl <;> simp
  rw [(may_all hs (by omega) (by omega) (by omega)).1, s_may2 hS hw hx]
theorem s_compare {x v b cb : Nat} {M : jm_M} (hF : CF M) (hx : x < 256) (hb : b < 256) (h0 : M 82 0 = (b : Int)) (h1 : M 82 1 = (cb : Int)) : f_X8_compare shC 82 (x : Int) (v : Int) M = some (if v < cb ∨ (v = cb ∧ bt8 x < bt8 b) then jm_up (jm_up M 82 0 (x : Int)) 82 1 (v : Int) else M) := by
  have n1 : f_J6_bitCount_0f7a4 (x : Int) = some (bt8 x : Int) := bitc ⟨x, hx⟩
  have n2 : f_J6_bitCount_0f7a4 (b : Int) = some (bt8 b : Int) := bitc ⟨b, hb⟩
  have h40 : f_X8_compare_b40 shC 82 (x : Int) (v : Int) M = some (jm_up (jm_up M 82 0 (x : Int)) 82 1 (v : Int)) := by
    unfold f_X8_compare_b40
    rw [jwf_ok sC82, Option.bind_some, jwf_ok sC82, Option.bind_some]
  have h19 : ∀ z : Int, (z = if bt8 x < bt8 b then 1 else 0) → f_X8_compare_b19 shC 82 (x : Int) (v : Int) z M = some (if v < cb ∨ (v = cb ∧ bt8 x < bt8 b) then jm_up (jm_up M 82 0 (x : Int)) 82 1 (v : Int) else M) := by
    intro z hz
    unfold f_X8_compare_b19
    rw [jrf_ok sC82, Option.bind_some, Option.bind_some, h1, h40]
    by_cases c1 : v < cb
    · rw [if_pos (by omega), if_pos (Or.inl c1)]
    · rw [if_neg (by omega)]
      by_cases c2 : v = cb
      · rw [if_pos (by omega)]
        by_cases c3 : bt8 x < bt8 b
        · rw [if_pos c3] at hz
          rw [if_neg (by omega), if_pos (Or.inr ⟨c2, c3⟩)]
        · rw [if_neg c3] at hz
          rw [if_pos hz, if_neg (by omega)]
      · rw [if_neg (by omega), if_neg (by omega)]
  unfold f_X8_compare
  rw [n1, Option.bind_some, jrf_ok sC82, Option.bind_some, h0, n2, Option.bind_some]
  by_cases c : bt8 x < bt8 b
  · rw [if_pos (by omega)]; exact h19 1 (by rw [if_pos c])
  · rw [if_neg (by omega)]; exact h19 0 (by rw [if_neg c])
theorem okS2_0 (S w : Nat) : okS2 S w 0 = true := okS2_iff.mpr fun t _ => by rw [hc_0]; omega
noncomputable def fbO (S w ms cr : Nat) (sg : Nat → Int) (n : Nat) : Nat := fb (cH S w ms sg) bt8 (fun x => decide (x < 256) && (okS2 S w x && sub8 x cr)) n
theorem s_holdFast {t cn : Nat} {sg : Nat → Int} {S w h ms : Nat} {m : jm_M} (ht : t ∈ tL) (hF : CF m) (hR : ∀ r ∈ rrL, RR m r) (hX : TX cn sg) (hC : CT m t cn sg) (hT : ST S w h) (hms : ms ≤ 20) (h0 : m 3 0 = (S : Int)) (h1 : m 3 1 = (w : Int)) (h2 : m 3 2 = (ms : Int)) :
    ∃ M, f_X8_holdFast jN shC 82 t m = some M ∧ CF M ∧ (∀ r ∈ rrL, RR M r) ∧ (∀ a, a ≤ 64 → ∀ j, M a j = m a j) ∧ M 82 0 = (fbO S w ms (lr sg 0 cn) sg 255 : Int) ∧ M 82 1 = (cH S w ms sg (fbO S w ms (lr sg 0 cn) sg 255) : Int) := by
  have hJ := jN_big
  obtain ⟨n0, n1, n2, n3, n4⟩ := n82
  have htl := tL_lt t ht
  have row : rrL.all (fun r => decide (82 < r ∨ r + 3 < 82)) = true := by decide
  have hcr := lr_lt sg 0 cn
  have key : ∀ (n x : Nat) (M : jm_M), 1 ≤ x → x ≤ 256 → 257 ≤ x + n → CF M → (∀ r ∈ rrL, RR M r) → (∀ a, a ≤ 64 → ∀ j, M a j = m a j) → M 82 0 = (fbO S w ms (lr sg 0 cn) sg (x - 1) : Int) → M 82 1 = (cH S w ms sg (fbO S w ms (lr sg 0 cn) sg (x - 1)) : Int) → ∃ M', f_X8_holdFast_l34 jN shC n 82 t (lr sg 0 cn : Int) (ms : Int) (x : Int) M = some M' ∧ CF M' ∧ (∀ r ∈ rrL, RR M' r) ∧ (∀ a, a ≤ 64 → ∀ j, M' a j = m a j) ∧ M' 82 0 = (fbO S w ms (lr sg 0 cn) sg 255 : Int) ∧ M' 82 1 = (cH S w ms sg (fbO S w ms (lr sg 0 cn) sg 255) : Int) := by
    intro n
    induction n with
    | zero => intro x M a1 a2 a3; omega
    | succ n ih =>
      intro x M a1 a2 a3 cf rr fs k0 k1
      show ∃ M', f_X8_holdFast_b34 jN shC (f_X8_holdFast_l34 jN shC n) 82 t (lr sg 0 cn : Int) (ms : Int) (x : Int) M = some M' ∧ _
      unfold f_X8_holdFast_b34 f_X8_holdFast_b90
      by_cases c : x = 256
      · subst c
        rw [if_pos (by omega)]
        exact ⟨M, rfl, cf, rr, fs, k0, k1⟩
      · rw [if_neg (by omega), jw_succ (by omega)]
        obtain ⟨y, rfl⟩ : ∃ y, x = y + 1 := ⟨x - 1, by omega⟩
        rw [Nat.add_sub_cancel] at k0 k1
        have ef : fbO S w ms (lr sg 0 cn) sg (y + 1) = if (decide (y + 1 < 256) && (okS2 S w (y + 1) && sub8 (y + 1) (lr sg 0 cn))) && btr2 (cH S w ms sg) bt8 (y + 1) (fbO S w ms (lr sg 0 cn) sg y) then y + 1 else fbO S w ms (lr sg 0 cn) sg y := rfl
        have hy : decide (y + 1 < 256) = true := decide_eq_true (by omega)
        rw [hy, Bool.true_and] at ef
        have skip : (okS2 S w (y + 1) && sub8 (y + 1) (lr sg 0 cn)) = false → ∃ M', f_X8_holdFast_l34 jN shC n 82 t (lr sg 0 cn : Int) (ms : Int) ((y + 1 + 1 : Nat) : Int) M = some M' ∧ CF M' ∧ (∀ r ∈ rrL, RR M' r) ∧ (∀ a, a ≤ 64 → ∀ j, M' a j = m a j) ∧ M' 82 0 = (fbO S w ms (lr sg 0 cn) sg 255 : Int) ∧ M' 82 1 = (cH S w ms sg (fbO S w ms (lr sg 0 cn) sg 255) : Int) := by
          intro q
          rw [q, Bool.false_and, if_neg (by decide)] at ef
          exact ih (y + 1 + 1) M (by omega) (by omega) (by omega) cf rr fs (by rw [Nat.add_sub_cancel, ef]; exact k0) (by rw [Nat.add_sub_cancel, ef]; exact k1)
        obtain ⟨r, er, hr, hrb⟩ := andn_nat (a := y + 1) (by omega) hcr
        rw [er]
        by_cases cs : r = 0
        · have hsub : sub8 (y + 1) (lr sg 0 cn) = true := sub8_iff.mpr fun l hl q => by
            have := (zero_bits hr).mp cs l hl
            rw [hrb, q] at this
            simpa using this
          have g0 : f_X1_setting shC 2 0 M = some (S : Int) := by
            rw [s_setting cf two_bL (by decide) (by decide)]
            show some (M 3 0) = _
            rw [fs 3 (by decide), h0]
          have g1 : f_X1_setting shC 2 1 M = some (w : Int) := by
            rw [s_setting cf two_bL (by decide) (by decide)]
            show some (M 3 1) = _
            rw [fs 3 (by decide), h1]
          rw [if_pos (by omega), jrf_ok sC82, Option.bind_some, cf.t82_5, jck_ok sC2, Option.bind_some, g0, Option.bind_some, Option.bind_some, cf.t82_5, jck_ok sC2, Option.bind_some, g1, Option.bind_some, s_may2 hT.1 hT.2.1 (by omega), Option.bind_some]
          by_cases co : okS2 S w (y + 1) = true
          · rw [if_pos co, if_neg (by decide), jck_ok sC82, Option.bind_some]
            have hTy : ST S w (y + 1) := ⟨hT.1, hT.2.1, by omega, okS2_iff.mp co⟩
            obtain ⟨v, M1, nn, e1, bv, -, cf1, rr1, f1, f2⟩ := s_costOf (N := jN) (W := true) (m := M) (by omega) ht cf rr hX (hC.same (fun a h1 h2 => fs a (by omega))) hTy hms (by rw [fs 3 (by decide)]; exact h0) (by rw [fs 3 (by decide)]; exact h1)
            have ev : v = cH S w ms sg (y + 1) := bv.uniq (wst_BV hTy hX)
            subst ev
            have e1 : f_X8_costOf jN shC 82 t (ms : Int) ((y + 1 : Nat) : Int) 1 M = some ((cH S w ms sg (y + 1) : Int), M1) := e1
            have hfb : fbO S w ms (lr sg 0 cn) sg y < 256 := Nat.lt_of_le_of_lt (fb_le _ _ _ y) (by omega)
            rw [e1, Option.bind_some]
            dsimp only
            rw [Option.bind_some, s_compare cf1 (by omega) hfb (by rw [f2 0 (by decide) (by decide) (by decide)]; exact k0) (by rw [f2 1 (by decide) (by decide) (by decide)]; exact k1), Option.bind_some]
            rw [co, hsub, Bool.true_and, Bool.true_and] at ef
            by_cases cb : cH S w ms sg (y + 1) < cH S w ms sg (fbO S w ms (lr sg 0 cn) sg y) ∨ (cH S w ms sg (y + 1) = cH S w ms sg (fbO S w ms (lr sg 0 cn) sg y) ∧ bt8 (y + 1) < bt8 (fbO S w ms (lr sg 0 cn) sg y))
            · rw [if_pos (btr2_iff.mpr cb)] at ef
              rw [if_pos cb]
              refine ih (y + 1 + 1) _ (by omega) (by omega) (by omega) ((cf1.up n0).up n1) (RRs.row rr1 row (fun a ha i => by rw [up_ne ha, up_ne ha])) (fun a ha j => by rw [up_ne (by omega), up_ne (by omega), f1 a (by omega)]; exact fs a ha j) ?_ ?_
              · rw [Nat.add_sub_cancel, ef, up_nk (by decide), up_eq]
              · rw [Nat.add_sub_cancel, ef, up_eq]
            · rw [if_neg (fun z => cb (btr2_iff.mp z))] at ef
              rw [if_neg cb]
              exact ih (y + 1 + 1) _ (by omega) (by omega) (by omega) cf1 rr1 (fun a ha j => by rw [f1 a (by omega)]; exact fs a ha j) (by rw [Nat.add_sub_cancel, ef, f2 0 (by decide) (by decide) (by decide)]; exact k0) (by rw [Nat.add_sub_cancel, ef, f2 1 (by decide) (by decide) (by decide)]; exact k1)
          · rw [if_neg co, if_pos rfl]
            exact skip (by simp [co])
        · have hsub : ¬ sub8 (y + 1) (lr sg 0 cn) = true := fun q => cs ((zero_bits hr).mpr fun l hl => by
            rw [hrb]
            cases z : hb (y + 1) l with
            | false => rfl
            | true => rw [sub8_iff.mp q l hl z]; rfl)
          rw [if_neg (by omega)]
          exact skip (by simp [hsub])
  have hT0 : ST S w 0 := ⟨hT.1, hT.2.1, by decide, okS2_iff.mp (okS2_0 S w)⟩
  let m1 : jm_M := jm_up m 82 0 0
  have hF1 : CF m1 := hF.up n0
  have k1 : ∀ a, a ≠ 82 → ∀ j, m1 a j = m a j := fun a ha j => up_ne ha
  obtain ⟨v, M1, nn, e1, bv, -, cf1, rr1, f1, f2⟩ := s_costOf (N := jN) (W := true) (m := m1) (by omega) ht hF1 (RRs.row hR row k1) hX (hC.same (fun a h1 h2 => k1 a (by omega))) hT0 hms (by rw [k1 3 (by decide)]; exact h0) (by rw [k1 3 (by decide)]; exact h1)
  have ev : v = cH S w ms sg 0 := bv.uniq (wst_BV hT0 hX)
  subst ev
  have e1 : f_X8_costOf jN shC 82 t (ms : Int) 0 1 (jm_up m 82 0 0) = some ((cH S w ms sg 0 : Int), M1) := e1
  have g2 : f_X1_setting shC 2 2 m = some (ms : Int) := by
    rw [s_setting hF two_bL (by decide) (by decide)]
    show some (m 3 2) = _
    rw [h2]
  obtain ⟨t1, -⟩ := tC hF t ht
  obtain ⟨M', e', q⟩ := key jN 1 (jm_up M1 82 1 (cH S w ms sg 0 : Int)) (by omega) (by omega) (by omega) (cf1.up n1) (RRs.row rr1 row (fun a ha i => up_ne ha)) (fun a ha j => by rw [up_ne (by omega), f1 a (by omega), k1 a (by omega)]) (by rw [up_nk (by decide), f2 0 (by decide) (by decide) (by decide)]; exact up_eq) up_eq
  refine ⟨M', ?_, q⟩
  unfold f_X8_holdFast
  rw [jck_ok t1, Option.bind_some, s_allLines hF ht hX hC, Option.bind_some, jrf_ok sC82, Option.bind_some, hF.t82_5, jck_ok sC2, Option.bind_some, g2, Option.bind_some, jwf_ok sC82, Option.bind_some, jck_ok sC82, Option.bind_some, e1, Option.bind_some, jwf_ok sC82, Option.bind_some]
  exact e'
