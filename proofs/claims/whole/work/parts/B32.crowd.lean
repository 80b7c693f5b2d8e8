/-! sorts: the free lines of a set within a node -/
def frB (S h s l : Nat) : Bool := decide (l % S = s) && !hb h l
def cwO (S h s : Nat) (sg : Nat → Int) (j : Nat) : Nat := cnt (fun l => hb (lr sg j (zs sg 4 j)) l && frB S h s l) 8
def CX (S h s : Nat) (sg : Nat → Int) (j k X : Nat) : Prop := X < 256 ∧ ∀ l, l < 8 → hb X l = (hb (lr sg j k) l && frB S h s l)
theorem lb_ln {s : Int} (hs : 48 ≤ s ∧ s ≤ 55) : lb s = 2 ^ lnO s := by
  unfold lb lnO
  rw [if_pos hs]
theorem hb_lr (sg : Nat → Int) (j k l : Nat) : hb (lr sg j (k + 1)) l = (hb (lr sg j k) l || hb (lb (sg (j + k))) l) := Nat.testBit_or _ _ _
theorem CX.yes {S h s j k X : Nat} {sg : Nat → Int} (hX : CX S h s sg j k X) (hs : 48 ≤ sg (j + k) ∧ sg (j + k) ≤ 55) (hf : frB S h s (lnO (sg (j + k))) = true) : CX S h s sg j (k + 1) (X ||| lb (sg (j + k))) := by
  refine ⟨Nat.or_lt_two_pow (n := 8) hX.1 (lb_lt _), fun l hl => ?_⟩
  rw [hb_lr, show hb (X ||| lb (sg (j + k))) l = (hb X l || hb (lb (sg (j + k))) l) from Nat.testBit_or _ _ _, hX.2 l hl]
  have e : hb (lb (sg (j + k))) l = decide (lnO (sg (j + k)) = l) := by rw [lb_ln hs]; exact Nat.testBit_two_pow
  rw [e]
  by_cases c : lnO (sg (j + k)) = l
  · rw [← c, hf, decide_eq_true rfl]; simp
  · rw [decide_eq_false c]; simp
theorem CX.no {S h s j k X : Nat} {sg : Nat → Int} (hX : CX S h s sg j k X) (hn : (48 ≤ sg (j + k) ∧ sg (j + k) ≤ 55) → frB S h s (lnO (sg (j + k))) = false) : CX S h s sg j (k + 1) X := by
  refine ⟨hX.1, fun l hl => ?_⟩
  rw [hb_lr, hX.2 l hl]
  by_cases hs : 48 ≤ sg (j + k) ∧ sg (j + k) ≤ 55
  · have e : hb (lb (sg (j + k))) l = decide (lnO (sg (j + k)) = l) := by rw [lb_ln hs]; exact Nat.testBit_two_pow
    rw [e]
    by_cases c : lnO (sg (j + k)) = l
    · have hf := hn hs
      rw [c] at hf
      rw [hf]; simp
    · rw [decide_eq_false c]; simp
  · have e : hb (lb (sg (j + k))) l = false := by
      unfold lb
      rw [if_neg hs]
      exact Nat.zero_testBit _
    rw [e]; simp
theorem sM_crowdOf {N p cn : Nat} {sg : Nat → Int} {S w h s j : Nat} {m : jm_M} (hN : 100 ≤ N) (hp : p < 4) (hT : ST S w h) (hX : TX cn sg) (hG : GNa m p cn sg S w h) (hj : j < cn) : ∃ X : Nat, f_X12_crowdOf N shM 1 ((30 * p + j : Nat) : Int) (s : Int) m = some (X : Int) ∧ CX S h s sg j (zs sg 4 j) X := by
  have hcn := hX.1
  have hz := (hX.node hj).2
  obtain ⟨g1, g2, g4⟩ := id hG
  have key : ∀ (r k n X : Nat), k + r = zs sg 4 j → r < n → CX S h s sg j k X → ∃ X' : Nat, f_X12_crowdOf_l5 N shM n 1 ((30 * p + j : Nat) : Int) (s : Int) (X : Int) ((30 * p + j + k : Nat) : Int) m = some (X' : Int) ∧ CX S h s sg j (zs sg 4 j) X' := by
    intro r
    induction r with
    | zero =>
      intro k n X hk hn hC
      obtain ⟨n, rfl⟩ : ∃ n', n = n' + 1 := ⟨n - 1, by omega⟩
      refine ⟨X, ?_, by rw [← hk]; exact hC⟩
      unfold f_X12_crowdOf_l5 f_X12_crowdOf_b5
      rw [jrf_ok sM1, Option.bind_some, g1.t5, jra_ok sM6 (by omega) (by omega), Option.bind_some, Int.toNat_natCast, (g4 j hj).2, jw_eq (by omega) (by omega), if_neg (by omega)]
    | succ r ih =>
      intro k n X hk hn hC
      obtain ⟨n, rfl⟩ : ∃ n', n = n' + 1 := ⟨n - 1, by omega⟩
      have hsg := hX.sign (show j + k < cn by omega)
      have hlim : -1000 ≤ sg (j + k) ∧ sg (j + k) ≤ 1000 := by
        rcases hsg with z | z | z | z
        · rcases lf_or z with z | z <;> omega
        · omega
        · omega
        · omega
      have h5 := (g4 (j + k) (by omega)).1
      rw [← Nat.add_assoc] at h5
      have hXb := hC.1
      have j0 : jor (X : Int) 0 = (X : Int) := by
        have := jor_nat (a := X) (b := 0) (by omega) (by omega)
        rw [Nat.or_zero] at this
        exact this
      unfold f_X12_crowdOf_l5 f_X12_crowdOf_b5 f_X12_crowdOf_b68 f_X12_crowdOf_b69
      rw [jrf_ok sM1, Option.bind_some, g1.t5, jra_ok sM6 (by omega) (by omega), Option.bind_some, Int.toNat_natCast, (g4 j hj).2, jw_eq (x := ((30 * p + j : Nat) : Int) + (zs sg 4 j : Int)) (by omega) (by omega), if_pos (by omega), jrf_ok sM1, Option.bind_some, g1.t4, jra_ok sM5 (by omega) (by omega), Option.bind_some, Int.toNat_natCast, h5, jw_succ (by omega), j0, sM_in, Option.bind_some, ifb]
      by_cases c : 48 ≤ sg (j + k) ∧ sg (j + k) ≤ 55
      · have el : jw (sg (j + k) - 48) = (lnO (sg (j + k)) : Int) := by rw [jw_eq (by omega) (by omega)]; unfold lnO; omega
        have hl := ln_lt c
        have esh : jshl 1 (lnO (sg (j + k)) : Int) = (lb (sg (j + k)) : Int) := by rw [← el]; exact jshl_line2 c
        rw [el, if_pos (by omega), jck_ok sM1, Option.bind_some, sM_isHeld g1 g2 hT.2.2.1 hl, Option.bind_some, ifb]
        by_cases ch : hb h (lnO (sg (j + k))) = true
        · rw [if_pos ch]
          exact ih (k + 1) n X (by omega) (by omega) (hC.no (fun _ => by unfold frB; rw [ch]; simp))
        · rw [if_neg ch, Option.bind_some, sM_setOf g1 g2 hT.1, Option.bind_some]
          by_cases ce : lnO (sg (j + k)) % S = s
          · rw [if_pos (by omega), esh, jor_nat (by omega) (by have := lb_lt (sg (j + k)); omega)]
            exact ih (k + 1) n _ (by omega) (by omega) (hC.yes c (by unfold frB; rw [decide_eq_true ce]; simp [ch]))
          · rw [if_neg (by omega)]
            exact ih (k + 1) n X (by omega) (by omega) (hC.no (fun _ => by unfold frB; rw [decide_eq_false ce]; simp))
      · have hne : ¬ (0 ≤ jw (sg (j + k) - 48) ∧ jw (sg (j + k) - 48) ≤ 7) := by rw [jw_eq (by omega) (by omega)]; omega
        rw [if_neg hne]
        exact ih (k + 1) n X (by omega) (by omega) (hC.no (fun z => absurd z c))
  unfold f_X12_crowdOf
  exact key (zs sg 4 j) 0 N 0 (by omega) (by omega) ⟨by decide, fun l hl => by show Nat.testBit 0 l = (Nat.testBit 0 l && _); rw [Nat.zero_testBit]; rfl⟩
theorem CX.cw {S h s j X : Nat} {sg : Nat → Int} (hX : CX S h s sg j (zs sg 4 j) X) : bt8 X = cwO S h s sg j := cnt_congr (fun l hl => hX.2 l hl)
