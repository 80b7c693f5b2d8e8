/-! the sort of a fetch -/
def agO (S w h : Nat) (sg : Nat → Int) (i : Nat) : AgT := ((pa S w h sg 4 0 (inA S w h, fun _ => none)).2 i).getD (fun _ => 0)
def soO (S w h : Nat) (sg : Nat → Int) (i : Nat) : Nat := if hb h (lnO (sg i)) = true then 0 else if agO S w h sg i (lnO (sg i)) < rmS S w h (lnO (sg i) % S) then 0 else if agO S w h sg i (8 + lnO (sg i)) = rmS S w h (lnO (sg i) % S) then 1 else if lkO S w h sg i < i then 2 else 3
theorem soO_le (S w h : Nat) (sg : Nat → Int) (i : Nat) : soO S w h sg i ≤ 3 := by
  unfold soO
  split
  · omega
  · split
    · omega
    · split
      · omega
      · split <;> omega
theorem ag_some {S w h cn : Nat} {sg : Nat → Int} (hX : TX cn sg) {i : Nat} (hi : i < cn) (hs : 48 ≤ sg i ∧ sg i ≤ 55) : (pa S w h sg 4 0 (inA S w h, fun _ => none)).2 i = some (agO S w h sg i) := by
  obtain ⟨a, ha⟩ := pa_has (S := S) (w := w) (h := h) 4 (Nat.le_refl 4) 0 hX.2.1 (inA S w h, fun _ => none) i (by omega) (by rw [hX.2.2]; omega) hs
  unfold agO
  rw [ha]
  rfl
theorem s_sortOf {N t cn : Nat} {sg : Nat → Int} {S w h i : Nat} {m : jm_M} (hN : 100 ≤ N) (ht : t ∈ tL) (hF : CF m) (hX : TX cn sg) (hC : CT m t cn sg) (hT : ST S w h) (hS : GS m S w h) (h0 : m 187 0 = (t : Int)) (hA : AW m (pa S w h sg 4 0 (inA S w h, fun _ => none))) (hi : i < cn) (hs : 48 ≤ sg i ∧ sg i ≤ 55) : f_X2_sortOf N shC 187 (i : Int) m = some (soO S w h sg i : Int) := by
  have hcn := hX.1
  have et : (m 187 0).toNat = t := by rw [h0]; exact Int.toNat_natCast _
  have t1 := (tC hF t ht).1
  have hl := ln_lt hs
  have ra := hA.2 i (by omega) _ (ag_some hX hi hs)
  have ln := s_line hF ht hC hcn hi hs
  have e1 : f_X0_mustAt shC 142 (i : Int) (lnO (sg i) : Int) m = some (agO S w h sg i (lnO (sg i)) : Int) := by
    unfold f_X0_mustAt
    rw [jck_ok sC142, Option.bind_some, s_ageAt hF (by omega) (by omega) ra, Option.bind_some]
  have e2 : f_X0_mayAt shC 142 (i : Int) (lnO (sg i) : Int) m = some (agO S w h sg i (8 + lnO (sg i)) : Int) := by
    unfold f_X0_mayAt
    rw [jck_ok sC142, Option.bind_some, jw_eq (by omega) (by omega), show (8 : Int) + (lnO (sg i) : Int) = ((8 + lnO (sg i) : Nat) : Int) by omega, s_ageAt hF (by omega) (by omega) ra, Option.bind_some]
  have e3 := s_keeps hN ht hF hX hC hT hS h0 hi hs
  unfold f_X2_sortOf soO
  rw [jrf_ok sC187, Option.bind_some, et, jck_ok t1, Option.bind_some, ln, Option.bind_some, jrf_ok sC187, Option.bind_some, hF.t187_1, jck_ok sC2, Option.bind_some, s_roomFor hF hS hT hl, Option.bind_some, Option.bind_some, hF.t187_1, jck_ok sC2, Option.bind_some, s_holds hF hS hT.2.2.1 hl, Option.bind_some, ifb]
  by_cases c : hb h (lnO (sg i)) = true
  · rw [if_pos c, if_pos c]; rfl
  · rw [if_neg c, if_neg c, jrf_ok sC187, Option.bind_some, hF.t187_2, jck_ok sC142, Option.bind_some, e1, Option.bind_some]
    by_cases c1 : agO S w h sg i (lnO (sg i)) < rmS S w h (lnO (sg i) % S)
    · rw [if_pos (by omega), if_pos c1]; rfl
    · rw [if_neg (by omega), if_neg c1, Option.bind_some, hF.t187_2, jck_ok sC142, Option.bind_some, e2, Option.bind_some]
      by_cases c2 : agO S w h sg i (8 + lnO (sg i)) = rmS S w h (lnO (sg i) % S)
      · rw [if_pos (by omega), if_pos c2]; rfl
      · rw [if_neg (by omega), if_neg c2, jck_ok sC187, Option.bind_some, e3, Option.bind_some]
        by_cases c3 : lkO S w h sg i < i
        · rw [if_pos c3, if_pos c3, if_neg (by omega)]; rfl
        · rw [if_neg c3, if_neg c3, if_pos (by decide)]; rfl
theorem sM_sortOf {p cn : Nat} {sg : Nat → Int} {S w h i : Nat} {m : jm_M} (hp : p < 4) (hT : ST S w h) (hX : TX cn sg) (hG : GNa m p cn sg S w h) (hA : AM m (pa S w h sg 4 0 (inA S w h, fun _ => none))) (hi : i < cn) (hs : 48 ≤ sg i ∧ sg i ≤ 55) : f_X12_sortOf jN shM 1 (p : Int) (i : Int) m = some (soO S w h sg i : Int) := by
  have hJ := jN_huge
  have hcn := hX.1
  obtain ⟨g1, g2, g4⟩ := id hG
  have hl := ln_lt hs
  obtain ⟨l1, l2, l3⟩ := line_S hT.1 hl
  have ra := hA.2 i (by omega) _ (ag_some hX hi hs)
  have el : jw (sg i - 48) = (lnO (sg i) : Int) := by rw [jw_eq (by omega) (by omega)]; unfold lnO; omega
  have e3 := sM_loopOf (N := jN) rfl hp hT hX hG hi hs
  have x1 : jw (jw (16 * (i : Int)) + (lnO (sg i) : Int)) = ((16 * i + lnO (sg i) : Nat) : Int) := jw16 (by omega) (by omega)
  have x2 : jw (jw (jw (16 * (i : Int)) + 8) + (lnO (sg i) : Int)) = ((16 * i + (8 + lnO (sg i)) : Nat) : Int) := by
    rw [jw_eq (x := 16 * (i : Int)) (by omega) (by omega), jw_eq (x := 16 * (i : Int) + 8) (by omega) (by omega), jw_eq (by omega) (by omega)]
    omega
  unfold f_X12_sortOf soO
  rw [jrf_ok sM1, Option.bind_some, g1.t4, jw_eq (x := 30 * (p : Int)) (by omega) (by omega), jw_eq (x := 30 * (p : Int) + (i : Int)) (by omega) (by omega), show 30 * (p : Int) + (i : Int) = ((30 * p + i : Nat) : Int) by omega, jra_ok sM5 (by omega) (by omega), Option.bind_some, Int.toNat_natCast, (g4 i hi).1, el, jck_ok sM1, Option.bind_some, sM_setOf g1 g2 hT.1, Option.bind_some, Option.bind_some, sM_roomOf (by omega) g1 g2 hT l2, Option.bind_some, Option.bind_some, sM_isHeld g1 g2 hT.2.2.1 hl, Option.bind_some, ifb]
  by_cases c : hb h (lnO (sg i)) = true
  · rw [if_pos c, if_pos c]; rfl
  · rw [if_neg c, if_neg c, jrf_ok sM1, Option.bind_some, g1.t29, x1, jra_ok sM20 (by omega) (by omega), Option.bind_some, Int.toNat_natCast, ra _ (by omega)]
    by_cases c1 : agO S w h sg i (lnO (sg i)) < rmS S w h (lnO (sg i) % S)
    · rw [if_pos (by omega), if_pos c1]; rfl
    · rw [if_neg (by omega), if_neg c1, Option.bind_some, g1.t29, x2, jra_ok sM20 (by omega) (by omega), Option.bind_some, Int.toNat_natCast, ra _ (by omega)]
      by_cases c2 : agO S w h sg i (8 + lnO (sg i)) = rmS S w h (lnO (sg i) % S)
      · rw [if_pos (by omega), if_pos c2]; rfl
      · rw [if_neg (by omega), if_neg c2, Option.bind_some, e3, Option.bind_some]
        by_cases c3 : lkO S w h sg i < i
        · rw [if_pos c3, if_pos c3, if_neg (by omega)]; rfl
        · rw [if_neg c3, if_neg c3, if_pos (by decide)]; rfl
