def ftO (q : jBd) (x1 x2 : Int) : Prop := (0 ≤ x1 ∧ x1 < 4) ∧ (0 ≤ x2 ∧ x2 < (q.2.1 x1.toNat : Int)) ∧ 48 ≤ q.2.2.1 x1.toNat x2.toNat ∧ q.2.2.1 x1.toNat x2.toNat ≤ 55
theorem s_isFetch2 {m : jm_M} {q : jBd} {x1 x2 : Int} (hF : CF m) (hV : VB q) (hB : CB m 2 q) : (ftO q x1 x2 → f_X11_isFetch shC 1 x1 x2 m = some 1) ∧ (¬ ftO q x1 x2 → f_X11_isFetch shC 1 x1 x2 m = some 0) := by
  unfold f_X11_isFetch
  rw [s_isProgram, Option.bind_some, ifb]
  by_cases c0 : 0 ≤ x1 ∧ x1 < 4
  · obtain ⟨p, rfl⟩ : ∃ p : Nat, x1 = p := ⟨x1.toNat, by omega⟩
    have hp : p < 4 := by omega
    have ht := tL_of two_bL hp
    have hcn := (hV.2.1 p hp).1
    have hC := hB.2.1 p hp
    rw [if_pos c0, jrf_ok sC1, Option.bind_some, hF.t1_0, jck_ok sC2, Option.bind_some, s_textOf hF two_bL hp, Option.bind_some, jck_ok (tC hF _ ht).1, Option.bind_some]
    have key : f_X10_isFetchAt shC (2 + 4 + 4 * p) x2 m = some (if (0 ≤ x2 ∧ x2 < (q.2.1 p : Int)) ∧ 48 ≤ q.2.2.1 p x2.toNat ∧ q.2.2.1 p x2.toNat ≤ 55 then 1 else 0) := by
      by_cases c1 : 0 ≤ x2 ∧ x2 < (q.2.1 p : Int)
      · obtain ⟨i, rfl⟩ : ∃ i : Nat, x2 = i := ⟨x2.toNat, by omega⟩
        rw [s_isFetch hF ht hC hcn (by omega), Int.toNat_natCast]
        by_cases c2 : 48 ≤ q.2.2.1 p i ∧ q.2.2.1 p i ≤ 55
        · rw [if_pos c2, if_pos ⟨c1, c2⟩]
        · rw [if_neg c2, if_neg (fun z => c2 z.2)]
      · have h45 : f_X10_signAt shC (2 + 4 + 4 * p) x2 m = some 45 := by
          rw [s_signAt hF ht]
          by_cases c2 : 0 ≤ x2 ∧ x2 < 30
          · rw [if_pos c2, hC.2.2.1 x2.toNat (by omega) (by omega)]
          · rw [if_neg c2]
        unfold f_X10_isFetchAt
        rw [jck_ok (tC hF _ ht).1, Option.bind_some, h45, Option.bind_some, if_neg (fun z => c1 z.1)]
        rfl
    rw [key, Option.bind_some, ifb]
    unfold ftO
    rw [Int.toNat_natCast]
    refine ⟨fun z => by rw [if_pos z.2], fun z => by rw [if_neg (fun y => z ⟨c0, y⟩)]⟩
  · rw [if_neg c0]
    exact ⟨fun z => absurd z.1 c0, fun _ => rfl⟩
theorem sM_isFetch2 {m : jm_M} {q : jBd} {x1 x2 : Int} (hF : MF m) (hV : VB q) (hB : MB m q) : (ftO q x1 x2 → f_X12_isFetch shM 1 x1 x2 m = some 1) ∧ (¬ ftO q x1 x2 → f_X12_isFetch shM 1 x1 x2 m = some 0) := by
  unfold f_X12_isFetch f_X12_isNode
  rw [jck_ok sM1, Option.bind_some, sM_isProgram, Option.bind_some, ifb]
  by_cases c0 : 0 ≤ x1 ∧ x1 < 4
  · obtain ⟨p, rfl⟩ : ∃ p : Nat, x1 = p := ⟨x1.toNat, by omega⟩
    have hp : p < 4 := by omega
    have hcn := (hV.2.1 p hp).1
    have hB4 := hB.2.1 p hp
    rw [if_pos c0, jrf_ok sM1, Option.bind_some, hF.t3, jra_ok sM4 (by omega) (by omega), Option.bind_some, Int.toNat_natCast, hB4.1, jw_eq (by omega) (by omega), sM_in, Option.bind_some, ifb]
    unfold ftO
    rw [Int.toNat_natCast]
    by_cases c1 : 0 ≤ x2 ∧ x2 ≤ (q.2.1 p : Int) - 1
    · obtain ⟨i, rfl⟩ : ∃ i : Nat, x2 = i := ⟨x2.toNat, by omega⟩
      rw [if_pos c1, Option.bind_some, if_neg (by decide), jrf_ok sM1, Option.bind_some, hF.t4, jw_eq (x := 30 * (p : Int)) (by omega) (by omega), jw_eq (by omega) (by omega), show 30 * (p : Int) + (i : Int) = ((30 * p + i : Nat) : Int) by omega, jra_ok sM5 (by omega) (by omega), Option.bind_some, Int.toNat_natCast, Int.toNat_natCast, (hB4.2 i (by omega)).1, sM_in, Option.bind_some, ifb]
      refine ⟨fun z => by rw [if_pos z.2.2], fun z => by rw [if_neg (fun y => z ⟨c0, by omega, y⟩)]⟩
    · rw [if_neg c1, Option.bind_some, if_pos rfl]
      exact ⟨fun z => by omega, fun _ => rfl⟩
  · rw [if_neg c0, Option.bind_some, if_pos rfl]
    exact ⟨fun z => absurd z.1 c0, fun _ => rfl⟩
