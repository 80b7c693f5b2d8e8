def kpO (S w h : Nat) (sg : Nat → Int) (i j : Nat) : Bool := decide (98 ≤ sg j ∧ sg j ≤ 100) && (decide (i < j + zs sg 4 j) && decide (cwO S h (lnO (sg i) % S) sg j ≤ rmS S w h (lnO (sg i) % S)))
def fstP (P : Nat → Bool) : Nat → Nat → Nat
  | 0 => fun j => j
  | r + 1 => fun j => if P j then j else fstP P r (j + 1)
def lkO (S w h : Nat) (sg : Nat → Int) (i : Nat) : Nat := fstP (kpO S w h sg i) i 0
theorem fstP_le (P : Nat → Bool) : ∀ r j, fstP P r j ≤ j + r := by
  intro r
  induction r with
  | zero => intro j; exact Nat.le_refl _
  | succ r ih =>
    intro j
    have e : fstP P (r + 1) j = if P j then j else fstP P r (j + 1) := rfl
    rw [e]
    by_cases c : P j = true
    · rw [if_pos c]; omega
    · rw [if_neg c]; have := ih (j + 1); omega
theorem sM_loopOf {N p cn : Nat} {sg : Nat → Int} {S w h i : Nat} {m : jm_M} (hJ : N = jN) (hp : p < 4) (hT : ST S w h) (hX : TX cn sg) (hG : GNa m p cn sg S w h) (hi : i < cn) (hs : 48 ≤ sg i ∧ sg i ≤ 55) : f_X12_loopOf N shM 1 (p : Int) (i : Int) m = some (if lkO S w h sg i < i then ((30 * p + lkO S w h sg i : Nat) : Int) else -6) := by
  subst hJ
  have hN := jN_huge
  have hcn := hX.1
  obtain ⟨g1, g2, g4⟩ := id hG
  have hl := ln_lt hs
  obtain ⟨l1, l2, l3⟩ := line_S hT.1 hl
  have el : jw (sg i - 48) = (lnO (sg i) : Int) := by rw [jw_eq (by omega) (by omega)]; unfold lnO; omega
  have key : ∀ (r j n : Nat), j + r = i → r < n → f_X12_loopOf_l28 jN shM n 1 ((30 * p + i : Nat) : Int) ((lnO (sg i) % S : Nat) : Int) ((30 * p + j : Nat) : Int) m = some (if fstP (kpO S w h sg i) r j < i then ((30 * p + fstP (kpO S w h sg i) r j : Nat) : Int) else -6) := by
    intro r
    induction r with
    | zero =>
      intro j n hj hn
      obtain ⟨n, rfl⟩ : ∃ n', n = n' + 1 := ⟨n - 1, by omega⟩
      have e : fstP (kpO S w h sg i) 0 j = j := rfl
      rw [e, if_neg (by omega)]
      unfold f_X12_loopOf_l28 f_X12_loopOf_b28
      rw [if_neg (by omega)]
    | succ r ih =>
      intro j n hj hn
      obtain ⟨n, rfl⟩ : ∃ n', n = n' + 1 := ⟨n - 1, by omega⟩
      have hjc : j < cn := by omega
      have e : fstP (kpO S w h sg i) (r + 1) j = if kpO S w h sg i j then j else fstP (kpO S w h sg i) r (j + 1) := rfl
      have nxt := ih (j + 1) n (by omega) (by omega)
      have hz := (hX.node hjc).2
      have ej : jw (((30 * p + j : Nat) : Int) + 1) = ((30 * p + (j + 1) : Nat) : Int) := by rw [jw_eq (by omega) (by omega)]; omega
      have no : kpO S w h sg i j = false → fstP (kpO S w h sg i) (r + 1) j = fstP (kpO S w h sg i) r (j + 1) := fun z => by rw [e, z, if_neg (by decide)]
      have yes : kpO S w h sg i j = true → fstP (kpO S w h sg i) (r + 1) j = j := fun z => by rw [e, z, if_pos rfl]
      unfold f_X12_loopOf_l28 f_X12_loopOf_b28 f_X12_loopOf_b84
      rw [if_pos (by omega), jrf_ok sM1, Option.bind_some, g1.t4, jra_ok sM5 (by omega) (by omega), Option.bind_some, Int.toNat_natCast, (g4 j hjc).1, sM_isLoop, Option.bind_some, ifb, ej]
      by_cases c : 98 ≤ sg j ∧ sg j ≤ 100
      · rw [if_pos c, jrf_ok sM1, Option.bind_some, g1.t5, jra_ok sM6 (by omega) (by omega), Option.bind_some, Int.toNat_natCast, (g4 j hjc).2, jw_eq (by omega) (by omega)]
        by_cases c2 : i < j + zs sg 4 j
        · obtain ⟨X, eX, hXX⟩ := sM_crowdOf (N := jN) (s := lnO (sg i) % S) (by omega) hp hT hX hG hjc
          have eb : f_X12_bits jN (X : Int) = some (cwO S h (lnO (sg i) % S) sg j : Int) := by rw [← hXX.cw]; exact sM_bits ⟨X, hXX.1⟩
          rw [if_pos (by omega), jck_ok sM1, Option.bind_some, eX, Option.bind_some, eb, Option.bind_some, Option.bind_some, sM_roomOf (by omega) g1 g2 hT l2, Option.bind_some]
          by_cases c3 : cwO S h (lnO (sg i) % S) sg j ≤ rmS S w h (lnO (sg i) % S)
          · rw [if_neg (by omega), yes (by unfold kpO; rw [decide_eq_true c, decide_eq_true c2, decide_eq_true c3]; rfl), if_pos (show j < i by omega)]
          · rw [if_pos (by omega), no (by unfold kpO; rw [decide_eq_false c3, Bool.and_false, Bool.and_false])]
            exact nxt
        · rw [if_neg (by omega), no (by unfold kpO; rw [decide_eq_false c2, Bool.false_and, Bool.and_false])]
          exact nxt
      · rw [if_neg c, no (by unfold kpO; rw [decide_eq_false c, Bool.false_and])]
        exact nxt
  unfold f_X12_loopOf
  rw [jrf_ok sM1, Option.bind_some, g1.t4, jw_eq (x := 30 * (p : Int)) (by omega) (by omega), jw_eq (x := 30 * (p : Int) + (i : Int)) (by omega) (by omega), show 30 * (p : Int) + (i : Int) = ((30 * p + i : Nat) : Int) by omega, jra_ok sM5 (by omega) (by omega), Option.bind_some, Int.toNat_natCast, (g4 i hi).1, jck_ok sM1, Option.bind_some, el, sM_setOf g1 g2 hT.1, Option.bind_some, show 30 * (p : Int) = ((30 * p + 0 : Nat) : Int) by omega]
  exact key i 0 jN (by omega) (by omega)
