/-! lines that are fetched once in a loop; how often a node is come to -/
def oc1 (S w h : Nat) (sg : Nat → Int) (j k : Nat) : Bool := decide (48 ≤ sg k ∧ sg k ≤ 55) && (decide (soO S w h sg k = 2) && decide (lkO S w h sg k = j))
def ocO (S w h : Nat) (sg : Nat → Int) (j : Nat) : Nat → Nat → Nat → Nat
  | 0 => fun _ acc => acc
  | r + 1 => fun k acc => ocO S w h sg j r (k + 1) (if oc1 S w h sg j k = true then acc ||| 2 ^ lnO (sg k) else acc)
theorem ocO_s {S w h : Nat} {sg : Nat → Int} {j r k acc : Nat} : ocO S w h sg j (r + 1) k acc = ocO S w h sg j r (k + 1) (if oc1 S w h sg j k = true then acc ||| 2 ^ lnO (sg k) else acc) := rfl
theorem fstP_hit (P : Nat → Bool) : ∀ r j, fstP P r j < j + r → P (fstP P r j) = true := by
  intro r
  induction r with
  | zero =>
    intro j h
    have : fstP P 0 j = j := rfl
    omega
  | succ r ih =>
    intro j h
    have e : fstP P (r + 1) j = if P j then j else fstP P r (j + 1) := rfl
    by_cases c : P j = true
    · rw [e, if_pos c]; exact c
    · rw [e, if_neg c] at h
      rw [e, if_neg c]
      exact ih (j + 1) (by omega)
theorem so_2 {S w h : Nat} {sg : Nat → Int} {i : Nat} (e : soO S w h sg i = 2) : lkO S w h sg i < i := by
  unfold soO at e
  by_cases c1 : hb h (lnO (sg i)) = true
  · rw [if_pos c1] at e; omega
  · rw [if_neg c1] at e
    by_cases c2 : agO S w h sg i (lnO (sg i)) < rmS S w h (lnO (sg i) % S)
    · rw [if_pos c2] at e; omega
    · rw [if_neg c2] at e
      by_cases c3 : agO S w h sg i (8 + lnO (sg i)) = rmS S w h (lnO (sg i) % S)
      · rw [if_pos c3] at e; omega
      · rw [if_neg c3] at e
        by_cases c4 : lkO S w h sg i < i
        · exact c4
        · rw [if_neg c4] at e; omega
theorem oc1_no {S w h : Nat} {sg : Nat → Int} {j k : Nat} (hh : ¬ ((98 ≤ sg j ∧ sg j ≤ 100) ∧ k < j + zs sg 4 j)) : oc1 S w h sg j k = false := by
  cases e : oc1 S w h sg j k with
  | false => rfl
  | true =>
    exfalso
    apply hh
    unfold oc1 at e
    rw [Bool.and_eq_true, Bool.and_eq_true] at e
    have e2 := of_decide_eq_true e.2.1
    have e3 := of_decide_eq_true e.2.2
    have hlt := so_2 e2
    have hk : kpO S w h sg k (lkO S w h sg k) = true := fstP_hit _ k 0 (by unfold lkO at hlt; omega)
    rw [e3] at hk
    unfold kpO at hk
    rw [Bool.and_eq_true, Bool.and_eq_true] at hk
    exact ⟨of_decide_eq_true hk.1, of_decide_eq_true hk.2.1⟩
theorem ocO_none {S w h : Nat} {sg : Nat → Int} {j : Nat} : ∀ r k acc, (∀ i, k ≤ i → i < k + r → oc1 S w h sg j i = false) → ocO S w h sg j r k acc = acc := by
  intro r
  induction r with
  | zero => intro k acc _; rfl
  | succ r ih =>
    intro k acc hh
    rw [ocO_s, hh k (Nat.le_refl _) (by omega), if_neg (by decide)]
    exact ih (k + 1) acc (fun i h1 h2 => hh i (by omega) (by omega))
theorem ocO_add {S w h : Nat} {sg : Nat → Int} {j : Nat} : ∀ a b k acc, ocO S w h sg j (a + b) k acc = ocO S w h sg j b (k + a) (ocO S w h sg j a k acc) := by
  intro a
  induction a with
  | zero => intro b k acc; rw [Nat.zero_add]; rfl
  | succ a ih =>
    intro b k acc
    rw [show a + 1 + b = (a + b) + 1 by omega, ocO_s, ocO_s, ih b, show k + 1 + a = k + (a + 1) by omega]
theorem ocO_lt {S w h : Nat} {sg : Nat → Int} {j : Nat} : ∀ r k acc, acc < 256 → ocO S w h sg j r k acc < 256 := by
  intro r
  induction r with
  | zero => intro k acc h; exact h
  | succ r ih =>
    intro k acc hh
    rw [ocO_s]
    apply ih
    by_cases c : oc1 S w h sg j k = true
    · rw [if_pos c]
      unfold oc1 at c
      rw [Bool.and_eq_true] at c
      have hl := ln_lt (of_decide_eq_true c.1)
      exact Nat.or_lt_two_pow (n := 8) hh (Nat.pow_lt_pow_right (by decide) hl)
    · rw [if_neg c]; exact hh
theorem s_sortAt {m : jm_M} (hF : CF m) {cn : Nat} {sg : Nat → Int} {S w h : Nat} (hcn : cn ≤ 30) (hSO : SO m cn sg S w h) {k : Nat} (hk : k < cn) : f_X2_sortAt shC 187 (k : Int) m = some ((if 48 ≤ sg k ∧ sg k ≤ 55 then soO S w h sg k else 0 : Nat) : Int) := by
  unfold f_X2_sortAt
  rw [if_neg (by omega), jrf_ok sC187, Option.bind_some, hF.t187_3, jlen_ok sC188 (by decide) (by decide) (by decide), Option.bind_some, if_pos (by omega), Option.bind_some, hF.t187_3, jra_ok sC188 (by omega) (by omega), Option.bind_some, Int.toNat_natCast, hSO k hk]
theorem or_ln {acc : Nat} {s : Int} (hs : 48 ≤ s ∧ s ≤ 55) (ha : acc < 256) : jor (acc : Int) (jshl 1 (lnO s : Int)) = ((acc ||| 2 ^ lnO s : Nat) : Int) := by
  have hl := ln_lt hs
  rw [jshl_one ⟨lnO s, hl⟩]
  have : 2 ^ lnO s < 2 ^ 8 := Nat.pow_lt_pow_right (by decide) hl
  show jor (acc : Int) ((2 ^ lnO s : Nat) : Int) = _
  exact jor_nat (by omega) (by omega)
theorem s_once {N t cn : Nat} {sg : Nat → Int} {S w h j : Nat} {m : jm_M} (hN : 100 ≤ N) (ht : t ∈ tL) (hF : CF m) (hX : TX cn sg) (hC : CT m t cn sg) (hT : ST S w h) (hS : GS m S w h) (h0 : m 187 0 = (t : Int)) (hSO : SO m cn sg S w h) (hj : j < cn) : f_X2_onceLinesOf N shC 187 (j : Int) m = some (ocO S w h sg j (zs sg 4 j - 1) (j + 1) 0 : Int) := by
  have hcn := hX.1
  have et : (m 187 0).toNat = t := by rw [h0]; exact Int.toNat_natCast _
  have t1 := (tC hF t ht).1
  have hz := (hX.node hj).2
  have hz1 := zs_pos sg 4 j
  have key : ∀ (r k acc n : Nat), k + r = j + zs sg 4 j → r < n → acc < 256 → f_X2_onceLinesOf_l18 N shC n 187 (j : Int) (acc : Int) ((j + zs sg 4 j : Nat) : Int) (k : Int) m = some (ocO S w h sg j r k acc : Int) := by
    intro r
    induction r with
    | zero =>
      intro k acc n hk hn ha
      obtain ⟨n, rfl⟩ : ∃ n', n = n' + 1 := ⟨n - 1, by omega⟩
      unfold f_X2_onceLinesOf_l18 f_X2_onceLinesOf_b18
      rw [if_neg (by omega)]
      rfl
    | succ r ih =>
      intro k acc n hk hn ha
      obtain ⟨n, rfl⟩ : ∃ n', n = n' + 1 := ⟨n - 1, by omega⟩
      have hkc : k < cn := by omega
      have no : oc1 S w h sg j k = false → f_X2_onceLinesOf_l18 N shC n 187 (j : Int) (acc : Int) ((j + zs sg 4 j : Nat) : Int) ((k + 1 : Nat) : Int) m = some (ocO S w h sg j (r + 1) k acc : Int) := fun z => by
        rw [ocO_s, z, if_neg (by decide)]; exact ih (k + 1) acc n (by omega) (by omega) ha
      unfold f_X2_onceLinesOf_l18 f_X2_onceLinesOf_b18 f_X2_onceLinesOf_b58
      rw [if_pos (by omega), jck_ok sC187, Option.bind_some, s_sortAt hF hcn hSO hkc, Option.bind_some, jw_succ (by omega)]
      by_cases c : 48 ≤ sg k ∧ sg k ≤ 55
      · rw [if_pos c]
        by_cases c2 : soO S w h sg k = 2
        · rw [if_pos (by omega), Option.bind_some, s_keeps hN ht hF hX hC hT hS h0 hkc c, Option.bind_some, if_pos (so_2 c2)]
          by_cases c3 : lkO S w h sg k = j
          · rw [if_pos (by omega), jrf_ok sC187, Option.bind_some, et, jck_ok t1, Option.bind_some, s_line hF ht hC hcn hkc c, Option.bind_some, or_ln c ha, ocO_s, if_pos (by unfold oc1; rw [decide_eq_true c, decide_eq_true c2, decide_eq_true c3]; rfl)]
            exact ih (k + 1) _ n (by omega) (by omega) (Nat.or_lt_two_pow (n := 8) ha (Nat.pow_lt_pow_right (by decide) (ln_lt c)))
          · rw [if_neg (by omega)]
            exact no (by unfold oc1; rw [decide_eq_false c3, Bool.and_false, Bool.and_false])
        · rw [if_neg (by omega)]
          exact no (by unfold oc1; rw [decide_eq_false c2, Bool.false_and, Bool.and_false])
      · rw [if_neg c, if_neg (by decide)]
        exact no (by unfold oc1; rw [decide_eq_false c, Bool.false_and])
  unfold f_X2_onceLinesOf
  rw [jrf_ok sC187, Option.bind_some, et, jck_ok t1, Option.bind_some, s_sizeAt hF ht, if_pos (by omega), Option.bind_some, Int.toNat_natCast, hC.2.2.2.1 j hj, jw_eq (by omega) (by omega), jw_succ (by omega)]
  exact key (zs sg 4 j - 1) (j + 1) 0 N (by omega) (by omega) (by decide)
theorem sM_once {p cn : Nat} {sg : Nat → Int} {S w h ms j : Nat} {m : jm_M} (hp : p < 4) (hT : ST S w h) (hX : TX cn sg) (hG : GBo m p cn sg S w h ms) (hf : ∀ k, k < cn → f_X12_isFetch shM 1 (p : Int) (k : Int) m = some (if 48 ≤ sg k ∧ sg k ≤ 55 then 1 else 0)) (hj : j < cn) : f_X12_onceIn jN shM 1 (p : Int) (j : Int) m = some (ocO S w h sg j (zs sg 4 j - 1) (j + 1) 0 : Int) := by
  have hJ := jN_huge
  have hcn := hX.1
  have hz := (hX.node hj).2
  have hz1 := zs_pos sg 4 j
  obtain ⟨hGN, am, k2, k4⟩ := id hG
  obtain ⟨g1, g2, g4⟩ := id hGN
  have key : ∀ (r k acc n : Nat), k + r = cn → r < n → acc < 256 → f_X12_onceIn_l7 jN shM n 1 (p : Int) (j : Int) (acc : Int) (k : Int) m = some (ocO S w h sg j r k acc : Int) := by
    intro r
    induction r with
    | zero =>
      intro k acc n hk hn ha
      obtain ⟨n, rfl⟩ : ∃ n', n = n' + 1 := ⟨n - 1, by omega⟩
      unfold f_X12_onceIn_l7 f_X12_onceIn_b7
      rw [jrf_ok sM1, Option.bind_some, g1.t3, jra_ok sM4 (by omega) (by omega), Option.bind_some, Int.toNat_natCast, k4, if_neg (by omega)]
      rfl
    | succ r ih =>
      intro k acc n hk hn ha
      obtain ⟨n, rfl⟩ : ∃ n', n = n' + 1 := ⟨n - 1, by omega⟩
      have hkc : k < cn := by omega
      have no : oc1 S w h sg j k = false → f_X12_onceIn_l7 jN shM n 1 (p : Int) (j : Int) (acc : Int) ((k + 1 : Nat) : Int) m = some (ocO S w h sg j (r + 1) k acc : Int) := fun z => by
        rw [ocO_s, z, if_neg (by decide)]; exact ih (k + 1) acc n (by omega) (by omega) ha
      have x1 : ∀ y : Nat, y < cn → jw (jw (30 * (p : Int)) + (y : Int)) = ((30 * p + y : Nat) : Int) := fun y hy => by
        rw [jw_eq (x := 30 * (p : Int)) (by omega) (by omega), jw_eq (by omega) (by omega)]; omega
      unfold f_X12_onceIn_l7 f_X12_onceIn_b7 f_X12_onceIn_b75
      rw [jrf_ok sM1, Option.bind_some, g1.t3, jra_ok sM4 (by omega) (by omega), Option.bind_some, Int.toNat_natCast, k4, if_pos (by omega), jck_ok sM1, Option.bind_some, hf k hkc, Option.bind_some, ifb, jw_succ (by omega)]
      by_cases c : 48 ≤ sg k ∧ sg k ≤ 55
      · rw [if_pos c, Option.bind_some, sM_sortOf hp hT hX hGN am hkc c, Option.bind_some]
        by_cases c2 : soO S w h sg k = 2
        · rw [if_pos (by omega), Option.bind_some, sM_loopOf rfl hp hT hX hGN hkc c, Option.bind_some, if_pos (so_2 c2), x1 j hj]
          by_cases c3 : lkO S w h sg k = j
          · have el : jw (sg k - 48) = (lnO (sg k) : Int) := by rw [jw_eq (by omega) (by omega)]; unfold lnO; omega
            rw [if_pos (by omega), jrf_ok sM1, Option.bind_some, g1.t4, x1 k hkc, jra_ok sM5 (by omega) (by omega), Option.bind_some, Int.toNat_natCast, (g4 k hkc).1, el, or_ln c ha, ocO_s, if_pos (by unfold oc1; rw [decide_eq_true c, decide_eq_true c2, decide_eq_true c3]; rfl)]
            exact ih (k + 1) _ n (by omega) (by omega) (Nat.or_lt_two_pow (n := 8) ha (Nat.pow_lt_pow_right (by decide) (ln_lt c)))
          · rw [if_neg (by omega)]
            exact no (by unfold oc1; rw [decide_eq_false c3, Bool.and_false, Bool.and_false])
        · rw [if_neg (by omega)]
          exact no (by unfold oc1; rw [decide_eq_false c2, Bool.false_and, Bool.and_false])
      · rw [if_neg c]
        exact no (by unfold oc1; rw [decide_eq_false c, Bool.false_and])
  unfold f_X12_onceIn
  rw [jw_succ (by omega)]
  have := key (cn - (j + 1)) (j + 1) 0 jN (by omega) (by omega) (by decide)
  rw [show cn - (j + 1) = (zs sg 4 j - 1) + (cn - (j + zs sg 4 j)) by omega, ocO_add, ocO_none (cn - (j + zs sg 4 j)) _ _ (fun i h1 h2 => oc1_no (fun z => by omega))] at this
  exact this
