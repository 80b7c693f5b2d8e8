theorem s_within2 {m : jm_M} {t cn : Nat} {sg : Nat → Int} (hF : CF m) (ht : t ∈ tL) (hC : CT m t cn sg) (hcn : cn ≤ 30) {j : Nat} (hj : j < cn) : f_X10_linesWithin shC t (j : Int) m = some (lr sg j (zs sg 4 j) : Int) := by
  obtain ⟨t1, t2, t3, t4, t5, t6, t7⟩ := tC hF t ht
  unfold f_X10_linesWithin
  rw [if_neg (by omega), if_pos (by omega), jrf_ok t1, Option.bind_some, t7, Int.toNat_natCast, jra_ok t4 (by omega) (by omega), Option.bind_some, Int.toNat_natCast, hC.2.2.2.2.2.1 j hj]
theorem s_times2 {m : jm_M} (hF : CF m) {t cn : Nat} {sg : Nat → Int} (ht : t ∈ tL) (hC : CT m t cn sg) (hcn : cn ≤ 30) {i : Nat} (hi : i < cn) : f_X10_timesAt shC t (i : Int) m = some (if 98 ≤ sg i ∧ sg i ≤ 100 then (tmO (sg i) : Int) else 0) := by
  by_cases c : 98 ≤ sg i ∧ sg i ≤ 100
  · rw [if_pos c]; exact s_times hF ht hC hcn hi c
  · rw [if_neg c]
    unfold f_X10_timesAt
    rw [jck_ok (tC hF t ht).1, Option.bind_some, s_sg hF ht hC hcn hi, Option.bind_some]
    by_cases c2 : sg i < 98
    · rw [if_pos c2]
    · rw [if_neg c2, if_pos (by omega)]
theorem s_around {m : jm_M} (hF : CF m) {t cn : Nat} {sg : Nat → Int} (ht : t ∈ tL) (hX : TX cn sg) (hC : CT m t cn sg) {i j : Nat} (hj : j < i) (hi : i < cn) : f_X10_isLoopAround shC t (j : Int) (i : Int) m = some (if (98 ≤ sg j ∧ sg j ≤ 100) ∧ i < j + zs sg 4 j then 1 else 0) := by
  have hcn := hX.1
  have hz := (hX.node (show j < cn by omega)).2
  unfold f_X10_isLoopAround
  rw [jck_ok (tC hF t ht).1, Option.bind_some, s_times2 hF ht hC hcn (by omega), Option.bind_some]
  by_cases c : 98 ≤ sg j ∧ sg j ≤ 100
  · have htm : 0 < (tmO (sg j) : Int) := by unfold tmO; omega
    rw [if_pos c, if_pos htm, if_pos (by omega), Option.bind_some, s_sizeAt hF ht, if_pos (by omega), Option.bind_some, Int.toNat_natCast, hC.2.2.2.1 j (by omega), jw_eq (by omega) (by omega)]
    by_cases c2 : i < j + zs sg 4 j
    · rw [if_pos (by omega), if_pos ⟨c, c2⟩]
    · rw [if_neg (by omega), if_neg (fun z => c2 z.2)]
  · rw [if_neg c, if_neg (by decide), if_neg (fun z => c z.1)]
theorem s_cw {S h s r X : Nat} {sg : Nat → Int} {j : Nat} (hr : r < 256) (hrb : ∀ k, k < 8 → hb r k = (decide (k % S = s) && !hb h k)) (hX : X = lr sg j (zs sg 4 j)) : f_J6_bitCount_0f7a4 (jand (X : Int) (r : Int)) = some (cwO S h s sg j : Int) := by
  subst hX
  have h1 := lr_lt sg j (zs sg 4 j)
  rw [jand_nat (by omega) (by omega)]
  have h2 : lr sg j (zs sg 4 j) &&& r < 256 := Nat.lt_of_le_of_lt Nat.and_le_right hr
  have e : cnt (fun l => hb (lr sg j (zs sg 4 j) &&& r) l) 8 = cwO S h s sg j := cnt_congr (fun l hl => by
    show hb (lr sg j (zs sg 4 j) &&& r) l = _
    rw [show hb (lr sg j (zs sg 4 j) &&& r) l = (hb (lr sg j (zs sg 4 j)) l && hb r l) from Nat.testBit_and _ _ _, hrb l hl]
    rfl)
  rw [← e]
  exact bitc ⟨_, h2⟩
theorem s_keeps {N t cn : Nat} {sg : Nat → Int} {S w h i : Nat} {m : jm_M} (hN : 100 ≤ N) (ht : t ∈ tL) (hF : CF m) (hX : TX cn sg) (hC : CT m t cn sg) (hT : ST S w h) (hS : GS m S w h) (h0 : m 187 0 = (t : Int)) (hi : i < cn) (hs : 48 ≤ sg i ∧ sg i ≤ 55) : f_X2_loopThatKeeps N shC 187 (i : Int) m = some (if lkO S w h sg i < i then (lkO S w h sg i : Int) else -1) := by
  have hcn := hX.1
  have et : (m 187 0).toNat = t := by rw [h0]; exact Int.toNat_natCast _
  have t1 := (tC hF t ht).1
  have hl := ln_lt hs
  obtain ⟨r, er, hr, hrb⟩ := s_freeMates hF hS hT hl
  have key : ∀ (k j n : Nat), j + k = i → k < n → f_X2_loopThatKeeps_l35 N shC n 187 (i : Int) (r : Int) (rmS S w h (lnO (sg i) % S) : Int) (j : Int) m = some (if fstP (kpO S w h sg i) k j < i then (fstP (kpO S w h sg i) k j : Int) else -1) := by
    intro k
    induction k with
    | zero =>
      intro j n hj hn
      obtain ⟨n, rfl⟩ : ∃ n', n = n' + 1 := ⟨n - 1, by omega⟩
      have e : fstP (kpO S w h sg i) 0 j = j := rfl
      rw [e, if_neg (by omega)]
      unfold f_X2_loopThatKeeps_l35 f_X2_loopThatKeeps_b35
      rw [if_neg (by omega)]
    | succ k ih =>
      intro j n hj hn
      obtain ⟨n, rfl⟩ : ∃ n', n = n' + 1 := ⟨n - 1, by omega⟩
      have e : fstP (kpO S w h sg i) (k + 1) j = if kpO S w h sg i j then j else fstP (kpO S w h sg i) k (j + 1) := rfl
      have nxt := ih (j + 1) n (by omega) (by omega)
      have no : kpO S w h sg i j = false → fstP (kpO S w h sg i) (k + 1) j = fstP (kpO S w h sg i) k (j + 1) := fun z => by rw [e, z, if_neg (by decide)]
      have yes : kpO S w h sg i j = true → fstP (kpO S w h sg i) (k + 1) j = j := fun z => by rw [e, z, if_pos rfl]
      unfold f_X2_loopThatKeeps_l35 f_X2_loopThatKeeps_b35 f_X2_loopThatKeeps_b75
      rw [if_pos (by omega), jrf_ok sC187, Option.bind_some, et, jck_ok t1, Option.bind_some, s_around hF ht hX hC (by omega) hi, Option.bind_some, ifb, jw_succ (by omega)]
      by_cases c : (98 ≤ sg j ∧ sg j ≤ 100) ∧ i < j + zs sg 4 j
      · rw [if_pos c, Option.bind_some, et, jck_ok t1, Option.bind_some, s_within2 hF ht hC hcn (by omega), Option.bind_some, s_cw hr hrb rfl, Option.bind_some]
        by_cases c3 : cwO S h (lnO (sg i) % S) sg j ≤ rmS S w h (lnO (sg i) % S)
        · rw [if_neg (by omega), yes (by unfold kpO; rw [decide_eq_true c.1, decide_eq_true c.2, decide_eq_true c3]; rfl), if_pos (show j < i by omega)]
        · rw [if_pos (by omega), no (by unfold kpO; rw [decide_eq_false c3, Bool.and_false, Bool.and_false])]
          exact nxt
      · rw [if_neg c, no (by
          unfold kpO
          by_cases c1 : 98 ≤ sg j ∧ sg j ≤ 100
          · rw [decide_eq_false (fun z => c ⟨c1, z⟩), Bool.false_and, Bool.and_false]
          · rw [decide_eq_false c1, Bool.false_and])]
        exact nxt
  have ln := s_line hF ht hC hcn hi hs
  unfold f_X2_loopThatKeeps
  rw [jrf_ok sC187, Option.bind_some, jrf_ok sC187, Option.bind_some, et, hF.t187_1, jck_ok t1, Option.bind_some, ln, Option.bind_some, jck_ok sC2, Option.bind_some, er, Option.bind_some, Option.bind_some, Option.bind_some, et, hF.t187_1, jck_ok t1, Option.bind_some, ln, Option.bind_some, jck_ok sC2, Option.bind_some, s_roomFor hF hS hT hl, Option.bind_some]
  exact key i 0 N (by omega) (by omega)
