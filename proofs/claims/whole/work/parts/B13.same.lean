theorem s_isSameL {N a b : Nat} {f g : AgT} {m : jm_M} {z : Int} (ha : isR a) (hb : isR b) (hA : RA m a f) (hB : RA m b g) (h1 : (∀ j, j < 16 → f j = g j) → z = 1) (h0 : ∀ j, j < 16 → f j ≠ g j → z = 0) : ∀ (r k n : Nat), k + r = 16 → r < n → (∀ j, j < k → f j = g j) → f_X0_isSame_l2 N shC n a b (k : Int) m = some z := by
  intro r
  induction r with
  | zero =>
    intro k n hk hn hI
    obtain ⟨n, rfl⟩ : ∃ n', n = n' + 1 := ⟨n - 1, by omega⟩
    have e := h1 (fun j hj => hI j (by omega))
    subst e
    unfold f_X0_isSame_l2 f_X0_isSame_b2
    rw [if_neg (by omega)]
  | succ r ih =>
    intro k n hk hn hI
    obtain ⟨n, rfl⟩ : ∃ n', n = n' + 1 := ⟨n - 1, by omega⟩
    have ga := hA.get ha.s (show k < 16 by omega)
    have gb := hB.get hb.s (show k < 16 by omega)
    unfold f_X0_isSame_l2 f_X0_isSame_b2
    rw [if_pos (by omega), ga, Option.bind_some, gb, Option.bind_some, jw_succ (by omega)]
    by_cases c : f k = g k
    · rw [if_pos (by omega)]
      refine ih (k + 1) n (by omega) (by omega) (fun j hj => ?_)
      by_cases q : j = k
      · rw [q]; exact c
      · exact hI j (by omega)
    · rw [if_neg (by omega), h0 k (by omega) c]
theorem s_isSameA {N a b : Nat} {f g : AgT} {m : jm_M} (hN : 20 ≤ N) (ha : isR a) (hb : isR b) (hA : RA m a f) (hB : RA m b g) : f_X0_isSame N shC a b m = some (if sA f g = true then 1 else 0) := by
  unfold f_X0_isSame
  exact s_isSameL ha hb hA hB (fun q => if_pos (sA_iff.mpr q)) (fun j hj q => if_neg (fun y => q (sA_iff.mp y j hj))) 16 0 N (Nat.zero_add 16) (by omega) (fun j hj => absurd hj (Nat.not_lt_zero j))
theorem max_ok (x y : Nat) : f_J9_max_7cf53 (x : Int) (y : Int) = some ((if x < y then y else x : Nat) : Int) := by
  unfold f_J9_max_7cf53
  by_cases c : x < y
  · rw [if_pos (by omega), if_pos c]
  · rw [if_neg (by omega), if_neg c]
theorem min_ok (x y : Nat) : f_J9_min_7cf53 (x : Int) (y : Int) = some ((if y < x then y else x : Nat) : Int) := by
  unfold f_J9_min_7cf53
  by_cases c : y < x
  · rw [if_pos (by omega), if_pos c]
  · rw [if_neg (by omega), if_neg c]
