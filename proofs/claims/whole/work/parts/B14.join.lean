theorem s_joinA {N a : Nat} {f g : AgT} {m : jm_M} (hN : 20 ≤ N) (hF : CF m) (ha : isR a) (h143 : a ≠ 143) (hA : RA m 143 f) (hB : RA m a g) : ∃ M, f_X0_join N shC 142 a m = some M ∧ RA M 143 (jAg f g) ∧ ∀ c, c ≠ 143 → ∀ j, M c j = m c j := by
  obtain ⟨M, n', e, q⟩ := loopN (fun n k m => f_X0_join_l2 N shC n 142 a k m) 8 (fun x M => (∀ k, k < 16 → M 143 k = ((if k < x ∨ (8 ≤ k ∧ k < 8 + x) then jAg f g k else f k : Nat) : Int)) ∧ ∀ c, c ≠ 143 → ∀ j, M c j = m c j) (fun n x M hx hI => by
    have cf : CF M := hF.row r143.c hI.2
    have h1 : M 143 x = (f x : Int) := by rw [hI.1 x (by omega), if_neg (by omega)]
    have h2 : M 143 (8 + x) = (f (8 + x) : Int) := by rw [hI.1 (8 + x) (by omega), if_neg (by omega)]
    have g1 : M a x = (g x : Int) := by rw [hI.2 a h143]; exact hB x (by omega)
    have g2 : M a (8 + x) = (g (8 + x) : Int) := by rw [hI.2 a h143]; exact hB (8 + x) (by omega)
    have j1 : jAg f g x = if f x < g x then g x else f x := if_pos (by omega)
    have j2 : jAg f g (8 + x) = if g (8 + x) < f (8 + x) then g (8 + x) else f (8 + x) := if_neg (by omega)
    have cf1 : CF (jm_up M 143 x (jAg f g x : Int)) := cf.row r143.c (fun c hc j => up_ne hc)
    refine ⟨jm_up (jm_up M 143 x (jAg f g x : Int)) 143 (8 + x) (jAg f g (8 + x) : Int), ?_, fun k hk => ?_, fun c hc j => (up_ne hc).trans ((up_ne hc).trans (hI.2 c hc j))⟩
    · show f_X0_join_b2 N shC (f_X0_join_l2 N shC n) 142 a (x : Int) M = _
      unfold f_X0_join_b2
      have e8 : jw (8 + (x : Int)) = ((8 + x : Nat) : Int) := by rw [jw_eq (by omega) (by omega)]; omega
      rw [if_pos (by omega), jrf_ok sC142, Option.bind_some, Option.bind_some, cf.t142_2, jra_ok r143.s (by omega) (by omega), Option.bind_some, jra_ok ha.s (by omega) (by omega), Option.bind_some, Int.toNat_natCast, h1, g1, max_ok, Option.bind_some, ← j1, jwa_ok r143.s (by omega) (by omega), Option.bind_some, Int.toNat_natCast, jrf_ok sC142, Option.bind_some, Option.bind_some, cf1.t142_2, e8, jra_ok r143.s (by omega) (by omega), Option.bind_some, jra_ok ha.s (by omega) (by omega), Option.bind_some, Int.toNat_natCast, up_nk (by omega), h2, up_ne h143, g2, min_ok, Option.bind_some, ← j2, jwa_ok r143.s (by omega) (by omega), Option.bind_some, Int.toNat_natCast, jw_succ (by omega)]
    · by_cases c : k = 8 + x
      · rw [c, up_eq, if_pos (by omega)]
      · rw [up_nk c]
        by_cases c' : k = x
        · rw [c', up_eq, if_pos (by omega)]
        · rw [up_nk c', hI.1 k hk]
          by_cases c2 : k < x ∨ (8 ≤ k ∧ k < 8 + x)
          · rw [if_pos c2, if_pos (by omega)]
          · rw [if_neg c2, if_neg (by omega)]) 0 N m (by omega) (by omega) ⟨fun k hk => by rw [if_neg (by omega)]; exact hA k hk, fun _ _ _ => rfl⟩
  refine ⟨M, ?_, fun k hk => by rw [q.1 k hk, if_pos (by omega)], q.2⟩
  have e : f_X0_join_l2 N shC N 142 a 0 m = f_X0_join_l2 N shC (n' + 1) 142 a ((8 : Nat) : Int) M := e
  show f_X0_join_l2 N shC N 142 a 0 m = _
  rw [e]
  show f_X0_join_b2 N shC (f_X0_join_l2 N shC n') 142 a ((8 : Nat) : Int) M = _
  unfold f_X0_join_b2
  rw [if_neg (by omega)]
