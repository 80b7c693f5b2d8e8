theorem sM_joinL {N f : Nat} {a b : AgT} {m : jm_M} {z : Int} (hF : MF m) (hf : f < 6) (hB : KA m f b) (h0 : (∀ j, j < 16 → jAg a b j = b j) → z = 0) (h1 : ∀ j, j < 16 → jAg a b j ≠ b j → z = 1) : ∀ (r x n : Nat) (y : Int) (M : jm_M), x + r = 16 → r < n → ((y = 0 ∧ ∀ j, j < x → jAg a b j = b j) ∨ (y = 1 ∧ ∃ j, j < x ∧ jAg a b j ≠ b j)) → (∀ k, k < 16 → M 18 k = ((if k < x then jAg a b k else a k : Nat) : Int)) → (∀ c, c ≠ 18 → ∀ j, M c j = m c j) → ∃ M', f_X12_joinAges_l4 N shM n 1 (f : Int) y (x : Int) M = some (z, M') ∧ RA M' 18 (jAg a b) ∧ ∀ c, c ≠ 18 → ∀ j, M' c j = m c j := by
  intro r
  induction r with
  | zero =>
    intro x n y M hx hn hy hM hs
    obtain ⟨n, rfl⟩ : ∃ n', n = n' + 1 := ⟨n - 1, by omega⟩
    have hyz : jzb y = some z := by
      rcases hy with ⟨rfl, q⟩ | ⟨rfl, j, q1, q2⟩
      · rw [h0 (fun j hj => q j (by omega))]; rfl
      · rw [h1 j (by omega) q2]; rfl
    refine ⟨M, ?_, fun k hk => by rw [hM k hk, if_pos (by omega)], hs⟩
    show f_X12_joinAges_b4 N shM (f_X12_joinAges_l4 N shM n) 1 (f : Int) y (x : Int) M = _
    unfold f_X12_joinAges_b4
    rw [if_neg (by omega), hyz, Option.bind_some]
  | succ r ih =>
    intro x n y M hx hn hy hM hs
    obtain ⟨n, rfl⟩ : ∃ n', n = n' + 1 := ⟨n - 1, by omega⟩
    have mf : MF M := hF.row rM_ag.1 hs
    have k1 : M 18 x = (a x : Int) := by rw [hM x (by omega), if_neg (by omega)]
    have k2 : M 19 (16 * f + x) = (b x : Int) := by rw [hs 19 (by decide)]; exact hB x (by omega)
    have mf1 : MF (jm_up M 18 x (jAg a b x : Int)) := mf.upr rM_ag.1
    have nxt : ∀ y' : Int, ((y' = 0 ∧ ∀ j, j < x + 1 → jAg a b j = b j) ∨ (y' = 1 ∧ ∃ j, j < x + 1 ∧ jAg a b j ≠ b j)) → ∃ M', f_X12_joinAges_l4 N shM n 1 (f : Int) y' ((x + 1 : Nat) : Int) (jm_up M 18 x (jAg a b x : Int)) = some (z, M') ∧ RA M' 18 (jAg a b) ∧ ∀ c, c ≠ 18 → ∀ j, M' c j = m c j := fun y' hy' => ih (x + 1) n y' _ (by omega) (by omega) hy' (fun k hk => by
      by_cases c : k = x
      · rw [c, up_eq, if_pos (by omega)]
      · rw [up_nk c, hM k hk]
        by_cases c2 : k < x
        · rw [if_pos c2, if_pos (by omega)]
        · rw [if_neg c2, if_neg (by omega)]) (fun c hc j => (up_ne hc).trans (hs c hc j))
    have h87 : ∀ s2 : Int, s2 = (jAg a b x : Int) → ∃ M', f_X12_joinAges_b87 N shM (f_X12_joinAges_l4 N shM n) 1 (f : Int) y (x : Int) (b x : Int) 18 (x : Int) s2 M = some (z, M') ∧ RA M' 18 (jAg a b) ∧ ∀ c, c ≠ 18 → ∀ j, M' c j = m c j := by
      intro s2 hs2
      rw [hs2]
      unfold f_X12_joinAges_b87 f_X12_joinAges_b103 f_X12_joinAges_b108
      rw [jwa_ok sM18 (by omega) (by omega), Option.bind_some, Int.toNat_natCast, jw_succ (by omega)]
      rcases hy with ⟨rfl, q⟩ | ⟨rfl, j, q1, q2⟩
      · rw [if_pos rfl, jrf_ok sM1, Option.bind_some, mf1.t27, jra_ok sM18 (by omega) (by omega), Option.bind_some, Int.toNat_natCast, up_eq]
        by_cases c : jAg a b x = b x
        · rw [if_pos (by omega)]
          exact nxt 0 (Or.inl ⟨rfl, fun j hj => by
            by_cases d : j = x
            · rw [d]; exact c
            · exact q j (by omega)⟩)
        · rw [if_neg (by omega)]
          exact nxt 1 (Or.inr ⟨rfl, x, by omega, c⟩)
      · rw [if_neg (by decide)]
        exact nxt 1 (Or.inr ⟨rfl, j, by omega, q2⟩)
    show ∃ M', f_X12_joinAges_b4 N shM (f_X12_joinAges_l4 N shM n) 1 (f : Int) y (x : Int) M = some (z, M') ∧ _
    unfold f_X12_joinAges_b4 f_X12_joinAges_b64
    rw [if_pos (by omega), jrf_ok sM1, Option.bind_some, mf.t28, jw16 (by omega) (by omega), jra_ok sM19 (by omega) (by omega), Option.bind_some, Int.toNat_natCast, k2]
    by_cases c : x < 8
    · have ej : jAg a b x = if a x < b x then b x else a x := if_pos c
      rw [if_pos (by omega), jrf_ok sM1, Option.bind_some, mf.t27, jra_ok sM18 (by omega) (by omega), Option.bind_some, Int.toNat_natCast, k1]
      by_cases d : a x < b x
      · rw [if_pos (by omega), Option.bind_some, if_neg (by decide), mf.t27]
        exact h87 _ (by rw [ej, if_pos d])
      · rw [if_neg (by omega), Option.bind_some, if_pos rfl, mf.t27, Option.bind_some, mf.t27, jra_ok sM18 (by omega) (by omega), Option.bind_some, Int.toNat_natCast, k1]
        exact h87 _ (by rw [ej, if_neg d])
    · have ej : jAg a b x = if b x < a x then b x else a x := if_neg c
      rw [if_neg (by omega), jrf_ok sM1, Option.bind_some, mf.t27, jra_ok sM18 (by omega) (by omega), Option.bind_some, Int.toNat_natCast, k1]
      by_cases d : b x < a x
      · rw [if_pos (by omega), Option.bind_some, if_neg (by decide), mf.t27]
        exact h87 _ (by rw [ej, if_pos d])
      · rw [if_neg (by omega), Option.bind_some, if_pos rfl, mf.t27, Option.bind_some, mf.t27, jra_ok sM18 (by omega) (by omega), Option.bind_some, Int.toNat_natCast, k1]
        exact h87 _ (by rw [ej, if_neg d])
theorem sM_joinAges {N f : Nat} {a b : AgT} {m : jm_M} (hN : 20 ≤ N) (hF : MF m) (hf : f < 6) (hA : RA m 18 a) (hB : KA m f b) : ∃ M, f_X12_joinAges N shM 1 (f : Int) m = some ((if sA (jAg a b) b = true then 0 else 1), M) ∧ RA M 18 (jAg a b) ∧ ∀ c, c ≠ 18 → ∀ j, M c j = m c j := by
  unfold f_X12_joinAges
  exact sM_joinL hF hf hB (fun q => if_pos (sA_iff.mpr q)) (fun j hj q => if_neg (fun y => q (sA_iff.mp y j hj))) 16 0 N 0 m (Nat.zero_add 16) (by omega) (Or.inl ⟨rfl, fun j hj => absurd hj (Nat.not_lt_zero j)⟩) (fun k hk => by rw [if_neg (Nat.not_lt_zero k)]; exact hA k hk) (fun _ _ _ => rfl)
