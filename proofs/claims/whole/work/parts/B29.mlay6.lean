theorem stA_4 : stA 4 = 58967640 := rfl
theorem jN_huge : 100000000 ≤ jN := by unfold jN; omega
theorem sM_layAges {N p cn : Nat} {sg : Nat → Int} {S w h : Nat} {m : jm_M} (hN : 100000000 ≤ N) (hp : p < 4) (hT : ST S w h) (hX : TX cn sg) (hG : GNa m p cn sg S w h) : ∃ M, f_X12_layAges N shM 1 (p : Int) m = some M ∧ MF M ∧ AM M (pa S w h sg 4 0 (inA S w h, fun _ => none)) ∧ FrG m M 0 := by
  obtain ⟨M, n', e, q⟩ := loopN (fun n k m => f_X12_layAges_l2 N shM n 1 (p : Int) k m) 8 (fun x M => (∀ k, k < 16 → (k < x ∨ (8 ≤ k ∧ k < 8 + x)) → M 18 k = (inA S w h k : Int)) ∧ ∀ c, c ≠ 18 → ∀ j, M c j = m c j) (fun n x M hx hI => by
    have fr : FrG m M 0 := FrG.row hI.2 (Or.inl rfl)
    have hG1 := hG.fr fr
    have mf := hG1.1
    obtain ⟨l1, l2, l3⟩ := line_S hT.1 hx
    have e8 : jw (8 + (x : Int)) = ((8 + x : Nat) : Int) := by rw [jw_eq (by omega) (by omega)]; omega
    have i1 : inA S w h x = if hb h x = true then 0 else rmS S w h (x % S) := if_pos (by omega)
    have i2 : inA S w h (8 + x) = if hb h x = true then 0 else rmS S w h (x % S) := by
      unfold inA
      rw [if_neg (by omega), Nat.add_sub_cancel_left]
    have mf1 : MF (jm_up M 18 x (inA S w h x : Int)) := mf.upr rM_ag.1
    refine ⟨jm_up (jm_up M 18 x (inA S w h x : Int)) 18 (8 + x) (inA S w h (8 + x) : Int), ?_, fun k hk hc => ?_, fun c hc j => (up_ne hc).trans ((up_ne hc).trans (hI.2 c hc j))⟩
    · have h29 : ∀ z : Int, z = (inA S w h x : Int) → f_X12_layAges_b29 N shM (f_X12_layAges_l2 N shM n) 1 (p : Int) (x : Int) z M = f_X12_layAges_l2 N shM n 1 (p : Int) ((x + 1 : Nat) : Int) (jm_up (jm_up M 18 x (inA S w h x : Int)) 18 (8 + x) (inA S w h (8 + x) : Int)) := by
        intro z hz
        rw [hz]
        unfold f_X12_layAges_b29
        rw [jrf_ok sM1, Option.bind_some, mf.t27, jwa_ok sM18 (by omega) (by omega), Option.bind_some, Int.toNat_natCast, jrf_ok sM1, Option.bind_some, mf1.t27, e8, jwa_ok sM18 (by omega) (by omega), Option.bind_some, Int.toNat_natCast, jw_succ (by omega), show (inA S w h x : Int) = (inA S w h (8 + x) : Int) by rw [i1, i2]]
      show f_X12_layAges_b2 N shM (f_X12_layAges_l2 N shM n) 1 (p : Int) (x : Int) M = _
      unfold f_X12_layAges_b2
      rw [if_pos (by omega), jck_ok sM1, Option.bind_some, sM_isHeld mf hG1.2.1 hT.2.2.1 hx, Option.bind_some, ifb]
      by_cases c : hb h x = true
      · rw [if_pos c]
        rw [if_pos c] at i1
        exact h29 0 (by rw [i1]; rfl)
      · rw [if_neg c, Option.bind_some, sM_setOf mf hG1.2.1 hT.1 x, Option.bind_some, Option.bind_some, sM_roomOf (by omega) mf hG1.2.1 hT l2, Option.bind_some]
        rw [if_neg c] at i1
        exact h29 _ (by rw [i1])
    · by_cases c : k = 8 + x
      · rw [c, up_eq]
      · rw [up_nk c]
        by_cases c' : k = x
        · rw [c', up_eq]
        · rw [up_nk c']
          exact hI.1 k hk (by omega)) 0 N m (by omega) (by omega) ⟨fun k hk hc => by omega, fun _ _ _ => rfl⟩
  have e : f_X12_layAges_l2 N shM N 1 (p : Int) 0 m = f_X12_layAges_l2 N shM (n' + 1) 1 (p : Int) ((8 : Nat) : Int) M := e
  have fr : FrG m M 0 := FrG.row q.2 (Or.inl rfl)
  have fr1 : FrG M (jm_up M 1 12 0) 0 := FrG.f12
  have hG1 := (hG.fr fr).fr fr1
  obtain ⟨M2, n2, e2, l2, G2, A2, t2, f2⟩ := ages_all (N := N) (by omega) hp hT hX 4 (Nat.le_refl 4) 0 hX.2.1 0 N (inA S w h, fun _ => none) (jm_up M 1 12 0) (by omega) (by rw [hX.2.2]; omega) (inA_bd hT.2.1.2) hG1 ⟨fun k hk => (up_ne (by decide)).trans (q.1 k hk (by omega)), fun _ _ _ z => by cases z⟩ up_eq (by rw [stA_4]; omega)
  rw [stA_4] at l2
  obtain ⟨n2, rfl⟩ : ∃ n', n2 = n' + 1 := ⟨n2 - 1, by omega⟩
  refine ⟨M2, ?_, G2.1, A2, (fr.tr fr1 (Nat.le_refl _)).tr f2 (Nat.le_refl _)⟩
  unfold f_X12_layAges
  rw [e]
  show f_X12_layAges_b2 N shM (f_X12_layAges_l2 N shM n') 1 (p : Int) ((8 : Nat) : Int) M = _
  unfold f_X12_layAges_b2
  rw [if_neg (by omega), jwf_ok sM1, Option.bind_some, jw_eq (x := 30 * (p : Int)) (by omega) (by omega), show 30 * (p : Int) = ((30 * p + 0 : Nat) : Int) by omega, e2]
  show f_X12_layAges_b63 N shM (f_X12_layAges_l63 N shM n2) 1 (p : Int) (-6) M2 = _
  unfold f_X12_layAges_b63
  rw [if_pos (by decide), jrf_ok sM1, Option.bind_some, t2, if_neg (by decide)]
