/-! ages: the reference's rows -/
def KA (m : jm_M) (f : Nat) (a : AgT) : Prop := ∀ k, k < 16 → m 19 (16 * f + k) = (a k : Int)
theorem rM_ag : rM 18 = true ∧ rM 19 = true ∧ rM 20 = true := by decide
theorem jw16 {f k : Nat} (hf : f < 30) (hk : k < 16) : jw (jw (16 * (f : Int)) + (k : Int)) = ((16 * f + k : Nat) : Int) := by
  rw [jw_eq (x := 16 * (f : Int)) (by omega) (by omega), jw_eq (by omega) (by omega)]
  omega
theorem sM_keepAges {N f : Nat} {a : AgT} {m : jm_M} (hN : 20 ≤ N) (hF : MF m) (hf : f < 6) (hA : RA m 18 a) : ∃ M, f_X12_keepAges N shM 1 (f : Int) m = some M ∧ KA M f a ∧ (∀ c, c ≠ 19 → ∀ j, M c j = m c j) ∧ ∀ j, j < 16 * f → M 19 j = m 19 j := by
  obtain ⟨M, n', e, q⟩ := loopN (fun n k m => f_X12_keepAges_l2 N shM n 1 (f : Int) k m) 16 (fun x M => (∀ k, k < x → M 19 (16 * f + k) = (a k : Int)) ∧ (∀ c, c ≠ 19 → ∀ j, M c j = m c j) ∧ ∀ j, j < 16 * f → M 19 j = m 19 j) (fun n x M hx hI => by
    have mf : MF M := hF.row rM_ag.2.1 hI.2.1
    have h1 : M 18 x = (a x : Int) := by rw [hI.2.1 18 (by decide)]; exact hA x hx
    refine ⟨jm_up M 19 (16 * f + x) (a x : Int), ?_, fun k hk => ?_, fun c hc j => (up_ne hc).trans (hI.2.1 c hc j), fun j hj => (up_nk (by omega)).trans (hI.2.2 j hj)⟩
    · show f_X12_keepAges_b2 N shM (f_X12_keepAges_l2 N shM n) 1 (f : Int) (x : Int) M = _
      unfold f_X12_keepAges_b2
      rw [if_pos (by omega), jrf_ok sM1, Option.bind_some, jrf_ok sM1, Option.bind_some, mf.t27, mf.t28, jra_ok sM18 (by omega) (by omega), Option.bind_some, Int.toNat_natCast, h1, jw16 (by omega) hx, jwa_ok sM19 (by omega) (by omega), Option.bind_some, Int.toNat_natCast, jw_succ (by omega)]
    · by_cases c : k = x
      · rw [c]; exact up_eq
      · rw [up_nk (by omega)]; exact hI.1 k (by omega)) 0 N m (by omega) (by omega) ⟨fun k hk => by omega, fun _ _ _ => rfl, fun _ _ => rfl⟩
  have e : f_X12_keepAges_l2 N shM N 1 (f : Int) 0 m = f_X12_keepAges_l2 N shM (n' + 1) 1 (f : Int) ((16 : Nat) : Int) M := e
  refine ⟨M, ?_, q.1, q.2.1, q.2.2⟩
  unfold f_X12_keepAges
  rw [e]
  show f_X12_keepAges_b2 N shM (f_X12_keepAges_l2 N shM n') 1 (f : Int) ((16 : Nat) : Int) M = _
  unfold f_X12_keepAges_b2
  rw [if_neg (by omega)]
theorem sM_swapAges {N f : Nat} {a b : AgT} {m : jm_M} (hN : 20 ≤ N) (hF : MF m) (hf : f < 6) (hA : RA m 18 a) (hB : KA m f b) : ∃ M, f_X12_swapAges N shM 1 (f : Int) m = some M ∧ RA M 18 b ∧ KA M f a ∧ (∀ c, c ≠ 18 → c ≠ 19 → ∀ j, M c j = m c j) ∧ ∀ j, j < 16 * f → M 19 j = m 19 j := by
  obtain ⟨M, n', e, q⟩ := loopN (fun n k m => f_X12_swapAges_l2 N shM n 1 (f : Int) k m) 16 (fun x M => (∀ k, k < 16 → M 18 k = ((if k < x then b k else a k : Nat) : Int) ∧ M 19 (16 * f + k) = ((if k < x then a k else b k : Nat) : Int)) ∧ (∀ c, c ≠ 18 → c ≠ 19 → ∀ j, M c j = m c j) ∧ ∀ j, j < 16 * f → M 19 j = m 19 j) (fun n x M hx hI => by
    have hFk : ∀ M' : jm_M, (∀ c, c ≠ 18 → c ≠ 19 → ∀ j, M' c j = m c j) → MF M' := fun M' hs => hF.same fun q hq => by
      have h1 : ∀ q ∈ rfM, q.1 ≠ 18 ∧ q.1 ≠ 19 := by decide
      exact hs _ (h1 q hq).1 (h1 q hq).2 _
    have mf : MF M := hFk M hI.2.1
    have h1 : M 18 x = (a x : Int) := by rw [(hI.1 x hx).1, if_neg (by omega)]
    have h2 : M 19 (16 * f + x) = (b x : Int) := by rw [(hI.1 x hx).2, if_neg (by omega)]
    have mf1 : MF (jm_up M 19 (16 * f + x) (a x : Int)) := mf.upr rM_ag.2.1
    refine ⟨jm_up (jm_up M 19 (16 * f + x) (a x : Int)) 18 x (b x : Int), ?_, fun k hk => ?_, fun c hc hc' j => (up_ne hc).trans ((up_ne hc').trans (hI.2.1 c hc hc' j)), fun j hj => (up_ne (by decide)).trans ((up_nk (by omega)).trans (hI.2.2 j hj))⟩
    · show f_X12_swapAges_b2 N shM (f_X12_swapAges_l2 N shM n) 1 (f : Int) (x : Int) M = _
      unfold f_X12_swapAges_b2
      rw [if_pos (by omega), jrf_ok sM1, Option.bind_some, mf.t28, jw16 (by omega) hx, jra_ok sM19 (by omega) (by omega), Option.bind_some, Int.toNat_natCast, h2, Option.bind_some, jrf_ok sM1, Option.bind_some, mf.t27, mf.t28, jra_ok sM18 (by omega) (by omega), Option.bind_some, Int.toNat_natCast, h1, jwa_ok sM19 (by omega) (by omega), Option.bind_some, Int.toNat_natCast, jrf_ok sM1, Option.bind_some, mf1.t27, jwa_ok sM18 (by omega) (by omega), Option.bind_some, Int.toNat_natCast, jw_succ (by omega)]
    · by_cases c : k = x
      · subst c
        rw [up_eq, if_pos (by omega), up_ne (by decide), up_eq, if_pos (by omega)]
        exact ⟨rfl, rfl⟩
      · rw [up_nk c, up_ne (by decide), up_ne (by decide), up_nk (by omega), (hI.1 k hk).1, (hI.1 k hk).2]
        by_cases c2 : k < x
        · rw [if_pos c2, if_pos c2, if_pos (by omega), if_pos (by omega)]; exact ⟨rfl, rfl⟩
        · rw [if_neg c2, if_neg c2, if_neg (by omega), if_neg (by omega)]; exact ⟨rfl, rfl⟩) 0 N m (by omega) (by omega) ⟨fun k hk => ⟨by rw [if_neg (by omega)]; exact hA k hk, by rw [if_neg (by omega)]; exact hB k hk⟩, fun _ _ _ _ => rfl, fun _ _ => rfl⟩
  have e : f_X12_swapAges_l2 N shM N 1 (f : Int) 0 m = f_X12_swapAges_l2 N shM (n' + 1) 1 (f : Int) ((16 : Nat) : Int) M := e
  refine ⟨M, ?_, fun k hk => by rw [(q.1 k hk).1, if_pos hk], fun k hk => by rw [(q.1 k hk).2, if_pos hk], q.2.1, q.2.2⟩
  unfold f_X12_swapAges
  rw [e]
  show f_X12_swapAges_b2 N shM (f_X12_swapAges_l2 N shM n') 1 (f : Int) ((16 : Nat) : Int) M = _
  unfold f_X12_swapAges_b2
  rw [if_neg (by omega)]
