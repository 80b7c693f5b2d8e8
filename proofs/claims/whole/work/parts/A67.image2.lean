/-! images of the reference -/
theorem sM_image {N n : Nat} {m : jm_M} {q : jBd} (hN : 200 ≤ N) (hF : MF m) (hn : n < 2) (hV : VB q) (h : MB m q) :
    ∃ M, f_X12_image N shM 1 n m = some (1, M) ∧ MI M n q ∧ (∀ a, a ≠ 23 → a ≠ 24 → ∀ j, M a j = m a j) ∧ (∀ j, j < 160 * n ∨ 160 * n + 160 ≤ j → M 23 j = m 23 j) ∧ (∀ j, M 24 j = if j = n then 1 else m 24 j) ∧ MF M := by
  obtain ⟨-, -, -, -, -, -, -, -, -, -, -, -, -, -, -, -, -, -, -, -, -, w23, w24⟩ := rM_rows
  have hat : jw (160 * (n : Int)) = ((160 * n : Nat) : Int) := by rw [jw_eq (by omega) (by omega)]; omega
  obtain ⟨m1, n1, e1, i1, i2, i3, i4⟩ := loopN (fun g x m => f_X12_image_l20 N shM g 1 n ((160 * n : Nat) : Int) x m) 4 (fun k M => MF M ∧ (∀ i, i < k → M 23 (160 * n + i) = m 2 i ∧ M 23 (160 * n + 4 + i) = m 4 i ∧ M 23 (160 * n + 8 + i) = m 7 i) ∧ (∀ a, a ≠ 23 → ∀ j, M a j = m a j) ∧ (∀ j, j < 160 * n ∨ 160 * n + 160 ≤ j → M 23 j = m 23 j)) (by
    intro g k M hk ⟨g1, g2, g3, g4⟩
    have u1 : MF (jm_up M 23 (160 * n + k) (m 2 k)) := g1.upr w23
    have u2 : MF (jm_up (jm_up M 23 (160 * n + k) (m 2 k)) 23 (160 * n + 4 + k) (m 4 k)) := u1.upr w23
    refine ⟨jm_up (jm_up (jm_up M 23 (160 * n + k) (m 2 k)) 23 (160 * n + 4 + k) (m 4 k)) 23 (160 * n + 8 + k) (m 7 k), ?_, u2.upr w23, fun i hi => ?_, fun a ha j => by rw [up_ne ha, up_ne ha, up_ne ha]; exact g3 a ha j, fun j hj => by rw [up_nk (by omega), up_nk (by omega), up_nk (by omega)]; exact g4 j hj⟩
    · show f_X12_image_b20 N shM (f_X12_image_l20 N shM g) 1 n ((160 * n : Nat) : Int) k M = _
      unfold f_X12_image_b20
      rw [if_pos (by omega), jrf_ok sM1, Option.bind_some, jrf_ok sM1, Option.bind_some, g1.t32, g1.t0, jra_ok sM2 (by omega) (by omega), Option.bind_some, Int.toNat_natCast, g3 2 (by decide), jw_eq (x := ((160 * n : Nat) : Int) + (k : Int)) (by omega) (by omega), show ((160 * n : Nat) : Int) + (k : Int) = ((160 * n + k : Nat) : Int) by omega, jwa_ok sM23 (by omega) (by omega), Option.bind_some, Int.toNat_natCast]
      rw [jrf_ok sM1, Option.bind_some, jrf_ok sM1, Option.bind_some, u1.t32, u1.t3, jra_ok sM4 (by omega) (by omega), Option.bind_some, Int.toNat_natCast, up_ne (show (4 : Nat) ≠ 23 by decide), g3 4 (by decide), jw_eq (x := ((160 * n : Nat) : Int) + 4) (by omega) (by omega), jw_eq (x := ((160 * n : Nat) : Int) + 4 + (k : Int)) (by omega) (by omega), show ((160 * n : Nat) : Int) + 4 + (k : Int) = ((160 * n + 4 + k : Nat) : Int) by omega, jwa_ok sM23 (by omega) (by omega), Option.bind_some, Int.toNat_natCast]
      rw [jrf_ok sM1, Option.bind_some, jrf_ok sM1, Option.bind_some, u2.t32, u2.t6, jra_ok sM7 (by omega) (by omega), Option.bind_some, Int.toNat_natCast, up_ne (show (7 : Nat) ≠ 23 by decide), up_ne (show (7 : Nat) ≠ 23 by decide), g3 7 (by decide), jw_eq (x := ((160 * n : Nat) : Int) + 8) (by omega) (by omega), jw_eq (x := ((160 * n : Nat) : Int) + 8 + (k : Int)) (by omega) (by omega), show ((160 * n : Nat) : Int) + 8 + (k : Int) = ((160 * n + 8 + k : Nat) : Int) by omega, jwa_ok sM23 (by omega) (by omega), Option.bind_some, Int.toNat_natCast, jw_succ (by omega)]
    · by_cases e : i = k
      · subst e
        refine ⟨?_, ?_, ?_⟩
        · rw [up_nk (by omega), up_nk (by omega), up_eq]
        · rw [up_nk (by omega), up_eq]
        · exact up_eq
      · obtain ⟨a, b, c⟩ := g2 i (by omega)
        refine ⟨?_, ?_, ?_⟩
        · rw [up_nk (by omega), up_nk (by omega), up_nk (by omega)]; exact a
        · rw [up_nk (by omega), up_nk (by omega), up_nk (by omega)]; exact b
        · rw [up_nk (by omega), up_nk (by omega), up_nk (by omega)]; exact c) 0 N m (by omega) (by omega) ⟨hF, fun i hi => absurd hi (Nat.not_lt_zero i), fun _ _ _ => rfl, fun _ _ => rfl⟩
  have j1 : MF (jm_up m1 23 (160 * n + 12) (m 1 7)) := i1.upr w23
  obtain ⟨m2, n2, e2, p1, p2, p3, p4⟩ := loopN (fun g x m => f_X12_image_l93 N shM g 1 n ((160 * n : Nat) : Int) x m) 20 (fun k M => MF M ∧ (∀ i, i < k → M 23 (160 * n + 13 + i) = m 8 i) ∧ (∀ a, a ≠ 23 → ∀ j, M a j = m a j) ∧ (∀ j, j < 160 * n + 13 ∨ 160 * n + 33 ≤ j → M 23 j = jm_up m1 23 (160 * n + 12) (m 1 7) 23 j)) (by
    intro g k M hk ⟨g1, g2, g3, g4⟩
    refine ⟨jm_up M 23 (160 * n + 13 + k) (m 8 k), ?_, g1.upr w23, fun i hi => ?_, fun a ha j => by rw [up_ne ha]; exact g3 a ha j, fun j hj => by rw [up_nk (by omega)]; exact g4 j hj⟩
    · show f_X12_image_b93 N shM (f_X12_image_l93 N shM g) 1 n ((160 * n : Nat) : Int) k M = _
      unfold f_X12_image_b93
      rw [if_pos (by omega), jrf_ok sM1, Option.bind_some, jrf_ok sM1, Option.bind_some, g1.t32, g1.t8, jra_ok sM8 (by omega) (by omega), Option.bind_some, Int.toNat_natCast, g3 8 (by decide), jw_eq (x := ((160 * n : Nat) : Int) + 13) (by omega) (by omega), jw_eq (x := ((160 * n : Nat) : Int) + 13 + (k : Int)) (by omega) (by omega), show ((160 * n : Nat) : Int) + 13 + (k : Int) = ((160 * n + 13 + k : Nat) : Int) by omega, jwa_ok sM23 (by omega) (by omega), Option.bind_some, Int.toNat_natCast, jw_succ (by omega)]
    · by_cases e : i = k
      · subst e; exact up_eq
      · rw [up_nk (by omega)]; exact g2 i (by omega)) 0 N (jm_up m1 23 (160 * n + 12) (m 1 7)) (by omega) (by omega) ⟨j1, fun i hi => absurd hi (Nat.not_lt_zero i), fun a ha j => by rw [up_ne ha]; exact i3 a ha j, fun _ _ => rfl⟩
  obtain ⟨m3, n3, e3, d1, d2, d3, d4⟩ := loopN (fun g x m => f_X12_image_l124 N shM g 1 n ((160 * n : Nat) : Int) x m) 120 (fun k M => MF M ∧ (∀ i, i < k → M 23 (160 * n + 33 + i) = m 5 i) ∧ (∀ a, a ≠ 23 → ∀ j, M a j = m a j) ∧ (∀ j, j < 160 * n + 33 ∨ 160 * n + 153 ≤ j → M 23 j = m2 23 j)) (by
    intro g k M hk ⟨g1, g2, g3, g4⟩
    refine ⟨jm_up M 23 (160 * n + 33 + k) (m 5 k), ?_, g1.upr w23, fun i hi => ?_, fun a ha j => by rw [up_ne ha]; exact g3 a ha j, fun j hj => by rw [up_nk (by omega)]; exact g4 j hj⟩
    · show f_X12_image_b124 N shM (f_X12_image_l124 N shM g) 1 n ((160 * n : Nat) : Int) k M = _
      unfold f_X12_image_b124
      rw [if_pos (by omega), jrf_ok sM1, Option.bind_some, jrf_ok sM1, Option.bind_some, g1.t32, g1.t4, jra_ok sM5 (by omega) (by omega), Option.bind_some, Int.toNat_natCast, g3 5 (by decide), jw_eq (x := ((160 * n : Nat) : Int) + 33) (by omega) (by omega), jw_eq (x := ((160 * n : Nat) : Int) + 33 + (k : Int)) (by omega) (by omega), show ((160 * n : Nat) : Int) + 33 + (k : Int) = ((160 * n + 33 + k : Nat) : Int) by omega, jwa_ok sM23 (by omega) (by omega), Option.bind_some, Int.toNat_natCast, jw_succ (by omega)]
    · by_cases e : i = k
      · subst e; exact up_eq
      · rw [up_nk (by omega)]; exact g2 i (by omega)) 0 N m2 (by omega) (by omega) ⟨p1, fun i hi => absurd hi (Nat.not_lt_zero i), p3, fun _ _ => rfl⟩
  obtain ⟨b1, b2, b3, b4, b5⟩ := h
  have hq := hV.2.2.2.1
  have lo : ∀ j, j < 160 * n + 12 → m3 23 j = m1 23 j := fun j hj => by rw [d4 _ (by omega), p4 _ (by omega), up_nk (by omega)]
  refine ⟨jm_up m3 24 n 1, ?_, ⟨fun i hi => ?_, fun p hp => ⟨?_, fun i hi => ?_⟩, fun p hp => ?_, ?_, fun i hi => ?_⟩, fun a h1 h2 j => by rw [up_ne h2]; exact d3 a h1 j, fun j hj => ?_, fun j => by rw [up_row, d3 24 (by decide)], d1.upr w24⟩
  · unfold f_X12_image
    rw [sM_in, if_pos (by omega), Option.bind_some, if_neg (by decide), hat]
    show f_X12_image_l20 N shM N 1 n ((160 * n : Nat) : Int) ((0 : Nat) : Int) m = _
    rw [e1]
    show f_X12_image_b20 N shM (f_X12_image_l20 N shM n1) 1 n ((160 * n : Nat) : Int) ((4 : Nat) : Int) m1 = _
    unfold f_X12_image_b20
    rw [if_neg (by omega), jrf_ok sM1, Option.bind_some, jrf_ok sM1, Option.bind_some, i1.t32, i3 1 (by decide), jw_eq (x := ((160 * n : Nat) : Int) + 12) (by omega) (by omega), show ((160 * n : Nat) : Int) + 12 = ((160 * n + 12 : Nat) : Int) by omega, jwa_ok sM23 (by omega) (by omega), Option.bind_some, Int.toNat_natCast]
    show f_X12_image_l93 N shM N 1 n ((160 * n : Nat) : Int) ((0 : Nat) : Int) _ = _
    rw [e2]
    show f_X12_image_b93 N shM (f_X12_image_l93 N shM n2) 1 n ((160 * n : Nat) : Int) ((20 : Nat) : Int) m2 = _
    unfold f_X12_image_b93
    rw [if_neg (by omega)]
    show f_X12_image_l124 N shM N 1 n ((160 * n : Nat) : Int) ((0 : Nat) : Int) _ = _
    rw [e3]
    show f_X12_image_b124 N shM (f_X12_image_l124 N shM n3) 1 n ((160 * n : Nat) : Int) ((120 : Nat) : Int) m3 = _
    unfold f_X12_image_b124
    rw [if_neg (by omega), jrf_ok sM1, Option.bind_some, d1.t33, jzb_1, Option.bind_some, jwa_ok sM24 (by omega) (by omega), Option.bind_some, Int.toNat_natCast]
  · rw [up_ne (by decide), lo _ (by omega), (i2 i hi).1]; exact b1 i hi
  · rw [up_ne (by decide), lo _ (by omega), (i2 p hp).2.1]; exact (b2 p hp).1
  · have := (hV.2.1 p hp).1
    rw [up_ne (by decide), d2 _ (by omega)]; exact ((b2 p hp).2 i hi).1
  · rw [up_ne (by decide), lo _ (by omega), (i2 p hp).2.2]; exact b3 p hp
  · rw [up_ne (by decide), d4 _ (by omega), p4 _ (by omega), up_eq]; exact b4
  · rw [up_ne (by decide), d4 _ (by omega), p2 _ (by omega)]; exact b5 i hi
  · rw [up_ne (by decide), d4 _ (by omega), p4 _ (by omega), up_nk (by omega)]; exact i4 j hj
theorem sM_restore {N n : Nat} {m : jm_M} {q : jBd} (hN : 200 ≤ N) (hF : MF m) (hn : n < 2) (hV : VB q) (hk : m 24 n = 1) (h : MI m n q) :
    ∃ M, f_X12_restore N shM 1 n m = some (1, M) ∧ MB M q ∧ (∀ a, a = 3 ∨ a = 23 ∨ a = 24 → ∀ j, M a j = m a j) ∧ M 1 1 = m 1 1 ∧ MF M := by
  obtain ⟨w2, -, w4, w5, w6, w7, w8, -⟩ := rM_rows
  obtain ⟨c1, c2, c3, c4, c5⟩ := h
  have hat : jw (160 * (n : Int)) = ((160 * n : Nat) : Int) := by rw [jw_eq (by omega) (by omega)]; omega
  obtain ⟨m1, n1, e1, i1, i2, i3, i4⟩ := loopN (fun g x m => f_X12_restore_l32 N shM g 1 ((160 * n : Nat) : Int) x m) 4 (fun k M => MF M ∧ (∀ i, i < k → M 2 i = m 23 (160 * n + i) ∧ M 4 i = m 23 (160 * n + 4 + i) ∧ M 7 i = m 23 (160 * n + 8 + i)) ∧ (∀ a, a ≠ 2 → a ≠ 4 → a ≠ 7 → ∀ j, M a j = m a j) ∧ True) (by
    intro g k M hk ⟨g1, g2, g3, g4⟩
    have u1 : MF (jm_up M 2 k (m 23 (160 * n + k))) := g1.upr w2
    have u2 : MF (jm_up (jm_up M 2 k (m 23 (160 * n + k))) 4 k (m 23 (160 * n + 4 + k))) := u1.upr w4
    refine ⟨jm_up (jm_up (jm_up M 2 k (m 23 (160 * n + k))) 4 k (m 23 (160 * n + 4 + k))) 7 k (m 23 (160 * n + 8 + k)), ?_, u2.upr w7, fun i hi => ?_, fun a h1 h2 h3 j => by rw [up_ne h3, up_ne h2, up_ne h1]; exact g3 a h1 h2 h3 j, trivial⟩
    · show f_X12_restore_b32 N shM (f_X12_restore_l32 N shM g) 1 ((160 * n : Nat) : Int) k M = _
      unfold f_X12_restore_b32
      rw [if_pos (by omega), jrf_ok sM1, Option.bind_some, jrf_ok sM1, Option.bind_some, g1.t32, g1.t0, jw_eq (x := ((160 * n : Nat) : Int) + (k : Int)) (by omega) (by omega), show ((160 * n : Nat) : Int) + (k : Int) = ((160 * n + k : Nat) : Int) by omega, jra_ok sM23 (by omega) (by omega), Option.bind_some, Int.toNat_natCast, g3 23 (by decide) (by decide) (by decide), jwa_ok sM2 (by omega) (by omega), Option.bind_some, Int.toNat_natCast]
      rw [jrf_ok sM1, Option.bind_some, jrf_ok sM1, Option.bind_some, u1.t32, u1.t3, jw_eq (x := ((160 * n : Nat) : Int) + 4) (by omega) (by omega), jw_eq (x := ((160 * n : Nat) : Int) + 4 + (k : Int)) (by omega) (by omega), show ((160 * n : Nat) : Int) + 4 + (k : Int) = ((160 * n + 4 + k : Nat) : Int) by omega, jra_ok sM23 (by omega) (by omega), Option.bind_some, Int.toNat_natCast, up_ne (show (23 : Nat) ≠ 2 by decide), g3 23 (by decide) (by decide) (by decide), jwa_ok sM4 (by omega) (by omega), Option.bind_some, Int.toNat_natCast]
      rw [jrf_ok sM1, Option.bind_some, jrf_ok sM1, Option.bind_some, u2.t32, u2.t6, jw_eq (x := ((160 * n : Nat) : Int) + 8) (by omega) (by omega), jw_eq (x := ((160 * n : Nat) : Int) + 8 + (k : Int)) (by omega) (by omega), show ((160 * n : Nat) : Int) + 8 + (k : Int) = ((160 * n + 8 + k : Nat) : Int) by omega, jra_ok sM23 (by omega) (by omega), Option.bind_some, Int.toNat_natCast, up_ne (show (23 : Nat) ≠ 4 by decide), up_ne (show (23 : Nat) ≠ 2 by decide), g3 23 (by decide) (by decide) (by decide), jwa_ok sM7 (by omega) (by omega), Option.bind_some, Int.toNat_natCast, jw_succ (by omega)]
    · by_cases e : i = k
      · subst e
        refine ⟨?_, ?_, ?_⟩
        · rw [up_ne (by decide), up_ne (by decide), up_eq]
        · rw [up_ne (by decide), up_eq]
        · exact up_eq
      · obtain ⟨a, b, c⟩ := g2 i (by omega)
        refine ⟨?_, ?_, ?_⟩
        · rw [up_nk e, up_nk e, up_nk e]; exact a
        · rw [up_nk e, up_nk e, up_nk e]; exact b
        · rw [up_nk e, up_nk e, up_nk e]; exact c) 0 N m (by omega) (by omega) ⟨hF, fun i hi => absurd hi (Nat.not_lt_zero i), fun _ _ _ _ _ => rfl, trivial⟩
  have j1 : MF (jm_up m1 1 7 (m 23 (160 * n + 12))) := i1.up (by decide)
  obtain ⟨m2, n2, e2, p1, p2, p3⟩ := loopN (fun g x m => f_X12_restore_l105 N shM g 1 ((160 * n : Nat) : Int) x m) 20 (fun k M => MF M ∧ (∀ i, i < k → M 8 i = m 23 (160 * n + 13 + i)) ∧ (∀ a, a ≠ 8 → ∀ j, M a j = jm_up m1 1 7 (m 23 (160 * n + 12)) a j)) (by
    intro g k M hk ⟨g1, g2, g3⟩
    refine ⟨jm_up M 8 k (m 23 (160 * n + 13 + k)), ?_, g1.upr w8, fun i hi => ?_, fun a ha j => by rw [up_ne ha]; exact g3 a ha j⟩
    · show f_X12_restore_b105 N shM (f_X12_restore_l105 N shM g) 1 ((160 * n : Nat) : Int) k M = _
      unfold f_X12_restore_b105
      rw [if_pos (by omega), jrf_ok sM1, Option.bind_some, jrf_ok sM1, Option.bind_some, g1.t32, g1.t8, jw_eq (x := ((160 * n : Nat) : Int) + 13) (by omega) (by omega), jw_eq (x := ((160 * n : Nat) : Int) + 13 + (k : Int)) (by omega) (by omega), show ((160 * n : Nat) : Int) + 13 + (k : Int) = ((160 * n + 13 + k : Nat) : Int) by omega, jra_ok sM23 (by omega) (by omega), Option.bind_some, Int.toNat_natCast, g3 23 (by decide), up_ne (show (23 : Nat) ≠ 1 by decide), i3 23 (by decide) (by decide) (by decide), jwa_ok sM8 (by omega) (by omega), Option.bind_some, Int.toNat_natCast, jw_succ (by omega)]
    · by_cases e : i = k
      · subst e; exact up_eq
      · rw [up_nk (by omega)]; exact g2 i (by omega)) 0 N (jm_up m1 1 7 (m 23 (160 * n + 12))) (by omega) (by omega) ⟨j1, fun i hi => absurd hi (Nat.not_lt_zero i), fun _ _ _ => rfl⟩
  obtain ⟨m3, n3, e3, d1, d2, d3⟩ := loopN (fun g x m => f_X12_restore_l136 N shM g 1 ((160 * n : Nat) : Int) x m) 120 (fun k M => MF M ∧ (∀ i, i < k → M 5 i = m 23 (160 * n + 33 + i)) ∧ (∀ a, a ≠ 5 → ∀ j, M a j = m2 a j)) (by
    intro g k M hk ⟨g1, g2, g3⟩
    refine ⟨jm_up M 5 k (m 23 (160 * n + 33 + k)), ?_, g1.upr w5, fun i hi => ?_, fun a ha j => by rw [up_ne ha]; exact g3 a ha j⟩
    · show f_X12_restore_b136 N shM (f_X12_restore_l136 N shM g) 1 ((160 * n : Nat) : Int) k M = _
      unfold f_X12_restore_b136
      rw [if_pos (by omega), jrf_ok sM1, Option.bind_some, jrf_ok sM1, Option.bind_some, g1.t32, g1.t4, jw_eq (x := ((160 * n : Nat) : Int) + 33) (by omega) (by omega), jw_eq (x := ((160 * n : Nat) : Int) + 33 + (k : Int)) (by omega) (by omega), show ((160 * n : Nat) : Int) + 33 + (k : Int) = ((160 * n + 33 + k : Nat) : Int) by omega, jra_ok sM23 (by omega) (by omega), Option.bind_some, Int.toNat_natCast, g3 23 (by decide), p3 23 (by decide), up_ne (show (23 : Nat) ≠ 1 by decide), i3 23 (by decide) (by decide) (by decide), jwa_ok sM5 (by omega) (by omega), Option.bind_some, Int.toNat_natCast, jw_succ (by omega)]
    · by_cases e : i = k
      · subst e; exact up_eq
      · rw [up_nk (by omega)]; exact g2 i (by omega)) 0 N m2 (by omega) (by omega) ⟨p1, fun i hi => absurd hi (Nat.not_lt_zero i), fun _ _ _ => rfl⟩
  have r4 : ∀ p, p < 4 → m3 4 p = (q.2.1 p : Int) := fun p hp => by rw [d3 4 (by decide), p3 4 (by decide), up_ne (by decide), (i2 p hp).2.1]; exact (c2 p hp).1
  have r5 : ∀ p, p < 4 → ∀ j, j < q.2.1 p → m3 5 (30 * p + j) = q.2.2.1 p j := fun p hp j hj => by
    have := (hV.2.1 p hp).1
    rw [d2 _ (by omega)]; exact (c2 p hp).2 j hj
  obtain ⟨m4, n4, e4, s1, s2, s3⟩ := loopN (fun g x m => f_X12_restore_l167 N shM g 1 x m) 4 (fun k M => MF M ∧ (∀ p, p < k → ∀ j, j < q.2.1 p → M 6 (30 * p + j) = (zs (q.2.2.1 p) 4 j : Int)) ∧ (∀ a, a ≠ 6 → ∀ j, M a j = m3 a j)) (by
    intro g k M hk ⟨g1, g2, g3⟩
    obtain ⟨M2, a1, a2, a3, a4, a5⟩ := sM_laySizes (N := N) (m := M) (by omega) g1 hk (hV.2.1 k hk) (by rw [g3 4 (by decide)]; exact r4 k hk) (fun j hj => by rw [g3 5 (by decide)]; exact r5 k hk j hj)
    refine ⟨M2, ?_, a5, fun p hp j hj => ?_, fun a ha j => (a3 a ha j).trans (g3 a ha j)⟩
    · show f_X12_restore_b167 N shM (f_X12_restore_l167 N shM g) 1 k M = _
      unfold f_X12_restore_b167
      rw [if_pos (by omega), jck_ok sM1, Option.bind_some, a1, Option.bind_some, jw_succ (by omega)]
    · by_cases e : p = k
      · subst e; exact a2 j hj
      · have := (hV.2.1 p (by omega)).1
        rw [a4 _ (by omega)]; exact g2 p (by omega) j hj) 0 N m3 (by omega) (by omega) ⟨d1, fun p hp => absurd hp (Nat.not_lt_zero p), fun _ _ _ => rfl⟩
  have hq := hV.2.2.2.1
  refine ⟨m4, ?_, ⟨fun i hi => ?_, fun p hp => ⟨?_, fun i hi => ⟨?_, s2 p hp i hi⟩⟩, fun p hp => ?_, ?_, fun i hi => ?_⟩, fun a ha j => ?_, ?_, s1⟩
  · unfold f_X12_restore
    rw [sM_in, if_pos (by omega), Option.bind_some, if_neg (by decide), jrf_ok sM1, Option.bind_some, hF.t33, jra_ok sM24 (by omega) (by omega), Option.bind_some, Int.toNat_natCast, hk, if_neg (by decide), hat]
    show f_X12_restore_l32 N shM N 1 ((160 * n : Nat) : Int) ((0 : Nat) : Int) m = _
    rw [e1]
    show f_X12_restore_b32 N shM (f_X12_restore_l32 N shM n1) 1 ((160 * n : Nat) : Int) ((4 : Nat) : Int) m1 = _
    unfold f_X12_restore_b32
    rw [if_neg (by omega), jrf_ok sM1, Option.bind_some, i1.t32, jw_eq (x := ((160 * n : Nat) : Int) + 12) (by omega) (by omega), show ((160 * n : Nat) : Int) + 12 = ((160 * n + 12 : Nat) : Int) by omega, jra_ok sM23 (by omega) (by omega), Option.bind_some, Int.toNat_natCast, i3 23 (by decide) (by decide) (by decide), jwf_ok sM1, Option.bind_some]
    show f_X12_restore_l105 N shM N 1 ((160 * n : Nat) : Int) ((0 : Nat) : Int) _ = _
    rw [e2]
    show f_X12_restore_b105 N shM (f_X12_restore_l105 N shM n2) 1 ((160 * n : Nat) : Int) ((20 : Nat) : Int) m2 = _
    unfold f_X12_restore_b105
    rw [if_neg (by omega)]
    show f_X12_restore_l136 N shM N 1 ((160 * n : Nat) : Int) ((0 : Nat) : Int) _ = _
    rw [e3]
    show f_X12_restore_b136 N shM (f_X12_restore_l136 N shM n3) 1 ((160 * n : Nat) : Int) ((120 : Nat) : Int) m3 = _
    unfold f_X12_restore_b136
    rw [if_neg (by omega)]
    show f_X12_restore_l167 N shM N 1 ((0 : Nat) : Int) _ = _
    rw [e4]
    show f_X12_restore_b167 N shM (f_X12_restore_l167 N shM n4) 1 ((4 : Nat) : Int) m4 = _
    unfold f_X12_restore_b167
    rw [if_neg (by omega)]
  · rw [s3 2 (by decide), d3 2 (by decide), p3 2 (by decide), up_ne (by decide), (i2 i hi).1]; exact c1 i hi
  · rw [s3 4 (by decide)]; exact r4 p hp
  · rw [s3 5 (by decide)]; exact r5 p hp i hi
  · rw [s3 7 (by decide), d3 7 (by decide), p3 7 (by decide), up_ne (by decide), (i2 p hp).2.2]; exact c3 p hp
  · rw [s3 1 (by decide), d3 1 (by decide), p3 1 (by decide), up_eq]; exact c4
  · rw [s3 8 (by decide), d3 8 (by decide), p2 _ (by omega)]; exact c5 i hi
  · rw [s3 a (by omega), d3 a (by omega), p3 a (by omega), up_ne (by omega), i3 a (by omega) (by omega) (by omega)]
  · rw [s3 1 (by decide), d3 1 (by decide), p3 1 (by decide), up_nk (by decide), i3 1 (by decide) (by decide) (by decide)]
theorem s_imageOf {m : jm_M} (hF : CF m) {n : Nat} (hn : n < 2) : f_X11_imageOf shC 1 n m = some (22 + 20 * n) := by
  unfold f_X11_imageOf
  rcases (show n = 0 ∨ n = 1 by omega) with rfl | rfl
  · rw [if_pos (show ((0 : Nat) : Int) = 0 from rfl), jrf_ok sC1, Option.bind_some, hF.t1_1]
  · rw [if_neg (by decide), jrf_ok sC1, Option.bind_some, hF.t1_2]
theorem img_bL {n : Nat} (hn : n < 2) : 22 + 20 * n ∈ bL := by
  rcases (show n = 0 ∨ n = 1 by omega) with rfl | rfl <;> decide
theorem op_image : jOp_image jN shC shM Inv := by
  intro mC mM x1 hx hI
  obtain ⟨A, hV, hC, hM⟩ := id hI
  obtain ⟨hF, hRR, hK⟩ := id hC
  obtain ⟨hFM, hKM⟩ := id hM
  have hJ := jN_big
  by_cases c0 : 0 ≤ x1 ∧ x1 ≤ 1
  · obtain ⟨n, rfl⟩ : ∃ n : Nat, x1 = n := ⟨x1.toNat, by omega⟩
    have hn : n < 2 := by omega
    have hb := img_bL hn
    obtain ⟨M, e, k, f, g, hF2⟩ := s_copyFrom (N := jN) (by omega) hF hb two_bL (by omega) hV.1 hK.1
    obtain ⟨M', e', k', f', o', g', hFM2⟩ := sM_image (N := jN) (by omega) hFM hn hV.1 hKM.1
    have hb1 := (bC hF _ hb).1
    refine ⟨1, jm_up M (22 + 20 * n) 1 1, M', ?_, e', (A.1, A.2.1, (fun i => if i = n then true else A.2.2.1 i), (fun i => if i = n then A.1 else A.2.2.2 i)), ⟨hV.1, hV.2.1, fun i hi hk => ?_⟩, ⟨hF2.up (bL_rC _ hb).2.2.2.2, ?_, ?_⟩, hFM2, ?_⟩
    · unfold f_X11_image
      rw [if_neg (by omega), if_neg (by omega), jck_ok sC1, Option.bind_some, s_imageOf hF hn, Option.bind_some, jrf_ok sC1, Option.bind_some, hF.t1_0, jck_ok hb1, Option.bind_some, e, Option.bind_some, jzb_1, Option.bind_some, jwf_ok hb1, Option.bind_some]
    · have hk : (if i = n then true else A.2.2.1 i) = true := hk
      show VB (if i = n then A.1 else A.2.2.2 i)
      split
      · exact hV.1
      · rename_i c
        rw [if_neg c] at hk
        exact hV.2.2 i hi hk
    · intro r hr
      have := rr_ge r hr
      exact (hRR r hr).same (fun a h1 h2 i => by rw [up_ne (by omega), f a (by omega)])
    · obtain ⟨k1, k2, k3, k4⟩ := hK
      refine ⟨k1.same (fun a h1 h2 i => by rw [up_ne (by omega), f a (by omega)]) (by rw [up_ne (by omega), f 2 (by omega)]), by rw [up_ne (by omega), f 62 (by omega)]; exact k2, fun i hi => by rw [up_ne (by omega), f 63 (by omega)]; exact k3 i hi, fun i hi => ?_⟩
      show jm_up M (22 + 20 * n) 1 1 (22 + 20 * i) 1 = (if (if i = n then true else A.2.2.1 i) = true then 1 else 0) ∧ ((if i = n then true else A.2.2.1 i) = true → CB (jm_up M (22 + 20 * n) 1 1) (22 + 20 * i) (if i = n then A.1 else A.2.2.2 i))
      by_cases c : i = n
      · subst c
        rw [if_pos rfl, if_pos rfl, if_pos rfl]
        exact ⟨up_eq, fun _ => k.same (fun a h1 h2 i => up_ne (by omega)) (up_nk (by decide))⟩
      · rw [if_neg c, if_neg c]
        refine ⟨?_, fun hk => ?_⟩
        · rw [up_ne (by omega), f _ (by omega)]; exact (k4 i hi).1
        · exact ((k4 i hi).2 hk).same (fun a h1 h2 j => by rw [up_ne (by omega), f a (by omega)]) (by rw [up_ne (by omega), f _ (by omega)])
    · obtain ⟨k1, k2, k3, k4⟩ := hKM
      refine ⟨k1.same (fun a ha i => f' a (by omega) (by omega) i) (f' 1 (by decide) (by decide) 7), by rw [f' 1 (by decide) (by decide)]; exact k2, fun i hi => by rw [f' 3 (by decide) (by decide)]; exact k3 i hi, fun i hi => ?_⟩
      show M' 24 i = (if (if i = n then true else A.2.2.1 i) = true then 1 else 0) ∧ ((if i = n then true else A.2.2.1 i) = true → MI M' i (if i = n then A.1 else A.2.2.2 i))
      rw [g']
      by_cases c : i = n
      · subst c
        rw [if_pos rfl, if_pos rfl, if_pos rfl, if_pos rfl]
        exact ⟨rfl, fun _ => k'⟩
      · rw [if_neg c, if_neg c, if_neg c]
        refine ⟨(k4 i hi).1, fun hk => ?_⟩
        obtain ⟨c1, c2, c3, c4, c5⟩ := (k4 i hi).2 hk
        have hvb := hV.2.2 i hi hk
        have hq := hvb.2.2.2.1
        exact ⟨fun j hj => by rw [o' _ (by omega)]; exact c1 j hj, fun p hp => ⟨by rw [o' _ (by omega)]; exact (c2 p hp).1, fun j hj => by
          have := (hvb.2.1 p hp).1
          rw [o' _ (by omega)]; exact (c2 p hp).2 j hj⟩, fun p hp => by rw [o' _ (by omega)]; exact c3 p hp, by rw [o' _ (by omega)]; exact c4, fun j hj => by rw [o' _ (by omega)]; exact c5 j hj⟩
  · refine ⟨-2, mC, mM, ?_, by simp [f_X12_image, sM_in, c0], hI⟩
    unfold f_X11_image
    by_cases c1 : x1 < 0
    · rw [if_pos c1]
    · rw [if_neg c1, if_pos (by omega)]
theorem op_restore : jOp_restore jN shC shM Inv := by
  intro mC mM x1 hx hI
  obtain ⟨A, hV, hC, hM⟩ := id hI
  obtain ⟨hF, hRR, hK⟩ := id hC
  obtain ⟨hFM, hKM⟩ := id hM
  have hJ := jN_big
  by_cases c0 : 0 ≤ x1 ∧ x1 ≤ 1
  · obtain ⟨n, rfl⟩ : ∃ n : Nat, x1 = n := ⟨x1.toNat, by omega⟩
    have hn : n < 2 := by omega
    have hb := img_bL hn
    have hb1 := (bC hF _ hb).1
    have k0 := hK.2.2.2 n hn
    have k0' := hKM.2.2.2 n hn
    by_cases c1 : A.2.2.1 n = true
    · have hvb := hV.2.2 n hn c1
      rw [if_pos c1] at k0 k0'
      obtain ⟨M, e, k, f, g, hF2⟩ := s_copyFrom (N := jN) (by omega) hF two_bL hb (by omega) hvb (k0.2 c1)
      obtain ⟨M', e', k', f', g', hFM2⟩ := sM_restore (N := jN) (by omega) hFM hn hvb k0'.1 (k0'.2 c1)
      refine ⟨1, M, M', ?_, e', (A.2.2.2 n, A.2), ⟨hvb, hV.2⟩, ⟨hF2, fun r hr => (hRR r hr).same (fun a h1 h2 i => f a (by have := rr_ge r hr; omega) i), ?_⟩, hFM2, ?_⟩
      · unfold f_X11_restore
        rw [if_neg (by omega), if_neg (by omega), jck_ok sC1, Option.bind_some, s_imageOf hF hn, Option.bind_some, jrf_ok hb1, Option.bind_some, k0.1, if_neg (by decide), jrf_ok sC1, Option.bind_some, hF.t1_0, jck_ok sC2, Option.bind_some, e, Option.bind_some]
      · obtain ⟨k1, k2, k3, k4⟩ := hK
        exact ⟨k, by rw [f 62 (by omega)]; exact k2, fun i hi => by rw [f 63 (by omega)]; exact k3 i hi, KCi.same k4 (fun a h1 h2 i => f a (by omega) i)⟩
      · obtain ⟨k1, k2, k3, k4⟩ := hKM
        exact ⟨k', by rw [g']; exact k2, fun i hi => by rw [f' 3 (by omega)]; exact k3 i hi, KMi.same k4 (f' 23 (by omega)) (f' 24 (by omega))⟩
    · rw [if_neg c1] at k0 k0'
      refine ⟨-3, mC, mM, ?_, ?_, hI⟩
      · unfold f_X11_restore
        rw [if_neg (by omega), if_neg (by omega), jck_ok sC1, Option.bind_some, s_imageOf hF hn, Option.bind_some, jrf_ok hb1, Option.bind_some, k0.1, if_pos rfl]
      · unfold f_X12_restore
        rw [sM_in, if_pos c0, Option.bind_some, if_neg (by decide), jrf_ok sM1, Option.bind_some, hFM.t33, jra_ok sM24 (by omega) (by omega), Option.bind_some, Int.toNat_natCast, k0'.1, if_pos rfl]
  · refine ⟨-2, mC, mM, ?_, by simp [f_X12_restore, sM_in, c0], hI⟩
    unfold f_X11_restore
    by_cases c1 : x1 < 0
    · rw [if_pos c1]
    · rw [if_neg c1, if_pos (by omega)]
