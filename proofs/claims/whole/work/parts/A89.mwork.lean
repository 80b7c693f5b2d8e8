/-! the reference's tables in memory -/
def GW (m : jm_M) (p cn : Nat) (sg : Nat → Int) (S w h ms : Nat) (W : Bool) : Prop := MF m ∧ SMm m S w h ∧ m 2 2 = (ms : Int) ∧ (∀ i, i < cn → m 5 (30 * p + i) = sg i ∧ m 6 (30 * p + i) = (zs sg 4 i : Int)) ∧ m 1 18 = (KN S : Int) ∧ m 1 19 = (if W then 1 else 0)
def FrK (m M : jm_M) (pl : Nat) : Prop := (∀ a, a ≠ 1 → a ≠ 10 → a ≠ 11 → a ≠ 12 → a ≠ 13 → a ≠ 14 → a ≠ 15 → a ≠ 17 → ∀ j, M a j = m a j) ∧ (∀ j, j ≠ 10 → j ≠ 12 → j ≠ 22 → j ≠ 23 → j ≠ 25 → M 1 j = m 1 j) ∧ (∀ j, j < pl → M 11 j = m 11 j ∧ M 12 j = m 12 j ∧ M 13 j = m 13 j) ∧ ∀ j, j < 625 * pl → M 14 j = m 14 j ∧ M 15 j = m 15 j
theorem FrK.rf (m : jm_M) (pl : Nat) : FrK m m pl := ⟨fun _ _ _ _ _ _ _ _ _ _ => rfl, fun _ _ _ _ _ _ => rfl, fun _ _ => ⟨rfl, rfl, rfl⟩, fun _ _ => ⟨rfl, rfl⟩⟩
theorem FrK.tr {m m1 m2 : jm_M} {pl pl2 : Nat} (h1 : FrK m m1 pl) (h2 : FrK m1 m2 pl2) (hp : pl ≤ pl2) : FrK m m2 pl := by
  have h625 : 625 * pl ≤ 625 * pl2 := Nat.mul_le_mul_left _ hp
  refine ⟨fun a a1 a2 a3 a4 a5 a6 a7 a8 j => (h2.1 a a1 a2 a3 a4 a5 a6 a7 a8 j).trans (h1.1 a a1 a2 a3 a4 a5 a6 a7 a8 j), fun j a1 a2 a3 a4 a5 => (h2.2.1 j a1 a2 a3 a4 a5).trans (h1.2.1 j a1 a2 a3 a4 a5), fun j hj => ?_, fun j hj => ?_⟩
  · have x := h2.2.2.1 j (by omega)
    have y := h1.2.2.1 j hj
    exact ⟨x.1.trans y.1, x.2.1.trans y.2.1, x.2.2.trans y.2.2⟩
  · have x := h2.2.2.2 j (by omega)
    have y := h1.2.2.2 j hj
    exact ⟨x.1.trans y.1, x.2.trans y.2⟩
theorem FrK.f1 {m M : jm_M} {pl k : Nat} {v : Int} (h : FrK m M pl) (hk : k = 10 ∨ k = 12 ∨ k = 22 ∨ k = 23 ∨ k = 25) : FrK m (jm_up M 1 k v) pl := ⟨fun a a1 a2 a3 a4 a5 a6 a7 a8 j => (up_ne a1).trans (h.1 a a1 a2 a3 a4 a5 a6 a7 a8 j), fun j a1 a2 a3 a4 a5 => (up_nk (by omega)).trans (h.2.1 j a1 a2 a3 a4 a5), fun j hj => by rw [up_ne (by decide), up_ne (by decide), up_ne (by decide)]; exact h.2.2.1 j hj, fun j hj => by rw [up_ne (by decide), up_ne (by decide)]; exact h.2.2.2 j hj⟩
theorem FrK.fr {m M : jm_M} {pl a k : Nat} {v : Int} (h : FrK m M pl) (ha : a = 11 ∨ a = 12 ∨ a = 13) (hk : pl ≤ k) : FrK m (jm_up M a k v) pl := ⟨fun b a1 a2 a3 a4 a5 a6 a7 a8 j => (up_ne (by omega)).trans (h.1 b a1 a2 a3 a4 a5 a6 a7 a8 j), fun j a1 a2 a3 a4 a5 => (up_ne (by omega)).trans (h.2.1 j a1 a2 a3 a4 a5), fun j hj => by rw [up_nk (by omega), up_nk (by omega), up_nk (by omega)]; exact h.2.2.1 j hj, fun j hj => by rw [up_ne (by omega), up_ne (by omega)]; exact h.2.2.2 j hj⟩
theorem FrK.MF {m M : jm_M} {pl : Nat} (hf : FrK m M pl) (hF : MF m) : MF M := hF.same fun q hq => by
  have h1 : ∀ q ∈ rfM, q.1 = 1 ∧ q.2.1 ≠ 10 ∧ q.2.1 ≠ 12 ∧ q.2.1 ≠ 22 ∧ q.2.1 ≠ 23 ∧ q.2.1 ≠ 25 := by decide
  obtain ⟨e, a1, a2, a3, a4, a5⟩ := h1 q hq
  rw [e]
  exact hf.2.1 _ a1 a2 a3 a4 a5
theorem GW.fr {m M : jm_M} {p cn : Nat} {sg : Nat → Int} {S w h ms pl : Nat} {W : Bool} (hG : GW m p cn sg S w h ms W) (hf : FrK m M pl) : GW M p cn sg S w h ms W := by
  obtain ⟨g1, g2, g3, g4, g5, g6⟩ := hG
  have r : ∀ a, 2 ≤ a → a ≤ 8 → ∀ j, M a j = m a j := fun a h1 h2 j => hf.1 a (by omega) (by omega) (by omega) (by omega) (by omega) (by omega) (by omega) (by omega) j
  exact ⟨hf.MF g1, g2.same (r 2 (by decide) (by decide)), by rw [r 2 (by decide) (by decide)]; exact g3, fun i hi => by rw [r 5 (by decide) (by decide), r 6 (by decide) (by decide)]; exact g4 i hi, by rw [hf.2.1 18 (by decide) (by decide) (by decide) (by decide) (by decide)]; exact g5, by rw [hf.2.1 19 (by decide) (by decide) (by decide) (by decide) (by decide)]; exact g6⟩
theorem sM_isBetter {m : jm_M} {W : Bool} {a b : Int} (h19 : m 1 19 = (if W then 1 else 0)) : f_X12_isBetter shM 1 a b m = some (if btr W a b then 1 else 0) := by
  unfold f_X12_isBetter btr
  by_cases c : b < 0
  · rw [if_pos c, if_pos c]
    by_cases d : a < 0
    · rw [if_pos d, decide_eq_false (show ¬ (0 : Int) ≤ a by omega)]; rfl
    · rw [if_neg d, decide_eq_true (show (0 : Int) ≤ a by omega)]; rfl
  · rw [if_neg c, if_neg c]
    by_cases d : a < 0
    · rw [if_pos d, decide_eq_false (show ¬ (0 : Int) ≤ a by omega)]; rfl
    · rw [if_neg d, decide_eq_true (show (0 : Int) ≤ a by omega), Bool.true_and, jrf_ok sM1, Option.bind_some, h19]
      cases W with
      | true =>
        rw [if_pos rfl, if_neg (by decide), if_pos rfl]
        by_cases e : b < a
        · rw [if_pos e, decide_eq_true e]; rfl
        · rw [if_neg e, decide_eq_false e]; rfl
      | false =>
        rw [if_pos (show (if false = true then (1 : Int) else 0) = 0 from rfl), if_neg (show ¬ (false = true) by decide)]
        by_cases e : a < b
        · rw [if_pos e, decide_eq_true e]; rfl
        · rw [if_neg e, decide_eq_false e]; rfl
theorem sh_ko {a1 : Nat} (h : a1 = 14 ∨ a1 = 15) : shM a1 = (13, 3750) ∧ rM a1 = true := by
  rcases h with rfl | rfl
  · exact ⟨sM14, rM_rows.2.2.2.2.2.2.2.2.2.2.2.2.1⟩
  · exact ⟨sM15, rM_rows.2.2.2.2.2.2.2.2.2.2.2.2.2.1⟩
theorem sM_keep {N K a1 f : Nat} {m : jm_M} (hN : 1000 ≤ N) (hF : MF m) (hK : m 1 18 = (K : Int)) (hK6 : K ≤ 625) (ha : a1 = 14 ∨ a1 = 15) (hf : f ≤ 5) :
    ∃ M, f_X12_keep N shM 1 a1 (f : Int) m = some M ∧ MF M ∧ (∀ k, k < K → M a1 (625 * f + k) = m 10 k) ∧ (∀ a, a ≠ a1 → ∀ j, M a j = m a j) ∧ (∀ j, j < 625 * f ∨ 625 * f + K ≤ j → M a1 j = m a1 j) := by
  obtain ⟨s1, s2⟩ := sh_ko ha
  obtain ⟨m1, n1, e1, i1, i2, i3, i4⟩ := loopN (fun g x m => f_X12_keep_l2 N shM g 1 a1 (f : Int) x m) K (fun k M => MF M ∧ (∀ j, j < k → M a1 (625 * f + j) = m 10 j) ∧ (∀ a, a ≠ a1 → ∀ j, M a j = m a j) ∧ (∀ j, j < 625 * f ∨ 625 * f + k ≤ j → M a1 j = m a1 j)) (by
    intro n k M hk ⟨g1, g2, g3, g4⟩
    refine ⟨jm_up M a1 (625 * f + k) (m 10 k), ?_, g1.upr s2, fun j hj => ?_, fun a ha j => (up_ne ha).trans (g3 a ha j), fun j hj => (up_nk (by omega)).trans (g4 j (by omega))⟩
    · show f_X12_keep_b2 N shM (f_X12_keep_l2 N shM n) 1 a1 (f : Int) k M = _
      unfold f_X12_keep_b2
      rw [jrf_ok sM1, Option.bind_some, g3 1 (by omega), hK, if_pos (by omega), jrf_ok sM1, Option.bind_some, g1.t11, jra_ok sM10 (by omega) (by omega), Option.bind_some, Int.toNat_natCast, g3 10 (by omega), jw_eq (x := 625 * (f : Int)) (by omega) (by omega), jw_eq (x := 625 * (f : Int) + (k : Int)) (by omega) (by omega), show 625 * (f : Int) + (k : Int) = ((625 * f + k : Nat) : Int) by omega, jwa_ok s1 (by omega) (by omega), Option.bind_some, Int.toNat_natCast, jw_succ (by omega)]
    · rw [up_row]
      by_cases c : j = k
      · rw [if_pos (by omega), c]
      · rw [if_neg (by omega)]; exact g2 j (by omega)) 0 N m (Nat.zero_le _) (by omega) ⟨hF, fun i hi => absurd hi (Nat.not_lt_zero i), fun _ _ _ => rfl, fun _ _ => rfl⟩
  refine ⟨m1, ?_, i1, i2, i3, i4⟩
  show f_X12_keep_l2 N shM N 1 a1 (f : Int) ((0 : Nat) : Int) m = _
  rw [e1]
  show f_X12_keep_b2 N shM (f_X12_keep_l2 N shM n1) 1 a1 (f : Int) (K : Int) m1 = _
  unfold f_X12_keep_b2
  rw [jrf_ok sM1, Option.bind_some, i3 1 (by omega), hK, if_neg (by omega)]
theorem sM_copyT {N K a1 f : Nat} {m : jm_M} (hN : 1000 ≤ N) (hF : MF m) (hK : m 1 18 = (K : Int)) (hK6 : K ≤ 625) (ha : a1 = 14 ∨ a1 = 15) (hf : f ≤ 5) :
    ∃ M, f_X12_copyFrom N shM 1 a1 (f : Int) m = some M ∧ MF M ∧ (∀ k, k < K → M 10 k = m a1 (625 * f + k)) ∧ (∀ a, a ≠ 10 → ∀ j, M a j = m a j) := by
  obtain ⟨s1, s2⟩ := sh_ko ha
  have w10 : rM 10 = true := rM_rows.2.2.2.2.2.2.2.2.1
  obtain ⟨m1, n1, e1, i1, i2, i3⟩ := loopN (fun g x m => f_X12_copyFrom_l2 N shM g 1 a1 (f : Int) x m) K (fun k M => MF M ∧ (∀ j, j < k → M 10 j = m a1 (625 * f + j)) ∧ (∀ a, a ≠ 10 → ∀ j, M a j = m a j)) (by
    intro n k M hk ⟨g1, g2, g3⟩
    refine ⟨jm_up M 10 k (m a1 (625 * f + k)), ?_, g1.upr w10, fun j hj => ?_, fun a ha j => (up_ne ha).trans (g3 a ha j)⟩
    · show f_X12_copyFrom_b2 N shM (f_X12_copyFrom_l2 N shM n) 1 a1 (f : Int) k M = _
      unfold f_X12_copyFrom_b2
      rw [jrf_ok sM1, Option.bind_some, g3 1 (by omega), hK, if_pos (by omega), jrf_ok sM1, Option.bind_some, g1.t11, jw_eq (x := 625 * (f : Int)) (by omega) (by omega), jw_eq (x := 625 * (f : Int) + (k : Int)) (by omega) (by omega), show 625 * (f : Int) + (k : Int) = ((625 * f + k : Nat) : Int) by omega, jra_ok s1 (by omega) (by omega), Option.bind_some, Int.toNat_natCast, g3 a1 (by omega), jwa_ok sM10 (by omega) (by omega), Option.bind_some, Int.toNat_natCast, jw_succ (by omega)]
    · rw [up_row]
      by_cases c : j = k
      · rw [if_pos (by omega), c]
      · rw [if_neg (by omega)]; exact g2 j (by omega)) 0 N m (Nat.zero_le _) (by omega) ⟨hF, fun i hi => absurd hi (Nat.not_lt_zero i), fun _ _ _ => rfl⟩
  refine ⟨m1, ?_, i1, i2, i3⟩
  show f_X12_copyFrom_l2 N shM N 1 a1 (f : Int) ((0 : Nat) : Int) m = _
  rw [e1]
  show f_X12_copyFrom_b2 N shM (f_X12_copyFrom_l2 N shM n1) 1 a1 (f : Int) (K : Int) m1 = _
  unfold f_X12_copyFrom_b2
  rw [jrf_ok sM1, Option.bind_some, i3 1 (by omega), hK, if_neg (by omega)]
theorem sM_joinT {N K a1 f : Nat} {m : jm_M} {W : Bool} (hN : 1000 ≤ N) (hF : MF m) (hK : m 1 18 = (K : Int)) (h19 : m 1 19 = (if W then 1 else 0)) (hK6 : K ≤ 625) (ha : a1 = 14 ∨ a1 = 15) (hf : f ≤ 5) :
    ∃ M, f_X12_joinFrom N shM 1 a1 (f : Int) m = some M ∧ MF M ∧ (∀ k, k < K → M 10 k = jn W (fun k => m 10 k) (fun k => m a1 (625 * f + k)) k) ∧ (∀ a, a ≠ 10 → ∀ j, M a j = m a j) := by
  obtain ⟨s1, s2⟩ := sh_ko ha
  have w10 : rM 10 = true := rM_rows.2.2.2.2.2.2.2.2.1
  obtain ⟨m1, n1, e1, i1, i2, i3, i4⟩ := loopN (fun g x m => f_X12_joinFrom_l2 N shM g 1 a1 (f : Int) x m) K (fun k M => MF M ∧ (∀ j, j < k → M 10 j = jn W (fun k => m 10 k) (fun k => m a1 (625 * f + k)) j) ∧ (∀ a, a ≠ 10 → ∀ j, M a j = m a j) ∧ (∀ j, k ≤ j → M 10 j = m 10 j)) (by
    intro n k M hk ⟨g1, g2, g3, g4⟩
    refine ⟨jm_up M 10 k (jn W (fun k => m 10 k) (fun k => m a1 (625 * f + k)) k), ?_, g1.upr w10, fun j hj => ?_, fun a ha j => (up_ne ha).trans (g3 a ha j), fun j hj => (up_nk (by omega)).trans (g4 j (by omega))⟩
    · show f_X12_joinFrom_b2 N shM (f_X12_joinFrom_l2 N shM n) 1 a1 (f : Int) k M = _
      unfold f_X12_joinFrom_b2
      rw [jrf_ok sM1, Option.bind_some, g3 1 (by omega), hK, if_pos (by omega), jw_eq (x := 625 * (f : Int)) (by omega) (by omega), jw_eq (x := 625 * (f : Int) + (k : Int)) (by omega) (by omega), show 625 * (f : Int) + (k : Int) = ((625 * f + k : Nat) : Int) by omega, jra_ok s1 (by omega) (by omega), Option.bind_some, Int.toNat_natCast, g3 a1 (by omega), jrf_ok sM1, Option.bind_some, Option.bind_some, g1.t11, jra_ok sM10 (by omega) (by omega), Option.bind_some, Int.toNat_natCast, g4 k (Nat.le_refl _), jck_ok sM1, Option.bind_some, sM_isBetter (by rw [g3 1 (by omega)]; exact h19), Option.bind_some, ifb, Option.bind_some, g1.t11, jra_ok sM10 (by omega) (by omega), Option.bind_some, Int.toNat_natCast, g4 k (Nat.le_refl _)]
      unfold f_X12_joinFrom_b52 jn
      rw [jw_succ (by omega)]
      by_cases c : btr W (m a1 (625 * f + k)) (m 10 k) = true
      · rw [if_pos c, if_pos c, jwa_ok sM10 (by omega) (by omega), Option.bind_some, Int.toNat_natCast]
      · rw [if_neg c, if_neg c, jwa_ok sM10 (by omega) (by omega), Option.bind_some, Int.toNat_natCast]
    · rw [up_row]
      by_cases c : j = k
      · rw [if_pos (by omega), c]
      · rw [if_neg (by omega)]; exact g2 j (by omega)) 0 N m (Nat.zero_le _) (by omega) ⟨hF, fun i hi => absurd hi (Nat.not_lt_zero i), fun _ _ _ => rfl, fun _ _ => rfl⟩
  refine ⟨m1, ?_, i1, i2, i3⟩
  show f_X12_joinFrom_l2 N shM N 1 a1 (f : Int) ((0 : Nat) : Int) m = _
  rw [e1]
  show f_X12_joinFrom_b2 N shM (f_X12_joinFrom_l2 N shM n1) 1 a1 (f : Int) (K : Int) m1 = _
  unfold f_X12_joinFrom_b2
  rw [jrf_ok sM1, Option.bind_some, i3 1 (by omega), hK, if_neg (by omega)]
/-- fetchAll -/
theorem sM_fetchAll {N p cn S w h ms l : Nat} {sg : Nat → Int} {W : Bool} {m : jm_M} {B : Nat} (hN : 1000 ≤ N) (hT : ST S w h) (hms : ms ≤ 20) (hl : l < 8) (hG : GW m p cn sg S w h ms W) (hB : ∀ k, k < KN S → m 10 k ≤ (B : Int)) (hB2 : B ≤ 1000000) :
    ∃ M, f_X12_fetchAll N shM 1 (l : Int) m = some M ∧ MF M ∧ (∀ k, k < KN S → M 10 k = fAn W S w h ms l (fun k => m 10 k) (KN S) k) ∧ (∀ a, a ≠ 1 → a ≠ 10 → a ≠ 17 → ∀ j, M a j = m a j) ∧ (∀ j, j ≠ 10 → M 1 j = m 1 j) := by
  obtain ⟨g1, g2, g3, g4, g5, g6⟩ := id hG
  have w10 : rM 10 = true := rM_rows.2.2.2.2.2.2.2.2.1
  have w17 : rM 17 = true := rM_rows.2.2.2.2.2.2.2.2.2.2.2.2.2.2.2.1
  have hK6 := (KN_le hT.1).1
  -- then: none
  obtain ⟨m1, n1, e1, i1, i2, i3⟩ := loopN (fun g x m => f_X12_fetchAll_l2 N shM g 1 (l : Int) x m) (KN S) (fun k M => MF M ∧ (∀ j, j < k → M 17 j = -1) ∧ (∀ a, a ≠ 17 → ∀ j, M a j = m a j)) (by
    intro n k M hk ⟨k1, k2, k3⟩
    refine ⟨jm_up M 17 k (-1), ?_, k1.upr w17, fun j hj => ?_, fun a ha j => (up_ne ha).trans (k3 a ha j)⟩
    · show f_X12_fetchAll_b2 N shM (f_X12_fetchAll_l2 N shM n) 1 (l : Int) k M = _
      unfold f_X12_fetchAll_b2
      rw [jrf_ok sM1, Option.bind_some, k3 1 (by omega), g5, if_pos (by omega), jrf_ok sM1, Option.bind_some, k1.t24, jwa_ok sM17 (by omega) (by omega), Option.bind_some, Int.toNat_natCast, jw_succ (by omega)]
    · rw [up_row]
      by_cases c : j = k
      · rw [if_pos c]
      · rw [if_neg c]; exact k2 j (by omega)) 0 N m (Nat.zero_le _) (by omega) ⟨g1, fun i hi => absurd hi (Nat.not_lt_zero i), fun _ _ _ => rfl⟩
  -- then: the best
  obtain ⟨m2, n2, e2, j1, j2, j3, j4⟩ := loopN (fun g x m => f_X12_fetchAll_l25 N shM g 1 (l : Int) x m) (KN S) (fun k M => MF M ∧ (∀ j, j < KN S → M 17 j = fAn W S w h ms l (fun k => m 10 k) k j) ∧ (∀ a, a ≠ 1 → a ≠ 17 → ∀ j, M a j = m a j) ∧ (∀ j, j ≠ 10 → M 1 j = m 1 j)) (by
    intro n k M hk ⟨k1, k2, k3, k4⟩
    have hs2 : SMm M S w h := g2.same (k3 2 (by decide) (by decide))
    have e18 : M 1 18 = (KN S : Int) := by rw [k4 18 (by decide)]; exact g5
    have e10 : M 10 k = m 10 k := k3 10 (by decide) (by decide) k
    have hb : f_X12_fetchAll_l25 N shM (n + 1) 1 (l : Int) (k : Int) M = f_X12_fetchAll_b25 N shM (f_X12_fetchAll_l25 N shM n) 1 (l : Int) k M := rfl
    by_cases c : m 10 k < 0
    · refine ⟨M, ?_, k1, fun j hj => ?_, k3, k4⟩
      · show f_X12_fetchAll_l25 N shM (n + 1) 1 (l : Int) (k : Int) M = _
        rw [hb]
        unfold f_X12_fetchAll_b25 f_X12_fetchAll_b107
        rw [jrf_ok sM1, Option.bind_some, e18, if_pos (by omega), jrf_ok sM1, Option.bind_some, k1.t11, jra_ok sM10 (by omega) (by omega), Option.bind_some, Int.toNat_natCast, e10, if_pos c, jw_succ (by omega)]
      · rw [k2 j hj]
        exact (congrFun (if_pos c : fAn W S w h ms l (fun k => m 10 k) (k + 1) = fAn W S w h ms l (fun k => m 10 k) k) j).symm
    · have hfk := fK_lt (w := w) hT hl hk
      have hft := sM_fetch (N := N) (w := w) (by omega) k1 hT hs2 hk hl
      have hBk := hB k hk
      let M1 : jm_M := jm_up M 1 10 (if tK S h k l then 1 else 0)
      have hF1 : MF M1 := k1.up n1M.1
      have m1r : ∀ a, a ≠ 1 → ∀ j, M1 a j = M a j := fun a ha j => up_ne ha
      have ecs : (if tK S h k l then (1 : Int) else (ms : Int)) = (cs S h ms k l : Int) := by unfold cs; split <;> rfl
      have hcs : cs S h ms k l ≤ 20 := by unfold cs; split <;> omega
      have hnew : ∀ v : Int, v = m 10 k + (cs S h ms k l : Int) → f_X12_fetchAll_b72 N shM (f_X12_fetchAll_l25 N shM n) 1 (l : Int) (k : Int) (fK S w h k l : Int) (m 10 k) (cs S h ms k l : Int) M1 = f_X12_fetchAll_l25 N shM n 1 (l : Int) ((k + 1 : Nat) : Int) (jm_up M1 17 (fK S w h k l) (if btr W v (M 17 (fK S w h k l)) then v else M 17 (fK S w h k l))) := by
        intro v hv
        unfold f_X12_fetchAll_b72 f_X12_fetchAll_b106 f_X12_fetchAll_b107
        rw [jrf_ok sM1, Option.bind_some, Option.bind_some, hF1.t24, jra_ok sM17 (by omega) (by omega), Option.bind_some, Int.toNat_natCast, jck_ok sM1, Option.bind_some, jw_eq (x := m 10 k + (cs S h ms k l : Int)) (by omega) (by omega), ← hv, m1r 17 (by decide), sM_isBetter (W := W) (by show jm_up _ _ _ _ _ _ = _; rw [up_nk (by decide), k4 19 (by decide)]; exact g6), Option.bind_some, ifb, Option.bind_some, hF1.t24, jra_ok sM17 (by omega) (by omega), Option.bind_some, Int.toNat_natCast, m1r 17 (by decide), jw_succ (by omega)]
        by_cases d : btr W v (M 17 (fK S w h k l)) = true
        · rw [if_pos d, if_pos d, jwa_ok sM17 (by omega) (by omega), Option.bind_some, Int.toNat_natCast]
        · rw [if_neg d, if_neg d, jwa_ok sM17 (by omega) (by omega), Option.bind_some, Int.toNat_natCast]
      refine ⟨jm_up M1 17 (fK S w h k l) (if btr W (m 10 k + (cs S h ms k l : Int)) (M 17 (fK S w h k l)) then m 10 k + (cs S h ms k l : Int) else M 17 (fK S w h k l)), ?_, hF1.upr w17, fun j hj => ?_, fun a a1 a2 j => by rw [up_ne a2, m1r a a1]; exact k3 a a1 a2 j, fun j hj => by rw [up_ne (by decide)]; show jm_up _ _ _ _ _ _ = _; rw [up_nk hj]; exact k4 j hj⟩
      · show f_X12_fetchAll_l25 N shM (n + 1) 1 (l : Int) (k : Int) M = _
        rw [hb]
        unfold f_X12_fetchAll_b25
        rw [jrf_ok sM1, Option.bind_some, e18, if_pos (by omega), jrf_ok sM1, Option.bind_some, k1.t11, jra_ok sM10 (by omega) (by omega), Option.bind_some, Int.toNat_natCast, e10, if_neg c, jck_ok sM1, Option.bind_some, hft, Option.bind_some]
        dsimp only
        rw [show jm_up M 1 10 (if tK S h k l = true then 1 else 0) = M1 from rfl, jrf_ok sM1, Option.bind_some, hF1.t11, jra_ok sM10 (by omega) (by omega), Option.bind_some, Int.toNat_natCast, m1r 10 (by decide), e10, jrf_ok sM1, Option.bind_some, (show M1 1 10 = (if tK S h k l then 1 else 0) from up_eq), ifb]
        rw [← hnew _ rfl]
        cases ht : tK S h k l with
        | true =>
          rw [ht] at ecs
          have ecs : (1 : Int) = (cs S h ms k l : Int) := ecs
          rw [if_pos rfl, ← ecs]
        | false =>
          rw [ht] at ecs
          have ecs : (ms : Int) = (cs S h ms k l : Int) := ecs
          rw [if_neg (by decide), jrf_ok sM1, Option.bind_some, hF1.t0, jra_ok sM2 (by decide) (by decide), Option.bind_some, show (2 : Int).toNat = 2 from rfl, m1r 2 (by decide), k3 2 (by decide) (by decide), g3, ← ecs]
      · have ef : fAn W S w h ms l (fun k => m 10 k) (k + 1) j = (if j = fK S w h k l then (if btr W (m 10 k + (cs S h ms k l : Int)) (fAn W S w h ms l (fun k => m 10 k) k j) then m 10 k + (cs S h ms k l : Int) else fAn W S w h ms l (fun k => m 10 k) k j) else fAn W S w h ms l (fun k => m 10 k) k j) := congrFun (if_neg c : fAn W S w h ms l (fun k => m 10 k) (k + 1) = fun j => if j = fK S w h k l then (if btr W (m 10 k + (cs S h ms k l : Int)) (fAn W S w h ms l (fun k => m 10 k) k j) then m 10 k + (cs S h ms k l : Int) else fAn W S w h ms l (fun k => m 10 k) k j) else fAn W S w h ms l (fun k => m 10 k) k j) j
        rw [ef, up_row, m1r 17 (by decide), k2 j hj, k2 _ hfk]
        by_cases d : j = fK S w h k l
        · rw [if_pos d, if_pos d, d]
        · rw [if_neg d, if_neg d]) 0 N m1 (Nat.zero_le _) (by omega) ⟨i1, fun j hj => i2 j hj, fun a a1 a2 j => i3 a a2 j, fun j _ => i3 1 (by decide) j⟩
  -- now: then
  obtain ⟨m3, n3, e3, l1, l2, l3⟩ := loopN (fun g x m => f_X12_fetchAll_l115 N shM g 1 x m) (KN S) (fun k M => MF M ∧ (∀ j, j < k → M 10 j = m2 17 j) ∧ (∀ a, a ≠ 10 → ∀ j, M a j = m2 a j)) (by
    intro n k M hk ⟨k1, k2, k3⟩
    refine ⟨jm_up M 10 k (m2 17 k), ?_, k1.upr w10, fun j hj => ?_, fun a ha j => (up_ne ha).trans (k3 a ha j)⟩
    · show f_X12_fetchAll_b115 N shM (f_X12_fetchAll_l115 N shM n) 1 k M = _
      unfold f_X12_fetchAll_b115
      rw [jrf_ok sM1, Option.bind_some, k3 1 (by omega), j4 18 (by decide), g5, if_pos (by omega), jrf_ok sM1, Option.bind_some, jrf_ok sM1, Option.bind_some, k1.t24, k1.t11, jra_ok sM17 (by omega) (by omega), Option.bind_some, Int.toNat_natCast, k3 17 (by decide), jwa_ok sM10 (by omega) (by omega), Option.bind_some, Int.toNat_natCast, jw_succ (by omega)]
    · rw [up_row]
      by_cases c : j = k
      · rw [if_pos c, c]
      · rw [if_neg c]; exact k2 j (by omega)) 0 N m2 (Nat.zero_le _) (by omega) ⟨j1, fun i hi => absurd hi (Nat.not_lt_zero i), fun _ _ _ => rfl⟩
  refine ⟨m3, ?_, l1, fun k hk => by rw [l2 k hk]; exact j2 k hk, fun a a1 a2 a3 j => by rw [l3 a a2]; exact j3 a a1 a3 j, fun j hj => by rw [l3 1 (by decide)]; exact j4 j hj⟩
  show f_X12_fetchAll_l2 N shM N 1 (l : Int) ((0 : Nat) : Int) m = _
  rw [e1]
  show f_X12_fetchAll_b2 N shM (f_X12_fetchAll_l2 N shM n1) 1 (l : Int) (KN S : Int) m1 = _
  unfold f_X12_fetchAll_b2
  rw [jrf_ok sM1, Option.bind_some, i3 1 (by omega), g5, if_neg (by omega)]
  show f_X12_fetchAll_l25 N shM N 1 (l : Int) ((0 : Nat) : Int) m1 = _
  rw [e2]
  show f_X12_fetchAll_b25 N shM (f_X12_fetchAll_l25 N shM n2) 1 (l : Int) (KN S : Int) m2 = _
  unfold f_X12_fetchAll_b25
  rw [jrf_ok sM1, Option.bind_some, j4 18 (by decide), g5, if_neg (by omega)]
  show f_X12_fetchAll_l115 N shM N 1 ((0 : Nat) : Int) m2 = _
  rw [e3]
  show f_X12_fetchAll_b115 N shM (f_X12_fetchAll_l115 N shM n3) 1 (KN S : Int) m3 = _
  unfold f_X12_fetchAll_b115
  rw [jrf_ok sM1, Option.bind_some, l3 1 (by decide), j4 18 (by decide), g5, if_neg (by omega)]
