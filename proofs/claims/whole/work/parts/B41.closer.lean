def tcO (sg : Nat → Int) (j : Nat) : Nat → Nat → Int → Int
  | 0 => fun _ acc => acc
  | r + 1 => fun k acc => tcO sg j r (k + 1) (if (98 ≤ sg k ∧ sg k ≤ 100) ∧ j < k + zs sg 4 k then jw (acc * (tmO (sg k) : Int)) else acc)
theorem tcO_s {sg : Nat → Int} {j r k : Nat} {acc : Int} : tcO sg j (r + 1) k acc = tcO sg j r (k + 1) (if (98 ≤ sg k ∧ sg k ≤ 100) ∧ j < k + zs sg 4 k then jw (acc * (tmO (sg k) : Int)) else acc) := rfl
theorem jw_id {x : Int} (h : jIn x) : jw x = x := jw_eq h.1 h.2
theorem s_comes {N t cn : Nat} {sg : Nat → Int} {j : Nat} {m : jm_M} (hN : 100 ≤ N) (ht : t ∈ tL) (hF : CF m) (hX : TX cn sg) (hC : CT m t cn sg) (h0 : m 187 0 = (t : Int)) (hj : j < cn) : f_X2_timesComeTo N shC 187 (j : Int) m = some (tcO sg j j 0 1) := by
  have hcn := hX.1
  have et : (m 187 0).toNat = t := by rw [h0]; exact Int.toNat_natCast _
  have t1 := (tC hF t ht).1
  have key : ∀ (r k n : Nat) (acc : Int), k + r = j → r < n → f_X2_timesComeTo_l4 N shC n 187 (j : Int) acc (k : Int) m = some (tcO sg j r k acc) := by
    intro r
    induction r with
    | zero =>
      intro k n acc hk hn
      obtain ⟨n, rfl⟩ : ∃ n', n = n' + 1 := ⟨n - 1, by omega⟩
      unfold f_X2_timesComeTo_l4 f_X2_timesComeTo_b4
      rw [if_neg (by omega)]
      rfl
    | succ r ih =>
      intro k n acc hk hn
      obtain ⟨n, rfl⟩ : ∃ n', n = n' + 1 := ⟨n - 1, by omega⟩
      unfold f_X2_timesComeTo_l4 f_X2_timesComeTo_b4 f_X2_timesComeTo_b32
      rw [if_pos (by omega), jrf_ok sC187, Option.bind_some, et, jck_ok t1, Option.bind_some, s_around hF ht hX hC (by omega) hj, Option.bind_some, ifb, jw_succ (by omega), tcO_s]
      by_cases c : (98 ≤ sg k ∧ sg k ≤ 100) ∧ j < k + zs sg 4 k
      · rw [if_pos c, if_pos c, Option.bind_some, et, jck_ok t1, Option.bind_some, s_times hF ht hC hcn (by omega) c.1, Option.bind_some]
        exact ih (k + 1) n _ (by omega) (by omega)
      · rw [if_neg c, if_neg c]
        exact ih (k + 1) n _ (by omega) (by omega)
  unfold f_X2_timesComeTo
  exact key j 0 N 1 (by omega) (by omega)
theorem sM_comes {p cn : Nat} {sg : Nat → Int} {S w h ms j : Nat} {m : jm_M} (hp : p < 4) (hX : TX cn sg) (hG : GBo m p cn sg S w h ms) (hj : j < cn) : f_X12_comesTo jN shM 1 (p : Int) (j : Int) m = some (tcO sg j j 0 1) := by
  have hJ := jN_huge
  have hcn := hX.1
  obtain ⟨⟨g1, g2, g4⟩, am, k2, k4⟩ := id hG
  have key : ∀ (r k n : Nat) (acc : Int), k + r = j → r < n → jIn acc → f_X12_comesTo_l5 jN shM n 1 (p : Int) (j : Int) acc (k : Int) m = some (tcO sg j r k acc) := by
    intro r
    induction r with
    | zero =>
      intro k n acc hk hn ha
      obtain ⟨n, rfl⟩ : ∃ n', n = n' + 1 := ⟨n - 1, by omega⟩
      unfold f_X12_comesTo_l5 f_X12_comesTo_b5
      rw [if_neg (by omega)]
      rfl
    | succ r ih =>
      intro k n acc hk hn ha
      obtain ⟨n, rfl⟩ : ∃ n', n = n' + 1 := ⟨n - 1, by omega⟩
      have hkc : k < cn := by omega
      have hz := (hX.node hkc).2
      have x1 : jw (jw (30 * (p : Int)) + (k : Int)) = ((30 * p + k : Nat) : Int) := by
        rw [jw_eq (x := 30 * (p : Int)) (by omega) (by omega), jw_eq (by omega) (by omega)]; omega
      unfold f_X12_comesTo_l5 f_X12_comesTo_b5 f_X12_comesTo_b61 f_X12_comesTo_b62
      rw [if_pos (by omega), jrf_ok sM1, Option.bind_some, g1.t4, x1, jra_ok sM5 (by omega) (by omega), Option.bind_some, Int.toNat_natCast, (g4 k hkc).1, sM_isLoop, Option.bind_some, ifb, jw_succ (by omega), tcO_s, Int.mul_one, jw_id ha]
      by_cases c1 : 98 ≤ sg k ∧ sg k ≤ 100
      · rw [if_pos c1, jrf_ok sM1, Option.bind_some, g1.t5, jra_ok sM6 (by omega) (by omega), Option.bind_some, Int.toNat_natCast, (g4 k hkc).2, jw_eq (x := (k : Int) + _) (by omega) (by omega)]
        by_cases c2 : j < k + zs sg 4 k
        · rw [if_pos (by omega), if_pos ⟨c1, c2⟩, Option.bind_some, g1.t4, jra_ok sM5 (by omega) (by omega), Option.bind_some, Int.toNat_natCast, (g4 k hkc).1, sM_timesOf c1, Option.bind_some]
          exact ih (k + 1) n _ (by omega) (by omega) (jIn_w _)
        · rw [if_neg (by omega), if_neg (fun z => c2 z.2)]
          exact ih (k + 1) n _ (by omega) (by omega) ha
      · rw [if_neg c1, if_neg (fun z => c1 z.1)]
        exact ih (k + 1) n _ (by omega) (by omega) ha
  unfold f_X12_comesTo
  exact key j 0 jN 1 (by omega) (by omega) (by unfold jIn; omega)
def clO (S w h : Nat) (ms : Int) (sg : Nat → Int) : Nat → Nat → Int → Int
  | 0 => fun _ acc => acc
  | r + 1 => fun k acc => clO S w h ms sg r (k + 1) (jw (acc + jw (jw ((bt8 (ocO S w h sg k (zs sg 4 k - 1) (k + 1) 0) : Int) * jw (ms - 1)) * tcO sg k k 0 1)))
theorem clO_s {S w h : Nat} {ms : Int} {sg : Nat → Int} {r k : Nat} {acc : Int} : clO S w h ms sg (r + 1) k acc = clO S w h ms sg r (k + 1) (jw (acc + jw (jw ((bt8 (ocO S w h sg k (zs sg 4 k - 1) (k + 1) 0) : Int) * jw (ms - 1)) * tcO sg k k 0 1))) := rfl
theorem s_closer {N t cn : Nat} {sg : Nat → Int} {S w h ms : Nat} {m : jm_M} (hN : 100 ≤ N) (ht : t ∈ tL) (hF : CF m) (hX : TX cn sg) (hC : CT m t cn sg) (hT : ST S w h) (hS : GS m S w h) (h0 : m 187 0 = (t : Int)) (hSO : SO m cn sg S w h) (h2 : m 3 2 = (ms : Int)) : ∃ M, f_X2_closer N shC 187 m = some (clO S w h (ms : Int) sg cn 0 (tbO S w h (ms : Int) 1 sg cn cn 0), M) ∧ CF M ∧ ∀ a, a ≠ 189 → ∀ j, M a j = m a j := by
  have hcn := hX.1
  have htl := tL_lt t ht
  obtain ⟨M, e, cf, f⟩ := s_bcostOf (one := 1) hN ht hF hX hC h0 hSO h2
  have ct : CT M t cn sg := hC.same (fun a h1 h2 j => f a (by omega) j)
  have gs : GS M S w h := ⟨by rw [f 3 (by decide)]; exact hS.1, by rw [f 3 (by decide)]; exact hS.2.1, by rw [f 3 (by decide)]; exact hS.2.2⟩
  have z0 : M 187 0 = (t : Int) := by rw [f 187 (by decide)]; exact h0
  have so : SO M cn sg S w h := fun j hj => by rw [f 188 (by decide)]; exact hSO j hj
  have z2 : M 3 2 = (ms : Int) := by rw [f 3 (by decide)]; exact h2
  have et : (M 187 0).toNat = t := by rw [z0]; exact Int.toNat_natCast _
  have t1 := (tC hF t ht).1
  have g2 : f_X1_setting shC 2 2 M = some (ms : Int) := by
    rw [s_setting cf two_bL (by decide) (by decide)]
    show some (M 3 2) = _
    rw [z2]
  have key : ∀ (r k n : Nat) (acc : Int), k + r = cn → r < n → f_X2_closer_l8 N shC n 187 acc (k : Int) M = some (clO S w h (ms : Int) sg r k acc, M) := by
    intro r
    induction r with
    | zero =>
      intro k n acc hk hn
      obtain ⟨n, rfl⟩ : ∃ n', n = n' + 1 := ⟨n - 1, by omega⟩
      unfold f_X2_closer_l8 f_X2_closer_b8
      rw [jrf_ok sC187, Option.bind_some, et, jrf_ok t1, Option.bind_some, ct.1, if_neg (by omega)]
      rfl
    | succ r ih =>
      intro k n acc hk hn
      obtain ⟨n, rfl⟩ : ∃ n', n = n' + 1 := ⟨n - 1, by omega⟩
      have hkc : k < cn := by omega
      have hlt : ocO S w h sg k (zs sg 4 k - 1) (k + 1) 0 < 256 := ocO_lt _ _ _ (by decide)
      have eb : f_J6_bitCount_0f7a4 (ocO S w h sg k (zs sg 4 k - 1) (k + 1) 0 : Int) = some (bt8 (ocO S w h sg k (zs sg 4 k - 1) (k + 1) 0) : Int) := bitc ⟨_, hlt⟩
      unfold f_X2_closer_l8 f_X2_closer_b8
      rw [jrf_ok sC187, Option.bind_some, et, jrf_ok t1, Option.bind_some, ct.1, if_pos (by omega), jck_ok sC187, Option.bind_some, s_once hN ht cf hX ct hT gs z0 so hkc, Option.bind_some, eb, Option.bind_some, jrf_ok sC187, Option.bind_some, cf.t187_1, jck_ok sC2, Option.bind_some, g2, Option.bind_some, Option.bind_some, s_comes hN ht cf hX ct z0 hkc, Option.bind_some, jw_succ (by omega), clO_s]
      exact ih (k + 1) n _ (by omega) (by omega)
  refine ⟨M, ?_, cf, f⟩
  unfold f_X2_closer
  rw [jck_ok sC187, Option.bind_some, e, Option.bind_some]
  exact key cn 0 N _ (by omega) (by omega)
theorem jIn_tb {S w h cn : Nat} {ms one : Int} {sg : Nat → Int} (hm : jIn ms) (ho : jIn one) : ∀ k j, jIn (tbO S w h ms one sg cn k j) := by
  intro k
  induction k with
  | zero => intro j; show jIn 0; unfold jIn; omega
  | succ k ih =>
    intro j
    have e : tbO S w h ms one sg cn (k + 1) j = if j = cn - 1 - k then ncO S w h ms one sg (tbO S w h ms one sg cn k) (cn - 1 - k) else tbO S w h ms one sg cn k j := rfl
    rw [e]
    by_cases c : j = cn - 1 - k
    · rw [if_pos c]
      unfold ncO
      split
      · unfold jIn; omega
      · split
        · exact jIn_w _
        · split
          · split
            · exact ih _
            · exact ih _
          · split
            · exact jIn_w _
            · unfold fcO
              split
              · unfold jIn; omega
              · split
                · exact ho
                · exact hm
    · rw [if_neg c]; exact ih j
theorem sM_closer {p cn : Nat} {sg : Nat → Int} {S w h ms : Nat} {m : jm_M} (hp : p < 4) (hT : ST S w h) (hX : TX cn sg) (hG : GBo m p cn sg S w h ms) (hf : ∀ k, k < cn → f_X12_isFetch shM 1 (p : Int) (k : Int) m = some (if 48 ≤ sg k ∧ sg k ≤ 55 then 1 else 0)) : ∀ (r k n : Nat) (acc : Int), k + r = cn → r < n → jIn acc → f_X12_bound_l240 jN shM n 1 (p : Int) 1 acc (k : Int) m = some (clO S w h (ms : Int) sg r k acc, m) := by
  have hJ := jN_huge
  have hcn := hX.1
  obtain ⟨⟨g1, g2, g4⟩, am, k2, k4⟩ := id hG
  intro r
  induction r with
  | zero =>
    intro k n acc hk hn ha
    obtain ⟨n, rfl⟩ : ∃ n', n = n' + 1 := ⟨n - 1, by omega⟩
    unfold f_X12_bound_l240 f_X12_bound_b240
    rw [jrf_ok sM1, Option.bind_some, g1.t3, jra_ok sM4 (by omega) (by omega), Option.bind_some, Int.toNat_natCast, k4, if_neg (by omega)]
    rfl
  | succ r ih =>
    intro k n acc hk hn ha
    obtain ⟨n, rfl⟩ : ∃ n', n = n' + 1 := ⟨n - 1, by omega⟩
    have hkc : k < cn := by omega
    have x1 : jw (jw (30 * (p : Int)) + (k : Int)) = ((30 * p + k : Nat) : Int) := by
      rw [jw_eq (x := 30 * (p : Int)) (by omega) (by omega), jw_eq (by omega) (by omega)]; omega
    have hlt : ocO S w h sg k (zs sg 4 k - 1) (k + 1) 0 < 256 := ocO_lt _ _ _ (by decide)
    have eb : f_X12_bits jN (ocO S w h sg k (zs sg 4 k - 1) (k + 1) 0 : Int) = some (bt8 (ocO S w h sg k (zs sg 4 k - 1) (k + 1) 0) : Int) := sM_bits ⟨_, hlt⟩
    unfold f_X12_bound_l240 f_X12_bound_b240 f_X12_bound_b304
    rw [jrf_ok sM1, Option.bind_some, g1.t3, jra_ok sM4 (by omega) (by omega), Option.bind_some, Int.toNat_natCast, k4, if_pos (by omega), if_pos rfl, jrf_ok sM1, Option.bind_some, g1.t4, x1, jra_ok sM5 (by omega) (by omega), Option.bind_some, Int.toNat_natCast, (g4 k hkc).1, sM_isLoop, Option.bind_some, ifb, jw_succ (by omega), clO_s]
    by_cases c : 98 ≤ sg k ∧ sg k ≤ 100
    · rw [if_pos c, jrf_ok sM1, Option.bind_some, g1.t0, jra_ok sM2 (by decide) (by decide), Option.bind_some, show (2 : Int).toNat = 2 from rfl, k2, jck_ok sM1, Option.bind_some, sM_once hp hT hX hG hf hkc, Option.bind_some, eb, Option.bind_some, Option.bind_some, sM_comes hp hX hG hkc, Option.bind_some, Int.mul_comm (jw ((ms : Int) - 1))]
      exact ih (k + 1) n _ (by omega) (by omega) (jIn_w _)
    · rw [if_neg c, ocO_none _ _ _ (fun i _ _ => oc1_no (fun z => c z.1)), show bt8 0 = 0 by decide]
      have e : jw (acc + jw (jw (((0 : Nat) : Int) * jw ((ms : Int) - 1)) * tcO sg k k 0 1)) = acc := by
        rw [show ((0 : Nat) : Int) = 0 from rfl, Int.zero_mul, show jw 0 = 0 from by decide, Int.zero_mul, show jw 0 = 0 from by decide, Int.add_zero, jw_id ha]
      rw [e]
      exact ih (k + 1) n _ (by omega) (by omega) ha
