/-! worst, periods and breaks of a board -/
def perO (q : jBd) (p : Nat) : Nat := (q.2.2.2.1 p).toNat
noncomputable def wrO (S w h ms : Nat) (q : jBd) (p : Nat) : Nat := if q.2.2.2.1 p = 0 then 0 else wst S w h ms (q.2.2.1 p)
noncomputable def dnO (S w h ms : Nat) (q : jBd) (p : Nat) : Int := dnF (wrO S w h ms q) (perO q) (bkO S h ms q) p 10000 (wrO S w h ms q p)
theorem wrO_le {S w h ms : Nat} {q : jBd} {p : Nat} (hT : ST S w h) (hV : VB q) (hms : ms ≤ 20) (hp : p < 4) : wrO S w h ms q p ≤ 5376 := by
  unfold wrO
  split
  · omega
  · exact wst_le hT (hV.2.1 p hp) hms
theorem perO_eq {q : jBd} (hV : VB q) {p : Nat} (hp : p < 4) : q.2.2.2.1 p = (perO q p : Int) ∧ perO q p ≤ 9999 := by
  have := hV.2.2.1 p hp
  unfold perO
  omega
/-- bounds of a sum of breaks -/
theorem twA_le {wr per : Nat → Nat} {bk : Nat → Nat → Nat} {p t : Nat} (hp : p < 4) (hw : ∀ q, q < 4 → wr q ≤ 5376) (hb : ∀ q l, bk q l ≤ 160) (ht : t ≤ 9999) : ∀ q, q ≤ 4 → twA wr per bk p t q ≤ 5376 + q * 55354464 := by
  intro q
  induction q with
  | zero => intro _; have := hw p hp; show wr p ≤ _; omega
  | succ q ih =>
    intro hq
    have h1 := ih (by omega)
    show twA wr per bk p t q + _ ≤ _
    by_cases c : 0 < per q
    · rw [if_pos c]
      have h2 : (t + per q - 1) / per q ≤ 9999 := by
        have : (t + per q - 1) / per q < t + 1 := (Nat.div_lt_iff_lt_mul c).mpr (by
          have : (t + 1) * 1 ≤ (t + 1) * per q := Nat.mul_le_mul_left _ c
          have h3 : (t + 1) * per q = t * per q + per q := Nat.succ_mul _ _
          have h4 : t * 1 ≤ t * per q := Nat.mul_le_mul_left _ c
          omega)
        omega
      have h3 := Nat.mul_le_mul h2 (show wr q + bk q p ≤ 5536 by have := hw q (by omega); have := hb q p; omega)
      omega
    · rw [if_neg c, Nat.add_zero]
      exact Nat.le_trans h1 (Nat.add_le_add_left (Nat.mul_le_mul_right _ (Nat.le_succ q)) _)
theorem s_worstOfT {m : jm_M} (hF : CF m) {p v : Nat} (hp : p < 4) (hv : m 191 p = (v : Int)) : f_X9_worstOf shC 190 (p : Int) m = some (v : Int) := by
  unfold f_X9_worstOf
  rw [if_neg (by omega), jrf_ok sC190, Option.bind_some, hF.t190_3, jlen_ok sC191 (by decide) (by decide) (by decide), Option.bind_some, if_pos (by omega), Option.bind_some, hF.t190_3, jra_ok sC191 (by omega) (by omega), Option.bind_some, Int.toNat_natCast, hv]
/-- what stands when the class has weighed -/
def GT (m : jm_M) (q : jBd) (S w h ms : Nat) : Prop := CF m ∧ CB m 2 q ∧ m 190 0 = (ms : Int) ∧ ∀ p, p < 4 → m 191 p = (wrO S w h ms q p : Int)
theorem s_timeWB {N S w h ms p t : Nat} {m : jm_M} {q : jBd} (hN : 1000 ≤ N) (hG : GT m q S w h ms) (hV : VB q) (hT : ST S w h) (hms : ms ≤ 20) (s0 : q.1 0 = (S : Int)) (s3 : q.1 3 = (h : Int)) (hp : p < 4) (ht : t ≤ 9999) : f_X9_timeWithBreaks N shC 190 (p : Int) (t : Int) m = some (tw (wrO S w h ms q) (perO q) (bkO S h ms q) p t : Int) := by
  obtain ⟨hF, hB, h0, hw⟩ := id hG
  have key : ∀ (r j n : Nat), j + r = p → r < n → f_X9_timeWithBreaks_l9 N shC n 190 (p : Int) (t : Int) (twA (wrO S w h ms q) (perO q) (bkO S h ms q) p t j : Int) (j : Int) m = some (tw (wrO S w h ms q) (perO q) (bkO S h ms q) p t : Int) := by
    intro r
    induction r with
    | zero =>
      intro j n hj hn
      obtain ⟨n, rfl⟩ : ∃ n', n = n' + 1 := ⟨n - 1, by omega⟩
      show f_X9_timeWithBreaks_b9 N shC (fun a0 x1 x2 x3 x4 => f_X9_timeWithBreaks_l9 N shC n a0 x1 x2 x3 x4 m) 190 (p : Int) (t : Int) _ (j : Int) m = _
      unfold f_X9_timeWithBreaks_b9
      rw [if_neg (by omega), show j = p by omega]
      rfl
    | succ r ih =>
      intro j n hj hn
      obtain ⟨n, rfl⟩ : ∃ n', n = n' + 1 := ⟨n - 1, by omega⟩
      have hj4 : j < 4 := by omega
      have ih' := ih (j + 1) n (by omega) (by omega)
      have hb1 := twA_le (wr := wrO S w h ms q) (per := perO q) (bk := bkO S h ms q) (t := t) hp (fun a ha => wrO_le hT hV hms ha) (fun a b => bkO_le hms) ht (j + 1) (by omega)
      have et : twA (wrO S w h ms q) (perO q) (bkO S h ms q) p t (j + 1) = twA (wrO S w h ms q) (perO q) (bkO S h ms q) p t j + (if 0 < perO q j then (t + perO q j - 1) / perO q j * (wrO S w h ms q j + bkO S h ms q j p) else 0) := rfl
      rw [et] at ih' hb1
      have hper := perO_eq hV hj4
      have hwj := wrO_le (ms := ms) hT hV hms hj4
      have hbj := bkO_le (S := S) (h := h) (q := q) (p := j) (l := p) hms
      show f_X9_timeWithBreaks_b9 N shC (fun a0 x1 x2 x3 x4 => f_X9_timeWithBreaks_l9 N shC n a0 x1 x2 x3 x4 m) 190 (p : Int) (t : Int) _ (j : Int) m = _
      unfold f_X9_timeWithBreaks_b9 f_X9_timeWithBreaks_b66
      rw [if_pos (by omega), jrf_ok sC190, Option.bind_some, hF.t190_1, jck_ok sC2, Option.bind_some, s_periodOf hF two_bL (by omega) (by omega), Option.bind_some, Int.toNat_natCast, hB.2.2.1 j hj4, hper.1, jw_succ (by omega)]
      by_cases c : 0 < perO q j
      · rw [if_pos c] at ih' hb1
        rw [if_pos (by omega), if_neg (by omega), jck_ok sC190, Option.bind_some, s_worstOfT hF hj4 (hw j hj4), Option.bind_some, jrf_ok sC190, Option.bind_some, Option.bind_some, h0, s_breakCost (show 100 ≤ N by omega) hF hV hB hT.1 hT.2.2.1 hms s0 s3 hj4 hp, Option.bind_some]
        generalize hx : (t + perO q j - 1) / perO q j = x at *
        generalize hy : wrO S w h ms q j + bkO S h ms q j p = y at *
        have e1 : jw (jw ((t : Int) + (perO q j : Int)) - 1) = ((t + perO q j - 1 : Nat) : Int) := by
          rw [jw_eq (x := (t : Int) + (perO q j : Int)) (by omega) (by omega), jw_eq (by omega) (by omega)]; omega
        have e2 : jw ((wrO S w h ms q j : Int) + (bkO S h ms q j p : Int)) = (y : Int) := by
          rw [jw_eq (by omega) (by omega)]; omega
        rw [e1, e2, jdiv_nat (by omega), hx]
        have hxy : x * y ≤ 5376 + 4 * 55354464 := by omega
        rw [show (x : Int) * (y : Int) = ((x * y : Nat) : Int) by omega, jw_nat (by omega), jw_eq (by omega) (by omega), show (twA (wrO S w h ms q) (perO q) (bkO S h ms q) p t j : Int) + ((x * y : Nat) : Int) = ((twA (wrO S w h ms q) (perO q) (bkO S h ms q) p t j + x * y : Nat) : Int) by omega]
        exact ih'
      · rw [if_neg c] at ih'
        rw [if_neg (by omega)]
        exact ih'
  unfold f_X9_timeWithBreaks
  rw [jck_ok sC190, Option.bind_some, s_worstOfT hF hp (hw p hp), Option.bind_some]
  exact key p 0 N (by omega) (by omega)
theorem s_timeOf {N S w h ms p : Nat} {m : jm_M} {q : jBd} (hN : 20000 ≤ N) (hG : GT m q S w h ms) (hV : VB q) (hT : ST S w h) (hms : ms ≤ 20) (s0 : q.1 0 = (S : Int)) (s3 : q.1 3 = (h : Int)) (hp : p < 4) : f_X9_timeOf N shC 190 (p : Int) m = some (dnO S w h ms q p) := by
  obtain ⟨hF, hB, h0, hw⟩ := id hG
  have hper := perO_eq hV hp
  have key : ∀ (r i n t : Nat), i + r = 10000 → r < n → f_X9_timeOf_l18 N shC n 190 (p : Int) (perO q p : Int) (t : Int) (i : Int) m = some (dnF (wrO S w h ms q) (perO q) (bkO S h ms q) p r t) := by
    intro r
    induction r with
    | zero =>
      intro i n t hi hn
      obtain ⟨n, rfl⟩ : ∃ n', n = n' + 1 := ⟨n - 1, by omega⟩
      show f_X9_timeOf_b18 N shC (fun a0 x1 x2 x3 x4 => f_X9_timeOf_l18 N shC n a0 x1 x2 x3 x4 m) 190 (p : Int) (perO q p : Int) (t : Int) (i : Int) m = _
      unfold f_X9_timeOf_b18
      rw [if_pos (by omega)]
      rfl
    | succ r ih =>
      intro i n t hi hn
      obtain ⟨n, rfl⟩ : ∃ n', n = n' + 1 := ⟨n - 1, by omega⟩
      show f_X9_timeOf_b18 N shC (fun a0 x1 x2 x3 x4 => f_X9_timeOf_l18 N shC n a0 x1 x2 x3 x4 m) 190 (p : Int) (perO q p : Int) (t : Int) (i : Int) m = some (if perO q p < t then -5 else if tw (wrO S w h ms q) (perO q) (bkO S h ms q) p t = t then (t : Int) else dnF (wrO S w h ms q) (perO q) (bkO S h ms q) p r (tw (wrO S w h ms q) (perO q) (bkO S h ms q) p t))
      unfold f_X9_timeOf_b18
      rw [if_neg (by omega)]
      by_cases c : perO q p < t
      · rw [if_pos (by omega), if_pos c]
      · rw [if_neg (by omega), if_neg c, jck_ok sC190, Option.bind_some, s_timeWB (by omega) hG hV hT hms s0 s3 hp (by omega), Option.bind_some]
        by_cases c2 : tw (wrO S w h ms q) (perO q) (bkO S h ms q) p t = t
        · rw [if_pos (by omega), if_pos c2]
        · rw [if_neg (by omega), if_neg c2, jw_succ (by omega)]
          exact ih (i + 1) n _ (by omega) (by omega)
  unfold f_X9_timeOf
  rw [jrf_ok sC190, Option.bind_some, hF.t190_1, jck_ok sC2, Option.bind_some, s_periodOf hF two_bL (by omega) (by omega), Option.bind_some, Int.toNat_natCast, hB.2.2.1 p hp, hper.1, jck_ok sC190, Option.bind_some, s_worstOfT hF hp (hw p hp), Option.bind_some]
  exact key 10000 0 N _ (by omega) (by omega)
theorem s_weigh {N S w h ms : Nat} {m : jm_M} {q : jBd} (hN : 1000 ≤ N) (hF : CF m) (hR : ∀ r ∈ rrL, RR m r) (hB : CB m 2 q) (hV : VB q) (hT : ST S w h) (hms : ms ≤ 20) (s0 : q.1 0 = (S : Int)) (s1 : q.1 1 = (w : Int)) (s3 : q.1 3 = (h : Int)) :
    ∃ M, f_X9_weigh N shC 190 (ms : Int) m = some M ∧ GT M q S w h ms ∧ (∀ r ∈ rrL, RR M r) ∧ (∀ a, a ≤ 64 → ∀ j, M a j = m a j) := by
  have n190 : nC 190 0 = true ∧ rC 191 = true := by decide
  have hB1 : CB (jm_up m 190 0 (ms : Int)) 2 q := hB.same (fun a h1 h2 j => up_ne (by omega)) (up_ne (by decide))
  obtain ⟨M, n1, e1, i1, i2, i3, i4, i5⟩ := loopN (fun g x m => f_X9_weigh_l7 N shC g 190 (ms : Int) x m) 4 (fun k M => CF M ∧ (∀ r ∈ rrL, RR M r) ∧ M 190 0 = (ms : Int) ∧ (∀ p, p < k → M 191 p = (wrO S w h ms q p : Int)) ∧ (∀ a, a ≤ 64 → ∀ j, M a j = m a j)) (by
    intro g k M hk ⟨g1, g2, g3, g4, g5⟩
    have hBM : CB M 2 q := hB.same (fun a h1 h2 j => g5 a (by omega) j) (g5 2 (by decide) 0)
    have gs3 : f_X1_setting shC 2 3 M = some (h : Int) := by
      rw [s_setting g1 two_bL (by decide) (by decide)]
      show some (M 3 3) = _
      rw [hBM.1 3 (by decide), s3]
    have fin : ∀ (M1 : jm_M) (v : Nat), CF M1 → (∀ r ∈ rrL, RR M1 r) → (∀ a, a ≤ 64 ∨ 111 < a → ∀ j, M1 a j = M a j) → v = wrO S w h ms q k → ∃ m', f_X9_weigh_b57 N shC (f_X9_weigh_l7 N shC g) 190 (ms : Int) (k : Int) 191 (k : Int) (v : Int) M1 = f_X9_weigh_l7 N shC g 190 (ms : Int) ((k + 1 : Nat) : Int) m' ∧ CF m' ∧ (∀ r ∈ rrL, RR m' r) ∧ m' 190 0 = (ms : Int) ∧ (∀ p, p < k + 1 → m' 191 p = (wrO S w h ms q p : Int)) ∧ (∀ a, a ≤ 64 → ∀ j, m' a j = m a j) := by
      intro M1 v hF1 hR1 hs1 hv
      refine ⟨jm_up M1 191 k (v : Int), ?_, hF1.up (nC_of n190.2 _), RRs.up hR1 (by decide), by rw [up_ne (by decide), hs1 190 (by omega)]; exact g3, fun p hp => ?_, fun a ha j => by rw [up_ne (by omega), hs1 a (by omega)]; exact g5 a ha j⟩
      · unfold f_X9_weigh_b57
        rw [jwa_ok sC191 (by omega) (by omega), Option.bind_some, Int.toNat_natCast, jw_succ (by omega)]
      · rw [up_row]
        by_cases c : p = k
        · rw [if_pos c, c, hv]
        · rw [if_neg c, hs1 191 (by omega)]; exact g4 p (by omega)
    show ∃ m', f_X9_weigh_b7 N shC (f_X9_weigh_l7 N shC g) 190 (ms : Int) (k : Int) M = _ ∧ _
    unfold f_X9_weigh_b7
    rw [if_pos (by omega), jrf_ok sC190, Option.bind_some, jrf_ok sC190, Option.bind_some, g1.t190_1, g1.t190_3, jck_ok sC2, Option.bind_some, s_isTask g1 hV hBM hk, Option.bind_some]
    by_cases c : q.2.2.2.1 k = 0
    · rw [if_pos c, if_pos rfl]
      exact fin M 0 g1 g2 (fun _ _ _ => rfl) (by unfold wrO; rw [if_pos c])
    · rw [if_neg c, if_neg (by decide)]
      have ht := tL_of two_bL hk
      obtain ⟨v, M1, nn, e, bv, rb, cf, rr, f1, f2⟩ := s_costOf (N := N) (W := true) (m := M) hN ht g1 g2 (hV.2.1 k hk) (hBM.2.1 k hk) hT hms (by rw [hBM.1 0 (by decide)]; exact s0) (by rw [hBM.1 1 (by decide)]; exact s1)
      have e : f_X8_costOf N shC 82 (2 + 4 + 4 * k) (ms : Int) (h : Int) 1 M = some ((v : Int), M1) := e
      have ev : v = wrO S w h ms q k := by
        unfold wrO
        rw [if_neg c]
        exact bv.uniq (wst_BV hT (hV.2.1 k hk))
      rw [jrf_ok sC190, Option.bind_some, Option.bind_some, g1.t190_1, g1.t190_2, jck_ok sC2, Option.bind_some, s_textOf g1 two_bL hk, Option.bind_some, Option.bind_some, g1.t190_1, jck_ok sC2, Option.bind_some, gs3, Option.bind_some, jck_ok sC82, Option.bind_some, e, Option.bind_some]
      exact fin M1 v cf rr (fun a ha j => f1 a (by omega) j) ev) 0 N (jm_up m 190 0 (ms : Int)) (by omega) (by omega) ⟨hF.up n190.1, RRs.up hR (by decide), up_eq, fun p hp => absurd hp (Nat.not_lt_zero p), fun a ha j => up_ne (by omega)⟩
  refine ⟨M, ?_, ⟨i1, hB.same (fun a h1 h2 j => i5 a (by omega) j) (i5 2 (by decide) 0), i3, i4⟩, i2, i5⟩
  unfold f_X9_weigh
  rw [jwf_ok sC190, Option.bind_some]
  show f_X9_weigh_l7 N shC N 190 (ms : Int) ((0 : Nat) : Int) _ = _
  rw [e1]
  show f_X9_weigh_b7 N shC (f_X9_weigh_l7 N shC n1) 190 (ms : Int) ((4 : Nat) : Int) M = _
  unfold f_X9_weigh_b7
  rw [if_neg (by omega)]
/-- late ones, as bits -/
noncomputable def ltO (S w h ms : Nat) (q : jBd) : Nat → Nat
  | 0 => 0
  | p + 1 => ltO S w h ms q p ||| (if q.2.2.2.1 p ≠ 0 ∧ dnO S w h ms q p = -5 then 2 ^ p else 0)
theorem ltO_lt (S w h ms : Nat) (q : jBd) : ∀ p, p ≤ 4 → ltO S w h ms q p < 256 := by
  intro p
  induction p with
  | zero => intro _; exact (by decide : 0 < 256)
  | succ p ih =>
    intro hp
    refine Nat.or_lt_two_pow (n := 8) (ih (by omega)) ?_
    split
    · calc 2 ^ p ≤ 2 ^ 7 := Nat.pow_le_pow_right (by decide) (by omega)
        _ < 256 := by decide
    · decide
theorem s_lateOnes {N S w h ms : Nat} {m : jm_M} {q : jBd} (hN : 20000 ≤ N) (hG : GT m q S w h ms) (hV : VB q) (hT : ST S w h) (hms : ms ≤ 20) (s0 : q.1 0 = (S : Int)) (s3 : q.1 3 = (h : Int)) : f_X9_lateOnes N shC 190 m = some (ltO S w h ms q 4 : Int) := by
  obtain ⟨hF, hB, h0, hw⟩ := id hG
  have key : ∀ (r k n : Nat), k + r = 4 → r < n → f_X9_lateOnes_l4 N shC n 190 (ltO S w h ms q k : Int) (k : Int) m = some (ltO S w h ms q 4 : Int) := by
    intro r
    induction r with
    | zero =>
      intro k n hk hn
      obtain ⟨n, rfl⟩ : ∃ n', n = n' + 1 := ⟨n - 1, by omega⟩
      show f_X9_lateOnes_b4 N shC (fun a0 x1 x2 => f_X9_lateOnes_l4 N shC n a0 x1 x2 m) 190 _ (k : Int) m = _
      unfold f_X9_lateOnes_b4
      rw [if_neg (by omega), show k = 4 by omega]
    | succ r ih =>
      intro k n hk hn
      obtain ⟨n, rfl⟩ : ∃ n', n = n' + 1 := ⟨n - 1, by omega⟩
      have hk4 : k < 4 := by omega
      have ih' := ih (k + 1) n (by omega) (by omega)
      have el : ltO S w h ms q (k + 1) = ltO S w h ms q k ||| (if q.2.2.2.1 k ≠ 0 ∧ dnO S w h ms q k = -5 then 2 ^ k else 0) := rfl
      have hlt := ltO_lt S w h ms q k (by omega)
      have hp : 2 ^ k < 256 := by
        calc 2 ^ k ≤ 2 ^ 7 := Nat.pow_le_pow_right (by decide) (by omega)
          _ < 256 := by decide
      show f_X9_lateOnes_b4 N shC (fun a0 x1 x2 => f_X9_lateOnes_l4 N shC n a0 x1 x2 m) 190 _ (k : Int) m = _
      unfold f_X9_lateOnes_b4 f_X9_lateOnes_b36
      rw [if_pos (by omega), jrf_ok sC190, Option.bind_some, hF.t190_1, jck_ok sC2, Option.bind_some, s_isTask hF hV hB hk4, Option.bind_some, jw_succ (by omega)]
      rw [el] at ih'
      by_cases c : q.2.2.2.1 k = 0
      · rw [if_neg (fun z => z.1 c), Nat.or_zero] at ih'
        rw [if_pos c, if_pos rfl]
        exact ih'
      · rw [if_neg c, if_neg (by decide), jck_ok sC190, Option.bind_some, s_timeOf hN hG hV hT hms s0 s3 hk4, Option.bind_some]
        by_cases c2 : dnO S w h ms q k = -5
        · rw [if_pos ⟨c, c2⟩] at ih'
          rw [if_pos c2, (show jshl 1 (k : Int) = ((2 ^ k : Nat) : Int) from jshl_one ⟨k, by omega⟩), jor_nat (by omega) (by omega)]
          exact ih'
        · rw [if_neg (fun z => c2 z.2), Nat.or_zero] at ih'
          rw [if_neg c2]
          exact ih'
  exact key 4 0 N (by omega) (by omega)
