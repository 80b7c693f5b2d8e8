theorem ifb {P : Prop} [Decidable P] {α : Type} {a b : α} : (if (if P then (1 : Int) else 0) = 0 then a else b) = if P then b else a := by
  by_cases h : P
  · rw [if_pos h, if_pos h, if_neg (by decide)]
  · rw [if_neg h, if_neg h, if_pos rfl]
/-! crowd -/
theorem s_allLines {m : jm_M} {t cn : Nat} {sg : Nat → Int} (hF : CF m) (ht : t ∈ tL) (hT : TX cn sg) (h : CT m t cn sg) : f_X10_allLines shC t m = some (lr sg 0 cn : Int) := by
  obtain ⟨t1, t2, t3, t4, t5, t6, t7⟩ := tC hF t ht
  unfold f_X10_allLines
  rw [jrf_ok t1, Option.bind_some, t7, Int.toNat_natCast, jra_ok t4 (by decide) (by decide), Option.bind_some]
  have e := h.2.2.2.2.2.1 0 hT.pos
  rw [hT.2.2] at e
  exact congrArg some e
theorem jshl_line2 {s : Int} (h : 48 ≤ s ∧ s ≤ 55) : jshl 1 (jw (s - 48)) = (lb s : Int) := by rw [jw_eq (by omega) (by omega)]; exact jshl_line h
theorem sM_crowd0 {N p cn : Nat} {sg : Nat → Int} {m : jm_M} (hN : 100 ≤ N) (hF : MF m) (hp : p < 4) (hT : TX cn sg) (h4 : m 4 p = (cn : Int)) (h5 : ∀ i, i < cn → m 5 (30 * p + i) = sg i) : f_X12_crowd0 N shM 1 p m = some (lr sg 0 cn : Int) := by
  have hcn := hT.1
  have key : ∀ (r k n : Nat), k + r = cn → r < n → f_X12_crowd0_l4 N shM n 1 p (lr sg 0 k : Int) k m = some (lr sg 0 cn : Int) := by
    intro r
    induction r with
    | zero =>
      intro k n hk hn
      obtain ⟨n, rfl⟩ : ∃ n', n = n' + 1 := ⟨n - 1, by omega⟩
      show f_X12_crowd0_b4 N shM (fun a0 x1 x2 x3 => f_X12_crowd0_l4 N shM n a0 x1 x2 x3 m) 1 p (lr sg 0 k : Int) k m = _
      unfold f_X12_crowd0_b4
      rw [jrf_ok sM1, Option.bind_some, hF.t3, jra_ok sM4 (by omega) (by omega), Option.bind_some, Int.toNat_natCast, h4, if_neg (by omega), show k = cn by omega]
    | succ r ih =>
      intro k n hk hn
      obtain ⟨n, rfl⟩ : ∃ n', n = n' + 1 := ⟨n - 1, by omega⟩
      show f_X12_crowd0_b4 N shM (fun a0 x1 x2 x3 => f_X12_crowd0_l4 N shM n a0 x1 x2 x3 m) 1 p (lr sg 0 k : Int) k m = _
      have hs : isLf (sg k) = true ∨ (98 ≤ sg k ∧ sg k ≤ 100) ∨ sg k = 59 ∨ sg k = 63 := hT.sign (by omega)
      rw [isLf_iff] at hs
      have e1 := lr_lt sg 0 k
      have e2 := lb_lt (sg k)
      have next : jor (lr sg 0 k : Int) (lb (sg k) : Int) = (lr sg 0 (k + 1) : Int) := by
        rw [jor_nat (by omega) (by omega)]
        show _ = ((lr sg 0 k ||| lb (sg (0 + k)) : Nat) : Int)
        rw [Nat.zero_add]
      unfold f_X12_crowd0_b4
      rw [jrf_ok sM1, Option.bind_some, hF.t3, jra_ok sM4 (by omega) (by omega), Option.bind_some, Int.toNat_natCast, h4, if_pos (by omega), jrf_ok sM1, Option.bind_some, hF.t4, jw_eq (x := 30 * (p : Int)) (by omega) (by omega), jw_eq (x := 30 * (p : Int) + (k : Int)) (by omega) (by omega), show 30 * (p : Int) + (k : Int) = ((30 * p + k : Nat) : Int) by omega, jra_ok sM5 (by omega) (by omega), Option.bind_some, Int.toNat_natCast, h5 k (by omega), jw_eq (x := sg k - 48) (by omega) (by omega), sM_in, Option.bind_some, ifb]
      by_cases c : 48 ≤ sg k ∧ sg k ≤ 55
      · rw [if_pos (by omega)]
        unfold f_X12_crowd0_b50
        rw [jshl_line c, next, jw_succ (by omega)]
        exact ih (k + 1) n (by omega) (by omega)
      · rw [if_neg (by omega)]
        unfold f_X12_crowd0_b50
        have : lb (sg k) = 0 := by unfold lb; rw [if_neg c]
        rw [this] at next
        rw [show (0 : Int) = ((0 : Nat) : Int) from rfl, next, jw_succ (by omega)]
        exact ih (k + 1) n (by omega) (by omega)
  exact key cn 0 N (by omega) (by omega)
theorem op_crowd : jOp_crowd jN shC shM Inv := by
  intro mC mM x1 hx hI
  obtain ⟨A, hV, ⟨hF, hRR, hK⟩, hFM, hKM⟩ := id hI
  have hJ := jN_big
  by_cases c0 : 0 ≤ x1 ∧ x1 < 4
  · obtain ⟨p, rfl⟩ : ∃ p : Nat, x1 = p := ⟨x1.toNat, by omega⟩
    have hp : p < 4 := by omega
    have ht := tL_of two_bL hp
    refine ⟨(lr (A.1.2.2.1 p) 0 (A.1.2.1 p) : Int), mC, mM, ⟨?_, rfl⟩, ⟨?_, rfl⟩, hI⟩
    · unfold f_X11_crowd
      rw [s_isProgram, if_pos c0, Option.bind_some, if_neg (by decide), jrf_ok sC1, Option.bind_some, hF.t1_0, jck_ok sC2, Option.bind_some, s_textOf hF two_bL hp, Option.bind_some, jck_ok (tC hF _ ht).1, Option.bind_some, s_allLines hF ht (hV.1.2.1 p hp) (hK.1.2.1 p hp), Option.bind_some]
    · unfold f_X12_crowd
      rw [sM_isProgram, if_pos c0, Option.bind_some, if_neg (by decide), jck_ok sM1, Option.bind_some, sM_crowd0 (by omega) hFM hp (hV.1.2.1 p hp) (hKM.1.2.1 p hp).1 (fun i hi => ((hKM.1.2.1 p hp).2 i hi).1), Option.bind_some]
  · exact ⟨-1, mC, mM, ⟨by simp [f_X11_crowd, s_isProgram, c0], rfl⟩, ⟨by simp [f_X12_crowd, sM_isProgram, c0], rfl⟩, hI⟩
/-! images of the class -/
theorem bL_far {b c : Nat} (hb : b ∈ bL) (hc : c ∈ bL) (h : b ≠ c) : b + 20 ≤ c ∨ c + 20 ≤ b := by
  simp only [bL, List.mem_cons, List.not_mem_nil, or_false] at hb hc
  omega
theorem bL_rC : ∀ b ∈ bL, rC (b + 1) = true ∧ rC (b + 2) = true ∧ rC (b + 3) = true ∧ nC b 0 = true ∧ nC b 1 = true := by decide
theorem s_digitAt {m : jm_M} (hF : CF m) {b : Nat} (hb : b ∈ bL) {q : jBd} (h : CB m b q) (hq : q.2.2.2.2.1 ≤ 20) {i : Nat} (hi : i < 20) : f_X1_digitAt shC b i m = some (if i < q.2.2.2.2.1 then q.2.2.2.2.2 i else 0) := by
  obtain ⟨b1, b2, b3, b4, c2, c3, c4, -⟩ := bC hF b hb
  unfold f_X1_digitAt
  rw [if_neg (by omega), jrf_ok b1, Option.bind_some, h.2.2.2.1]
  by_cases c : i < q.2.2.2.2.1
  · rw [if_pos (by omega), jrf_ok b1, Option.bind_some, c4, Int.toNat_natCast, jlen_ok b4 (by decide) (by decide) (by decide), Option.bind_some, if_pos (by omega), Option.bind_some, Int.toNat_natCast, jra_ok b4 (by omega) (by omega), Option.bind_some, Int.toNat_natCast, h.2.2.2.2 i c, if_pos c]
  · rw [if_neg (by omega), if_neg c]
theorem s_copyFrom {N b c : Nat} {q : jBd} {m : jm_M} (hN : 200 ≤ N) (hF : CF m) (hb : b ∈ bL) (hc : c ∈ bL) (hbc : b ≠ c) (hV : VB q) (h : CB m c q) :
    ∃ M, f_X1_copyFrom N shC b c m = some M ∧ CB M b q ∧ (∀ a, a < b ∨ b + 19 < a → ∀ j, M a j = m a j) ∧ (∀ j, j ≠ 0 → M b j = m b j) ∧ CF M := by
  have far := bL_far hb hc hbc
  obtain ⟨b1, b2, b3, b4, -⟩ := bC hF b hb
  obtain ⟨c1, -⟩ := bC hF c hc
  obtain ⟨r1, r2, r3, r4, r5⟩ := bL_rC b hb
  -- settings
  obtain ⟨m1, n1, e1, i1, i2, i3⟩ := loopN (fun n x m => f_X1_copyFrom_l2 N shC n b c x m) 4 (fun k M => CF M ∧ (∀ i, i < k → M (b + 1) i = q.1 i) ∧ (∀ a, a ≠ b + 1 → ∀ j, M a j = m a j)) (by
    intro n k M hk ⟨g1, g2, g3⟩
    have hread : f_X1_setting shC c (k : Int) M = some (q.1 k) := by rw [s_setting g1 hc (by omega) (by omega), Int.toNat_natCast, g3 _ (by omega), h.1 k hk]
    refine ⟨jm_up M (b + 1) k (q.1 k), ?_, g1.up (nC_of r1 _), fun i hi => ?_, fun a ha j => (up_ne ha).trans (g3 a ha j)⟩
    · show f_X1_copyFrom_b2 N shC (f_X1_copyFrom_l2 N shC n) b c k M = _
      unfold f_X1_copyFrom_b2
      have g5 := (bC g1 b hb).2.2.2.2.1
      rw [jrf_ok b1, Option.bind_some, g5, Int.toNat_natCast, jlen_ok b2 (by decide) (by decide) (by decide), Option.bind_some, if_pos (by omega), Option.bind_some, jck_ok c1, Option.bind_some, hread, Option.bind_some, Int.toNat_natCast, jwa_ok b2 (by omega) (by omega), Option.bind_some, Int.toNat_natCast, jw_succ (by omega)]
    · rw [up_row]
      by_cases e : i = k
      · rw [if_pos e, e]
      · rw [if_neg e]; exact g2 i (by omega)) 0 N m (by omega) (by omega) ⟨hF, fun i hi => absurd hi (Nat.not_lt_zero i), fun _ _ _ => rfl⟩
  have e1' : f_X1_copyFrom N shC b c m = f_X1_copyFrom_l30 N shC N b c 0 m1 := by
    show f_X1_copyFrom_l2 N shC N b c ((0 : Nat) : Int) m = _
    rw [e1]
    show f_X1_copyFrom_b2 N shC (f_X1_copyFrom_l2 N shC n1) b c ((4 : Nat) : Int) m1 = _
    unfold f_X1_copyFrom_b2
    have g5 := (bC i1 b hb).2.2.2.2.1
    rw [jrf_ok b1, Option.bind_some, g5, Int.toNat_natCast, jlen_ok b2 (by decide) (by decide) (by decide), Option.bind_some, if_neg (by omega)]
  -- texts and periods
  obtain ⟨m2, n2, e2, p1, p2, p3, p4, p5, p6⟩ := loopN (fun n x m => f_X1_copyFrom_l30 N shC n b c x m) 4 (fun k M => CF M ∧ (∀ i, i < 4 → M (b + 1) i = q.1 i) ∧ (∀ p, p < k → CT M (b + 4 + 4 * p) (q.2.1 p) (q.2.2.1 p)) ∧ (∀ p, p < k → M (b + 2) p = q.2.2.2.1 p) ∧ (∀ a, a < b ∨ b + 19 < a → ∀ j, M a j = m a j) ∧ (∀ j, M b j = m b j)) (by
    intro n k M hk ⟨g1, g2, g3, g4, g6, g7⟩
    have hb' := tL_of hb hk
    have hc' := tL_of hc hk
    have hCT := (h.2.1 k hk)
    have hTX := hV.2.1 k hk
    obtain ⟨s1, s2, s3, s4, s5, s6, s7⟩ := tC g1 _ hc'
    obtain ⟨M2, a1, a2, a3, a4, a5⟩ := s_take (N := N) (a1 := c + 4 + 4 * k + 1) (m := M) (by omega) hb' g1 hTX s2 (by omega) (by omega) (by omega) (by omega) (fun j hj => by rw [g6 _ (by omega)]; exact hCT.2.1 j hj)
    have hper : f_X1_periodOf shC c (k : Int) M2 = some (q.2.2.2.1 k) := by rw [s_periodOf a5 hc (by omega) (by omega), Int.toNat_natCast, a3 _ (by omega) (by omega) (by omega) (by omega), g6 _ (by omega), h.2.2.1 k hk]
    have hset : f_X1_setPeriod shC b (k : Int) (q.2.2.2.1 k) M2 = some (jm_up M2 (b + 2) k (q.2.2.2.1 k)) := by
      unfold f_X1_setPeriod
      have g5 := (bC a5 b hb).2.2.2.2.2.1
      rw [if_neg (by omega), jrf_ok b1, Option.bind_some, g5, Int.toNat_natCast, jlen_ok b3 (by decide) (by decide) (by decide), Option.bind_some, if_pos (by omega), Option.bind_some, Int.toNat_natCast, jwa_ok b3 (by omega) (by omega), Option.bind_some, Int.toNat_natCast]
    refine ⟨jm_up M2 (b + 2) k (q.2.2.2.1 k), ?_, a5.up (nC_of r2 _), fun i hi => ?_, fun p hp => ?_, fun p hp => ?_, fun a ha j => ?_, fun j => ?_⟩
    · show f_X1_copyFrom_b30 N shC (f_X1_copyFrom_l30 N shC n) b c k M = _
      unfold f_X1_copyFrom_b30
      rw [if_pos (by omega), jck_ok c1, Option.bind_some, s_textOf g1 hc hk, Option.bind_some, jck_ok b1, Option.bind_some, s_textOf g1 hb hk, Option.bind_some, jrf_ok s1, Option.bind_some, jrf_ok s1, Option.bind_some, jck_ok (tC g1 _ hb').1, Option.bind_some, s5, Int.toNat_natCast, g6 (c + 4 + 4 * k) (by omega), hCT.1, a1, Option.bind_some]
      rw [Option.bind_some, hper, Option.bind_some, Option.bind_some, hset, Option.bind_some, jw_succ (by omega)]
    · rw [up_ne (by omega), a3 _ (by omega) (by omega) (by omega) (by omega)]; exact g2 i hi
    · by_cases e : p = k
      · subst e
        exact a2.same (fun a h1 h2 i => up_ne (by omega))
      · exact (g3 p (by omega)).same (fun a h1 h2 i => by rw [up_ne (by omega), a3 _ (by omega) (by omega) (by omega) (by omega)])
    · rw [up_row]
      by_cases e : p = k
      · rw [if_pos e, e]
      · rw [if_neg e, a3 _ (by omega) (by omega) (by omega) (by omega)]; exact g4 p (by omega)
    · rw [up_ne (by omega), a3 _ (by omega) (by omega) (by omega) (by omega)]; exact g6 a ha j
    · rw [up_ne (by omega), a3 _ (by omega) (by omega) (by omega) (by omega)]; exact g7 j) 0 N m1 (by omega) (by omega) ⟨i1, i2, fun p hp => absurd hp (Nat.not_lt_zero p), fun p hp => absurd hp (Nat.not_lt_zero p), fun a ha j => i3 a (by omega) j, fun j => i3 b (by omega) j⟩
  -- digits
  have hch : m c 0 = (q.2.2.2.2.1 : Int) := h.2.2.2.1
  have hq20 := hV.2.2.2.1
  have e2' : f_X1_copyFrom_l30 N shC N b c 0 m1 = f_X1_copyFrom_l83 N shC N b c 0 (jm_up m2 b 0 (q.2.2.2.2.1 : Int)) := by
    show f_X1_copyFrom_l30 N shC N b c ((0 : Nat) : Int) m1 = _
    rw [e2]
    show f_X1_copyFrom_b30 N shC (f_X1_copyFrom_l30 N shC n2) b c ((4 : Nat) : Int) m2 = _
    unfold f_X1_copyFrom_b30
    rw [if_neg (by omega), jrf_ok c1, Option.bind_some, p5 c (by omega), hch, jwf_ok b1, Option.bind_some]
  obtain ⟨m3, n3, e3, d1, d2, d3⟩ := loopN (fun n x m => f_X1_copyFrom_l83 N shC n b c x m) 20 (fun k M => CF M ∧ (∀ i, i < k → M (b + 3) i = (if i < q.2.2.2.2.1 then q.2.2.2.2.2 i else 0)) ∧ (∀ a, a ≠ b + 3 → ∀ j, M a j = jm_up m2 b 0 (q.2.2.2.2.1 : Int) a j)) (by
    intro n k M hk ⟨g1, g2, g3⟩
    have hCc : CB M c q := h.same (fun a h1 h2 i => by rw [g3 _ (by omega), up_ne (by omega), p5 a (by omega)]) (by rw [g3 _ (by omega), up_ne (by omega), p5 c (by omega)])
    refine ⟨jm_up M (b + 3) k (if k < q.2.2.2.2.1 then q.2.2.2.2.2 k else 0), ?_, g1.up (nC_of r3 _), fun i hi => ?_, fun a ha j => (up_ne ha).trans (g3 a ha j)⟩
    · show f_X1_copyFrom_b83 N shC (f_X1_copyFrom_l83 N shC n) b c k M = _
      unfold f_X1_copyFrom_b83
      have g5 := (bC g1 b hb).2.2.2.2.2.2.1
      rw [jrf_ok b1, Option.bind_some, g5, Int.toNat_natCast, jlen_ok b4 (by decide) (by decide) (by decide), Option.bind_some, if_pos (by omega), Option.bind_some, jck_ok c1, Option.bind_some, s_digitAt g1 hc hCc hq20 hk, Option.bind_some, Int.toNat_natCast, jwa_ok b4 (by omega) (by omega), Option.bind_some, Int.toNat_natCast, jw_succ (by omega)]
    · rw [up_row]
      by_cases e : i = k
      · rw [if_pos e, e]
      · rw [if_neg e]; exact g2 i (by omega)) 0 N (jm_up m2 b 0 (q.2.2.2.2.1 : Int)) (by omega) (by omega) ⟨p1.up r4, fun i hi => absurd hi (Nat.not_lt_zero i), fun _ _ _ => rfl⟩
  refine ⟨m3, ?_, ⟨fun i hi => ?_, fun p hp => ?_, fun p hp => ?_, ?_, fun i hi => ?_⟩, fun a ha j => ?_, fun j hj => ?_, d1⟩
  · rw [e1', e2']
    show f_X1_copyFrom_l83 N shC N b c ((0 : Nat) : Int) _ = _
    rw [e3]
    show f_X1_copyFrom_b83 N shC (f_X1_copyFrom_l83 N shC n3) b c ((20 : Nat) : Int) m3 = _
    unfold f_X1_copyFrom_b83
    have g5 := (bC d1 b hb).2.2.2.2.2.2.1
    rw [jrf_ok b1, Option.bind_some, g5, Int.toNat_natCast, jlen_ok b4 (by decide) (by decide) (by decide), Option.bind_some, if_neg (by omega)]
  · rw [d3 _ (by omega), up_ne (by omega)]; exact p2 i hi
  · exact (p3 p hp).same (fun a h1 h2 i => by rw [d3 _ (by omega), up_ne (by omega)])
  · rw [d3 _ (by omega), up_ne (by omega)]; exact p4 p hp
  · rw [d3 _ (by omega), up_eq]
  · rw [d2 i (by omega), if_pos hi]
  · rw [d3 _ (by omega), up_ne (by omega)]; exact p5 a ha j
  · rw [d3 _ (by omega), up_nk hj]; exact p6 j
