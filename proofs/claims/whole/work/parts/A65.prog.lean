/-- a loop that counts up to K and keeps I -/
theorem loopN {β : Type} (L : Nat → Int → jm_M → β) (K : Nat) (I : Nat → jm_M → Prop) (hstep : ∀ n k m, k < K → I k m → ∃ m', L (n + 1) (k : Int) m = L n ((k + 1 : Nat) : Int) m' ∧ I (k + 1) m') : ∀ k n m, k ≤ K → K - k < n → I k m → ∃ m' n', L n (k : Int) m = L (n' + 1) (K : Int) m' ∧ I K m' := by
  intro k n m hk
  obtain ⟨r, hr⟩ : ∃ r, K - k = r := ⟨_, rfl⟩
  induction r generalizing k n m with
  | zero =>
    intro hn hI
    have e : k = K := by omega
    subst e
    exact ⟨m, n - 1, by rw [show n - 1 + 1 = n by omega], hI⟩
  | succ r ih =>
    intro hn hI
    obtain ⟨n, rfl⟩ : ∃ n', n = n' + 1 := ⟨n - 1, by omega⟩
    obtain ⟨m', e, h⟩ := hstep n k m (by omega) hI
    obtain ⟨m2, n2, e2, h2⟩ := ih (k + 1) n m' (by omega) (by omega) (by omega) h
    exact ⟨m2, n2, e.trans e2, h2⟩
theorem IC.keep {m m' : jm_M} {A : jAb} (h : IC m A) (hs : ∀ a, a ≤ 63 → ∀ i, m' a i = m a i) (hF : CF m') (hR : ∀ r ∈ rrL, RR m' r) : IC m' A := ⟨hF, hR, h.2.2.same hs⟩
theorem IM.keep {m m' : jm_M} {A : jAb} (h : IM m A) (hs : ∀ a, (2 ≤ a ∧ a ≤ 8) ∨ a = 23 ∨ a = 24 → ∀ i, m' a i = m a i) (h1 : m' 1 1 = m 1 1) (h7 : m' 1 7 = m 1 7) (hF : MF m') : IM m' A := ⟨hF, h.2.same hs h1 h7⟩
theorem CF.row {m m' : jm_M} {b : Nat} (h : CF m) (hb : rC b = true) (hs : ∀ a, a ≠ b → ∀ i, m' a i = m a i) : CF m' := h.same fun q hq => by
  have h1 := List.all_eq_true.mp hb q hq
  simp only [Bool.not_eq_true', beq_eq_false_iff_ne] at h1
  exact hs _ h1 _
theorem MF.row {m m' : jm_M} {b : Nat} (h : MF m) (hb : rM b = true) (hs : ∀ a, a ≠ b → ∀ i, m' a i = m a i) : MF m' := h.same fun q hq => by
  have h1 := List.all_eq_true.mp hb q hq
  simp only [Bool.not_eq_true', beq_eq_false_iff_ne] at h1
  exact hs _ h1 _
theorem RRs.row {m m' : jm_M} {b : Nat} (h : ∀ r ∈ rrL, RR m r) (hb : rrL.all (fun r => decide (b < r ∨ r + 3 < b)) = true) (hs : ∀ a, a ≠ b → ∀ i, m' a i = m a i) : ∀ r ∈ rrL, RR m' r := fun r hr => (h r hr).same (fun a h1 h2 i => hs a (by have := List.all_eq_true.mp hb r hr; simp only [decide_eq_true_eq] at this; omega) i)
theorem jN_big : 1000000 ≤ jN := by unfold jN; omega
theorem op_fault : jOp_fault jN shC shM Inv := by
  intro mC mM hI
  obtain ⟨A, hV, hC, hM⟩ := id hI
  obtain ⟨hF, hRR, hK⟩ := id hC
  obtain ⟨hFM, hKM⟩ := id hM
  have hJ := jN_big
  obtain ⟨M, e, f⟩ := s_firstFault (N := jN) (pg := A.2.1.2) (by omega) hV.2.1.1 hF hK.2.1 hK.2.2.1
  obtain ⟨M', e', f'⟩ := sM_faultOf (N := jN) (pg := A.2.1.2) (by omega) hV.2.1.1 hFM hKM.2.1 hKM.2.2.1
  refine ⟨prs A.2.1.2 A.2.1.1 A.2.1.1 [0], M, M', ?_, ?_, A, hV, hC.keep (fun a ha => f a (by omega)) (hF.row rC_64.1 f) (RRs.row hRR (by decide) f), hM.keep (fun a ha => f' a (by omega)) (f' 1 (by decide) 1) (f' 1 (by decide) 7) (hFM.row rM_rows.2.2.2.2.2.2.2.1 f')⟩
  · unfold f_X11_fault
    rw [jrf_ok sC1, Option.bind_some, hF.t1_3, jck_ok sC62, Option.bind_some, e, Option.bind_some]
  · unfold f_X12_fault
    rw [jck_ok sM1, Option.bind_some, e', Option.bind_some]
theorem CF.rows {m m' : jm_M} {t : Nat} (h : CF m) (ht : t ∈ tL) (hs : ∀ a, a ≠ t → a ≠ t + 1 → a ≠ t + 2 → a ≠ t + 3 → ∀ j, m' a j = m a j) (h0 : ∀ j, j ≠ 0 → m' t j = m t j) : CF m' := by
  obtain ⟨r1, r2, r3, r0⟩ := tL_rC t ht
  refine h.same fun q hq => ?_
  have h1 := List.all_eq_true.mp r1 q hq
  have h2 := List.all_eq_true.mp r2 q hq
  have h3 := List.all_eq_true.mp r3 q hq
  have h4 := List.all_eq_true.mp r0 q hq
  simp only [Bool.not_eq_true', beq_eq_false_iff_ne, Bool.and_eq_false_iff] at h1 h2 h3 h4
  by_cases c : q.1 = t
  · rw [c]
    exact h0 _ (by omega)
  · exact hs _ c h1 h2 h3 _
theorem tL_lt : ∀ t ∈ tL, t + 3 ≤ 61 ∧ 6 ≤ t := by decide
/-- program: the text at p becomes the pad's -/
def bdp (q : jBd) (p cn : Nat) (sg : Nat → Int) : jBd := (q.1, (fun i => if i = p then cn else q.2.1 i), (fun i => if i = p then sg else q.2.2.1 i), q.2.2.2)
theorem VB.prog {q : jBd} {p cn : Nat} {sg : Nat → Int} (h : VB q) (hT : TX cn sg) : VB (bdp q p cn sg) := by
  refine ⟨h.1, fun i hi => ?_, h.2.2⟩
  show TX (if i = p then cn else q.2.1 i) (if i = p then sg else q.2.2.1 i)
  split
  · exact hT
  · exact h.2.1 i hi
theorem CB.prog {m M : jm_M} {b p cn : Nat} {sg : Nat → Int} {q : jBd} (h : CB m b q) (hp : p < 4) (hT : CT M (b + 4 + 4 * p) cn sg) (hs : ∀ a, a ≠ b + 4 + 4 * p → a ≠ b + 4 + 4 * p + 1 → a ≠ b + 4 + 4 * p + 2 → a ≠ b + 4 + 4 * p + 3 → ∀ j, M a j = m a j) : CB M b (bdp q p cn sg) := by
  obtain ⟨h1, h2, h3, h4, h5⟩ := h
  refine ⟨fun i hi => by rw [hs _ (by omega) (by omega) (by omega) (by omega)]; exact h1 i hi, fun i hi => ?_, fun i hi => by rw [hs _ (by omega) (by omega) (by omega) (by omega)]; exact h3 i hi, by rw [hs _ (by omega) (by omega) (by omega) (by omega)]; exact h4, fun i hi => by rw [hs _ (by omega) (by omega) (by omega) (by omega)]; exact h5 i hi⟩
  show CT M (b + 4 + 4 * i) (if i = p then cn else q.2.1 i) (if i = p then sg else q.2.2.1 i)
  by_cases c : i = p
  · rw [if_pos c, if_pos c, c]; exact hT
  · rw [if_neg c, if_neg c]
    exact (h2 i hi).same (fun a h1 h2 j => hs a (by omega) (by omega) (by omega) (by omega) j)
theorem sM_prog_copy {N p cnt : Nat} {pg : Nat → Int} {m : jm_M} (hp : p < 4) (hc : cnt ≤ 30) (hN : 100 ≤ N) (hF : MF m) (h1 : m 1 1 = (cnt : Int)) (hs : ∀ i, i < cnt → m 3 i = pg i) :
    ∃ m' n', f_X12_program_l31 N shM N 1 p 0 m = f_X12_program_l31 N shM (n' + 1) 1 p (cnt : Int) m' ∧ (MF m' ∧ (∀ j, j < cnt → m' 5 (30 * p + j) = pg j) ∧ (∀ a, a ≠ 5 → ∀ j, m' a j = m a j) ∧ (∀ j, (j < 30 * p ∨ 30 * p + 30 ≤ j) → m' 5 j = m 5 j)) := by
  refine loopN (fun n x m => f_X12_program_l31 N shM n 1 p x m) cnt (fun k m' => MF m' ∧ (∀ j, j < k → m' 5 (30 * p + j) = pg j) ∧ (∀ a, a ≠ 5 → ∀ j, m' a j = m a j) ∧ (∀ j, (j < 30 * p ∨ 30 * p + 30 ≤ j) → m' 5 j = m 5 j)) ?_ 0 N m (Nat.zero_le _) (by omega) ⟨hF, fun j hj => absurd hj (Nat.not_lt_zero j), fun _ _ _ => rfl, fun _ _ => rfl⟩
  intro n k m1 hk ⟨g1, g2, g3, g4⟩
  refine ⟨jm_up m1 5 (30 * p + k) (pg k), ?_, g1.upr rM_rows.2.2.2.1, fun j hj => ?_, fun a ha j => (up_ne ha).trans (g3 a ha j), fun j hj => (up_nk (by omega)).trans (g4 j hj)⟩
  · show f_X12_program_b31 N shM (f_X12_program_l31 N shM n) 1 p k m1 = _
    unfold f_X12_program_b31
    rw [jrf_ok sM1, Option.bind_some, g3 1 (by decide), h1, if_pos (by omega), jrf_ok sM1, Option.bind_some, jrf_ok sM1, Option.bind_some, g1.t2, g1.t4, jra_ok sM3 (by omega) (by omega), Option.bind_some, Int.toNat_natCast, g3 3 (by decide), hs k (by omega), jw_eq (x := 30 * (p : Int)) (by omega) (by omega), jw_eq (x := 30 * (p : Int) + (k : Int)) (by omega) (by omega), show 30 * (p : Int) + (k : Int) = ((30 * p + k : Nat) : Int) by omega, jwa_ok sM5 (by omega) (by omega), Option.bind_some, Int.toNat_natCast, jw_succ (by omega)]
  · rw [up_row]
    by_cases c : j = k
    · rw [if_pos (by omega), c]
    · rw [if_neg (by omega)]; exact g2 j (by omega)
theorem rr_ge : ∀ r ∈ rrL, 83 ≤ r ∧ r ≤ 108 := by decide
theorem op_program : jOp_program jN shC shM Inv := by
  intro mC mM x1 hx hI
  obtain ⟨A, hV, hC, hM⟩ := id hI
  obtain ⟨hF, hRR, hK⟩ := id hC
  obtain ⟨hFM, hKM⟩ := id hM
  have hJ := jN_big
  by_cases c0 : 0 ≤ x1 ∧ x1 < 4
  · obtain ⟨p, rfl⟩ : ∃ p : Nat, x1 = p := ⟨x1.toNat, by omega⟩
    have hp : p < 4 := by omega
    have ht := tL_of two_bL hp
    have htl := tL_lt _ ht
    obtain ⟨M, e, f⟩ := s_firstFault (N := jN) (pg := A.2.1.2) (by omega) hV.2.1.1 hF hK.2.1 hK.2.2.1
    obtain ⟨M', e', f'⟩ := sM_faultOf (N := jN) (pg := A.2.1.2) (by omega) hV.2.1.1 hFM hKM.2.1 hKM.2.2.1
    have hC' : IC M A := hC.keep (fun a ha => f a (by omega)) (hF.row rC_64.1 f) (RRs.row hRR (by decide) f)
    have hM' : IM M' A := hM.keep (fun a ha => f' a (by omega)) (f' 1 (by decide) 1) (f' 1 (by decide) 7) (hFM.row rM_rows.2.2.2.2.2.2.2.1 f')
    by_cases c1 : prs A.2.1.2 A.2.1.1 A.2.1.1 [0] = -6
    · have hT : TX A.2.1.1 A.2.1.2 := prs_TX hV.2.1.1 c1
      have hcn := hT.1
      obtain ⟨hF1, hRR1, hK1⟩ := hC'
      obtain ⟨hFM1, hKM1⟩ := hM'
      -- the class
      obtain ⟨M2, e2, t2, f2, g2, hF2⟩ := s_take (N := jN) (a1 := 63) (by omega) ht hF1 hT sC63 (by omega) (by omega) (by omega) (by omega) (fun j hj => by rw [f 63 (by decide)]; exact hK.2.2.1 j hj)
      -- the reference
      have hMm : MF (jm_up M' 4 p (A.2.1.1 : Int)) := hFM1.upr rM_rows.2.2.1
      obtain ⟨M3, n3, e3, hF3, k3, f3, o3⟩ := sM_prog_copy (N := jN) (p := p) (cnt := A.2.1.1) (pg := A.2.1.2) hp hcn (by omega) hMm (by rw [up_ne (by decide)]; exact hKM1.2.1) (fun i hi => by rw [up_ne (by decide)]; exact hKM1.2.2.1 i hi)
      have hF4 : MF (jm_up M3 1 1 0) := hF3.up (by decide)
      obtain ⟨M5, e5, z5, f5, o5, hF5⟩ := sM_laySizes (N := jN) (m := jm_up M3 1 1 0) (by omega) hF4 hp hT (by rw [up_ne (by decide), f3 4 (by decide), up_eq]) (fun j hj => by rw [up_ne (by decide)]; exact k3 j hj)
      have hM54 : ∀ i, M5 4 i = if i = p then (A.2.1.1 : Int) else mM 4 i := fun i => by rw [f5 4 (by decide), up_ne (by decide), f3 4 (by decide), up_row, f' 4 (by decide)]
      refine ⟨A.2.1.1, jm_up M2 62 1 0, M5, ?_, ?_, (bdp A.1 p A.2.1.1 A.2.1.2, (0, A.2.1.2), A.2.2), ⟨hV.1.prog hT, ⟨Nat.zero_le _, fun i hi => absurd hi (Nat.not_lt_zero i)⟩, hV.2.2⟩, ⟨hF2.up (by decide), ?_, ?_⟩, hF5, ?_⟩
      · unfold f_X11_program
        rw [s_isProgram, if_pos c0, Option.bind_some, if_neg (by decide), jrf_ok sC1, Option.bind_some, hF.t1_3, jck_ok sC62, Option.bind_some, e, Option.bind_some]
        dsimp only
        rw [if_pos c1, jrf_ok sC1, Option.bind_some, hF1.t1_0, jck_ok sC2, Option.bind_some, s_textOf hF1 two_bL hp, Option.bind_some, jrf_ok sC1, Option.bind_some, hF1.t1_3, jrf_ok sC62, Option.bind_some, Option.bind_some, hF1.t1_3, jrf_ok sC62, Option.bind_some, hK1.2.1, hF1.t62_0, jck_ok (tC hF1 _ ht).1, Option.bind_some, e2, Option.bind_some, jrf_ok sC1, Option.bind_some, hF2.t1_3, jwf_ok sC62, Option.bind_some, jrf_ok (tC hF1 _ ht).1, Option.bind_some, up_ne (by omega), t2.1]
      · unfold f_X12_program
        rw [sM_isProgram, if_pos c0, Option.bind_some, if_neg (by decide), jck_ok sM1, Option.bind_some, e', Option.bind_some]
        dsimp only
        rw [if_pos (by rw [c1]; decide), jrf_ok sM1, Option.bind_some, jrf_ok sM1, Option.bind_some, hFM1.t3, hKM1.2.1, jwa_ok sM4 (by omega) (by omega), Option.bind_some, Int.toNat_natCast, e3]
        show f_X12_program_b31 jN shM (f_X12_program_l31 jN shM n3) 1 p (A.2.1.1 : Int) M3 = _
        unfold f_X12_program_b31
        rw [jrf_ok sM1, Option.bind_some, f3 1 (by decide), up_ne (by decide), hKM1.2.1, if_neg (by omega), jwf_ok sM1, Option.bind_some, jck_ok sM1, Option.bind_some, e5, Option.bind_some, jrf_ok sM1, Option.bind_some, hF5.t3, jra_ok sM4 (by omega) (by omega), Option.bind_some, Int.toNat_natCast, hM54, if_pos rfl]
      · exact RRs.up (fun r hr => (hRR1 r hr).same (fun a h1 h2 i => f2 a (by have := rr_ge r hr; omega) (by have := rr_ge r hr; omega) (by have := rr_ge r hr; omega) (by have := rr_ge r hr; omega) i)) (by decide)
      · obtain ⟨k1, k2, k3, k4⟩ := hK1
        have hb := k1.prog (p := p) (cn := A.2.1.1) (sg := A.2.1.2) hp t2 f2
        refine ⟨hb.same (fun a _ ha i => up_ne (by omega)) (up_ne (by decide)), up_eq, fun i hi => absurd hi (Nat.not_lt_zero i), KCi.same k4 (fun a h1 h2 i => ?_)⟩
        rw [up_ne (by omega), f2 a (by omega) (by omega) (by omega) (by omega)]
      · obtain ⟨⟨b1, b2, b3, b4, b5⟩, k2, k3', k4⟩ := hKM1
        have same : ∀ a, a ≠ 6 → a ≠ 5 → a ≠ 4 → a ≠ 1 → ∀ i, M5 a i = M' a i := fun a h6 h5 h4 h1 i => by rw [f5 a h6, up_ne h1, f3 a h5, up_ne h4]
        refine ⟨⟨fun i hi => by rw [same 2 (by decide) (by decide) (by decide) (by decide)]; exact b1 i hi, fun i hi => ?_, fun i hi => by rw [same 7 (by decide) (by decide) (by decide) (by decide)]; exact b3 i hi, ?_, fun i hi => by rw [same 8 (by decide) (by decide) (by decide) (by decide)]; exact b5 i hi⟩, ?_, fun i hi => absurd hi (Nat.not_lt_zero i), KMi.same k4 (same 23 (by decide) (by decide) (by decide) (by decide)) (same 24 (by decide) (by decide) (by decide) (by decide))⟩
        · show M5 4 i = ((if i = p then A.2.1.1 else A.1.2.1 i : Nat) : Int) ∧ ∀ j, j < (if i = p then A.2.1.1 else A.1.2.1 i) → M5 5 (30 * i + j) = (if i = p then A.2.1.2 else A.1.2.2.1 i) j ∧ M5 6 (30 * i + j) = ((zs (if i = p then A.2.1.2 else A.1.2.2.1 i) 4 j : Nat) : Int)
          by_cases c : i = p
          · subst c
            rw [if_pos rfl, if_pos rfl, hM54, if_pos rfl]
            exact ⟨rfl, fun j hj => ⟨by rw [f5 5 (by decide), up_ne (by decide)]; exact k3 j hj, z5 j hj⟩⟩
          · rw [if_neg c, if_neg c, hM54, if_neg c, ← f' 4 (by decide)]
            have hj30 : ∀ j, j < A.1.2.1 i → j < 30 := fun j hj => by have := (hV.1.2.1 i hi).1; omega
            refine ⟨(b2 i hi).1, fun j hj => ⟨?_, ?_⟩⟩
            · rw [f5 5 (by decide), up_ne (by decide), o3 _ (by have := hj30 j hj; omega), up_ne (by decide)]; exact ((b2 i hi).2 j hj).1
            · rw [o5 _ (by have := hj30 j hj; omega), up_ne (by decide), f3 6 (by decide), up_ne (by decide)]; exact ((b2 i hi).2 j hj).2
        · rw [f5 1 (by decide), up_nk (by decide), f3 1 (by decide), up_ne (by decide)]; exact b4
        · rw [f5 1 (by decide), up_eq]; rfl
    · refine ⟨-5, M, M', ?_, ?_, A, hV, hC', hM'⟩
      · unfold f_X11_program
        rw [s_isProgram, if_pos c0, Option.bind_some, if_neg (by decide), jrf_ok sC1, Option.bind_some, hF.t1_3, jck_ok sC62, Option.bind_some, e, Option.bind_some, if_neg c1]
      · unfold f_X12_program
        have hpos : ¬ prs A.2.1.2 A.2.1.1 A.2.1.1 [0] < 0 := by
          have hr : ∀ r ws, prs A.2.1.2 A.2.1.1 r ws = -6 ∨ 0 ≤ prs A.2.1.2 A.2.1.1 r ws := by
            intro r
            induction r with
            | zero =>
              intro ws
              show (if ws = [] then (-6 : Int) else (A.2.1.1 : Int)) = -6 ∨ 0 ≤ (if ws = [] then (-6 : Int) else (A.2.1.1 : Int))
              split
              · exact Or.inl rfl
              · exact Or.inr (by omega)
            | succ r ih =>
              intro ws
              cases ws with
              | nil => exact Or.inr (show (0 : Int) ≤ ((A.2.1.1 - (r + 1) : Nat) : Int) by omega)
              | cons d ws =>
                show (if okG (A.2.1.2 (A.2.1.1 - (r + 1))) = false ∨ (0 < pt (A.2.1.2 (A.2.1.1 - (r + 1))) ∧ 4 ≤ d) then ((A.2.1.1 - (r + 1) : Nat) : Int) else prs A.2.1.2 A.2.1.1 r (List.replicate (pt (A.2.1.2 (A.2.1.1 - (r + 1)))) (d + 1) ++ ws)) = -6 ∨ 0 ≤ (if okG (A.2.1.2 (A.2.1.1 - (r + 1))) = false ∨ (0 < pt (A.2.1.2 (A.2.1.1 - (r + 1))) ∧ 4 ≤ d) then ((A.2.1.1 - (r + 1) : Nat) : Int) else prs A.2.1.2 A.2.1.1 r (List.replicate (pt (A.2.1.2 (A.2.1.1 - (r + 1)))) (d + 1) ++ ws))
                split
                · exact Or.inr (by omega)
                · exact ih _
          rcases hr A.2.1.1 [0] with q | q
          · exact absurd q c1
          · omega
        rw [sM_isProgram, if_pos c0, Option.bind_some, if_neg (by decide), jck_ok sM1, Option.bind_some, e', Option.bind_some, if_neg hpos]
  · exact ⟨-1, mC, mM, by simp [f_X11_program, s_isProgram, c0], by simp [f_X12_program, sM_isProgram, c0], hI⟩
