/-! frames of single writes -/
theorem KC.up {m : jm_M} {A : jAb} {a k : Nat} {v : Int} (h : KC m A) (ha : 63 < a) : KC (jm_up m a k v) A := h.same (fun b hb i => up_ne (by omega))
theorem RRs.up {m : jm_M} {a k : Nat} {v : Int} (h : ∀ r ∈ rrL, RR m r) (ha : rrL.all (fun r => decide (a < r ∨ r + 3 < a)) = true) : ∀ r ∈ rrL, RR (jm_up m a k v) r := fun r hr => (h r hr).same (fun b h1 h2 i => up_ne (by have := List.all_eq_true.mp ha r hr; simp only [decide_eq_true_eq] at this; omega))
theorem MB.same {m m' : jm_M} {q : jBd} (h : MB m q) (hs : ∀ a, a = 2 ∨ (4 ≤ a ∧ a ≤ 8) → ∀ i, m' a i = m a i) (h7 : m' 1 7 = m 1 7) : MB m' q := by
  obtain ⟨b1, b2, b3, b4, b5⟩ := h
  exact ⟨fun i hi => by rw [hs 2 (by omega)]; exact b1 i hi, fun p hp => ⟨by rw [hs 4 (by omega)]; exact (b2 p hp).1, fun i hi => by rw [hs 5 (by omega), hs 6 (by omega)]; exact (b2 p hp).2 i hi⟩, fun p hp => by rw [hs 7 (by omega)]; exact b3 p hp, by rw [h7]; exact b4, fun i hi => by rw [hs 8 (by omega)]; exact b5 i hi⟩
theorem MI.same {m m' : jm_M} {n : Nat} {q : jBd} (h : MI m n q) (e : ∀ i, m' 23 i = m 23 i) : MI m' n q := by
  obtain ⟨c1, c2, c3, c4, c5⟩ := h
  exact ⟨fun i hi => by rw [e]; exact c1 i hi, fun p hp => ⟨by rw [e]; exact (c2 p hp).1, fun i hi => by rw [e]; exact (c2 p hp).2 i hi⟩, fun p hp => by rw [e]; exact c3 p hp, by rw [e]; exact c4, fun i hi => by rw [e]; exact c5 i hi⟩
/-- the images of both sides -/
def KCi (m : jm_M) (A : jAb) : Prop := ∀ n, n < 2 → m (22 + 20 * n) 1 = (if A.2.2.1 n = true then 1 else 0) ∧ (A.2.2.1 n = true → CB m (22 + 20 * n) (A.2.2.2 n))
def KMi (m : jm_M) (A : jAb) : Prop := ∀ n, n < 2 → m 24 n = (if A.2.2.1 n = true then 1 else 0) ∧ (A.2.2.1 n = true → MI m n (A.2.2.2 n))
theorem KCi.same {m m' : jm_M} {A : jAb} (h : KCi m A) (hs : ∀ a, 22 ≤ a → a ≤ 61 → ∀ i, m' a i = m a i) : KCi m' A := fun n hn => ⟨by rw [hs _ (by omega) (by omega)]; exact (h n hn).1, fun hk => ((h n hn).2 hk).same (fun a _ ha => hs a (by omega) (by omega)) (hs _ (by omega) (by omega) _)⟩
theorem KMi.same {m m' : jm_M} {A : jAb} (h : KMi m A) (h23 : ∀ i, m' 23 i = m 23 i) (h24 : ∀ i, m' 24 i = m 24 i) : KMi m' A := fun n hn => ⟨by rw [h24]; exact (h n hn).1, fun hk => ((h n hn).2 hk).same h23⟩
theorem op_wipe : jOp_wipe jN shC shM Inv := by
  intro mC mM ⟨A, hV, ⟨hF, hRR, hK⟩, hFM, hKM⟩
  have e1 := hF.f1_3
  have e2 := hK.2.1
  have e3 := hKM.2.1
  refine ⟨A.2.1.1, jm_up mC 62 1 0, jm_up mM 1 1 0, ?_, ?_, (A.1, (0, A.2.1.2), A.2.2), ⟨hV.1, ⟨Nat.zero_le _, fun i hi => absurd hi (Nat.not_lt_zero i)⟩, hV.2.2⟩, ⟨hF.up (by decide), RRs.up hRR (by decide), ?_⟩, hFM.up (by decide), ?_⟩
  · simp [f_X11_wipe, jrf_ok sC1, e1, jrf_ok sC62, jwf_ok sC62, e2]
  · simp [f_X12_wipe, jrf_ok sM1, jwf_ok sM1, e3]
  · obtain ⟨h1, h2, h3, h4⟩ := hK
    exact ⟨h1.same (fun a _ ha i => up_ne (by omega)) (up_ne (by decide)), up_eq, fun i hi => absurd hi (Nat.not_lt_zero i), KCi.same h4 (fun a _ ha i => up_ne (by omega))⟩
  · obtain ⟨h1, h2, h3, h4⟩ := hKM
    exact ⟨h1.same (fun a ha i => up_ne (by omega)) (up_nk (by decide)), up_eq, fun i hi => absurd hi (Nat.not_lt_zero i), KMi.same h4 (fun i => up_ne (by decide)) (fun i => up_ne (by decide))⟩
theorem op_forget : jOp_forget jN shC shM Inv := by
  intro mC mM ⟨A, hV, ⟨hF, hRR, hK⟩, hFM, hKM⟩
  have e1 := hF.f1_0
  have e2 := hK.1.2.2.2.1
  have e3 := hKM.1.2.2.2.1
  refine ⟨A.1.2.2.2.2.1, jm_up mC 2 0 0, jm_up mM 1 7 0, ?_, ?_, ((A.1.1, A.1.2.1, A.1.2.2.1, A.1.2.2.2.1, 0, A.1.2.2.2.2.2), A.2), ⟨⟨hV.1.1, hV.1.2.1, hV.1.2.2.1, Nat.zero_le _, fun i hi => absurd hi (Nat.not_lt_zero i)⟩, hV.2⟩, ⟨hF.up (by decide), RRs.up hRR (by decide), ?_⟩, hFM.up (by decide), ?_⟩
  · simp [f_X11_forget, jrf_ok sC1, e1, jrf_ok sC2, jwf_ok sC2, e2]
  · simp [f_X12_forget, jrf_ok sM1, jwf_ok sM1, e3]
  · obtain ⟨⟨a1, a2, a3, a4, a5⟩, h2, h3, h4⟩ := hK
    exact ⟨⟨fun i hi => by rw [up_ne (by decide)]; exact a1 i hi, fun p hp => (a2 p hp).same (fun a ha _ i => up_ne (by omega)), fun p hp => by rw [up_ne (by decide)]; exact a3 p hp, up_eq, fun i hi => absurd hi (Nat.not_lt_zero i)⟩, by rw [up_ne (by decide)]; exact h2, fun i hi => by rw [up_ne (by decide)]; exact h3 i hi, KCi.same h4 (fun a ha _ i => up_ne (by omega))⟩
  · obtain ⟨⟨a1, a2, a3, a4, a5⟩, h2, h3, h4⟩ := hKM
    exact ⟨⟨fun i hi => by rw [up_ne (by decide)]; exact a1 i hi, fun p hp => ⟨by rw [up_ne (by decide)]; exact (a2 p hp).1, fun i hi => by rw [up_ne (by decide), up_ne (by decide)]; exact (a2 p hp).2 i hi⟩, fun p hp => by rw [up_ne (by decide)]; exact a3 p hp, up_eq, fun i hi => absurd hi (Nat.not_lt_zero i)⟩, by rw [up_nk (by decide)]; exact h2, fun i hi => by rw [up_ne (by decide)]; exact h3 i hi, KMi.same h4 (fun i => up_ne (by decide)) (fun i => up_ne (by decide))⟩
theorem sM_in (x a b : Int) : f_X12_in x a b = some (if a ≤ x ∧ x ≤ b then 1 else 0) := by
  unfold f_X12_in
  split
  · rw [if_neg (by omega)]
  · split
    · rw [if_neg (by omega)]
    · rw [if_pos (by omega)]
theorem Inv.refuse {mC mM : jm_M} (h : Inv mC mM) (r : Int) : ∃ (r' : Int) (nC nM : jm_M), (some (r, mC) = some (r', nC)) ∧ (some (r, mM) = some (r', nM)) ∧ Inv nC nM := ⟨r, mC, mM, rfl, rfl, h⟩
theorem op_say : jOp_say jN shC shM Inv := by
  intro mC mM x1 hx hI
  obtain ⟨A, hV, ⟨hF, hRR, hK⟩, hFM, hKM⟩ := id hI
  by_cases c0 : 33 ≤ x1 ∧ x1 ≤ 126
  · have e1 := hF.f1_3
    have e2 := hK.2.1
    have e3 := hKM.2.1
    have e4 := hF.f62_0
    have e5 := hFM.f2
    have hn : A.2.1.1 ≤ 30 := hV.2.1.1
    by_cases c1 : A.2.1.1 = 30
    · refine ⟨-4, mC, mM, ?_, ?_, hI⟩
      · simp [f_X11_say, f_X3_add, show ¬ x1 < 33 by omega, show ¬ 126 < x1 by omega, jrf_ok sC1, e1, jck_ok sC62, jrf_ok sC62, e4, e2, jlen_ok sC63, c1]
      · simp [f_X12_say, sM_in, c0, jrf_ok sM1, e3, c1]
    · have hlt : (A.2.1.1 : Int) < 30 := by omega
      have hw : jw ((A.2.1.1 : Int) + 1) = (A.2.1.1 : Int) + 1 := jw_eq (by omega) (by omega)
      refine ⟨(A.2.1.1 : Int) + 1, jm_up (jm_up mC 63 A.2.1.1 x1) 62 1 ((A.2.1.1 : Int) + 1), jm_up (jm_up mM 3 A.2.1.1 x1) 1 1 ((A.2.1.1 : Int) + 1), ?_, ?_, (A.1, (A.2.1.1 + 1, fun i => if i = A.2.1.1 then x1 else A.2.1.2 i), A.2.2), ⟨hV.1, ⟨by show A.2.1.1 + 1 ≤ 30; omega, fun i hi => ?_⟩, hV.2.2⟩, ⟨(hF.up (nC_of (by decide) _)).up (by decide), RRs.up (RRs.up hRR (by decide)) (by decide), ?_⟩, (hFM.up (nM_of (by decide) _)).up (by decide), ?_⟩
      · simp [f_X11_say, f_X3_add, show ¬ x1 < 33 by omega, show ¬ 126 < x1 by omega, jrf_ok sC1, e1, jck_ok sC62, jrf_ok sC62, e4, e2, jlen_ok sC63, hlt, jwa_ok sC63, jwf_ok sC62, up_ne, up_eq, hw]
      · simp [f_X12_say, sM_in, c0, jrf_ok sM1, e3, show ¬ ((A.2.1.1 : Int) = 30) by omega, e5, jwa_ok sM3, hlt, up_ne, up_eq, jwf_ok sM1, hw]
      · have hi : i < A.2.1.1 + 1 := hi
        show 33 ≤ (if i = A.2.1.1 then x1 else A.2.1.2 i) ∧ (if i = A.2.1.1 then x1 else A.2.1.2 i) ≤ 126
        split
        · exact c0
        · exact hV.2.1.2 i (by omega)
      · obtain ⟨h1, h2, h3, h4⟩ := hK
        refine ⟨h1.same (fun a _ ha i => by rw [up_ne (by omega), up_ne (by omega)]) (by rw [up_ne (by decide), up_ne (by decide)]), by rw [up_eq]; simp, fun i hi => ?_, KCi.same h4 (fun a _ ha i => by rw [up_ne (by omega), up_ne (by omega)])⟩
        have hi : i < A.2.1.1 + 1 := hi
        rw [up_ne (by decide), up_row]
        show _ = if i = A.2.1.1 then x1 else A.2.1.2 i
        split
        · rfl
        · exact h3 i (by omega)
      · obtain ⟨h1, h2, h3, h4⟩ := hKM
        refine ⟨h1.same (fun a ha i => by rw [up_ne (by omega), up_ne (by omega)]) (by rw [up_nk (by decide), up_ne (by decide)]), by rw [up_eq]; simp, fun i hi => ?_, KMi.same h4 (fun i => by rw [up_ne (by decide), up_ne (by decide)]) (fun i => by rw [up_ne (by decide), up_ne (by decide)])⟩
        have hi : i < A.2.1.1 + 1 := hi
        rw [up_ne (by decide), up_row]
        show _ = if i = A.2.1.1 then x1 else A.2.1.2 i
        split
        · rfl
        · exact h3 i (by omega)
  · refine ⟨-2, mC, mM, ?_, ?_, hI⟩
    · unfold f_X11_say
      by_cases c1 : x1 < 33
      · rw [if_pos c1]
      · rw [if_neg c1, if_pos (by omega)]
    · simp [f_X12_say, sM_in, c0]
