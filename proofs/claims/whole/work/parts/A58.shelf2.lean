theorem sM_shelf0 {m : jm_M} {x v : Int} (h : ¬ okS x v) : f_X12_shelf jN shM 1 x v m = some (-2, m) := by
  have h77 : f_X12_shelf_b77 jN shM 1 x v 0 m = some (-2, m) := if_pos rfl
  have h76 : f_X12_shelf_b76 jN shM 1 x v m = some (-2, m) := h77
  unfold okS at h
  unfold f_X12_shelf
  by_cases c0 : x = 0
  · rw [if_pos c0, if_neg (by omega), if_neg (by omega), if_neg (by omega)]
    exact h77
  · rw [if_neg c0]
    by_cases c1 : x = 1
    · rw [if_pos c1, sM_in, if_neg (by omega)]
      exact h77
    · rw [if_neg c1]
      by_cases c2 : x = 2
      · rw [if_pos c2, sM_in, if_neg (by omega)]
        exact h77
      · rw [if_neg c2]
        by_cases c3 : x = 3
        · rw [if_pos c3, sM_in, if_neg (by omega), Option.bind_some, if_pos rfl]
          exact h76
        · rw [if_neg c3]
          exact h76
theorem op_shelf : jOp_shelf jN shC shM Inv := by
  intro mC mM x1 x2 hx1 hx2 hI
  obtain ⟨A, hV, ⟨hF, hRR, hK⟩, hFM, hKM⟩ := id hI
  by_cases ok : okS x1 x2
  · obtain ⟨p, rfl⟩ : ∃ p : Nat, x1 = p := ⟨x1.toNat, by unfold okS at ok; omega⟩
    have hp : p < 4 := by unfold okS at ok; omega
    obtain ⟨v0, v1, v2, v3, v4⟩ := hV.1.1
    have w0 : st1 A.1.1 p x2 0 = 1 ∨ st1 A.1.1 p x2 0 = 2 ∨ st1 A.1.1 p x2 0 = 4 := by
      unfold st1
      split
      · unfold okS at ok; omega
      · exact v0
    have w1 : st1 A.1.1 p x2 1 = 1 ∨ st1 A.1.1 p x2 1 = 2 := by
      unfold st1
      split
      · unfold okS at ok; omega
      · exact v1
    have w2 : 2 ≤ st1 A.1.1 p x2 2 ∧ st1 A.1.1 p x2 2 ≤ 20 := by
      unfold st1
      split
      · unfold okS at ok; omega
      · exact v2
    have w3 : 0 ≤ st1 A.1.1 p x2 3 ∧ st1 A.1.1 p x2 3 ≤ 255 := by
      unfold st1
      split
      · unfold okS at ok; omega
      · exact v3
    obtain ⟨he, h01⟩ := may_all w0 w1 w3.1 w3.2
    rw [s_shelf hF hK.1.1 hp ok, sM_shelf hFM hKM.1.1 hp ok, he]
    rcases h01 with h0 | h0
    · rw [h0]
      exact ⟨-5, mC, mM, rfl, rfl, hI⟩
    · rw [h0]
      refine ⟨A.1.1 p, jm_up mC 3 p x2, jm_up mM 2 p x2, rfl, rfl, ((st1 A.1.1 p x2, A.1.2), A.2), ⟨⟨⟨w0, w1, w2, w3, ?_⟩, hV.1.2⟩, hV.2⟩, ⟨hF.up (nC_of (by decide) _), RRs.up hRR (by decide), ?_⟩, hFM.up (nM_of (by decide) _), ?_⟩
      · unfold mayH
        rw [h0]
        rfl
      · obtain ⟨⟨a1, a2, a3, a4, a5⟩, h2, h3, h4⟩ := hK
        refine ⟨⟨fun i hi => ?_, fun p hp => (a2 p hp).same (fun a ha _ i => by rw [up_ne (by omega)]), fun i hi => by rw [up_ne (by decide)]; exact a3 i hi, by rw [up_ne (by decide)]; exact a4, fun i hi => by rw [up_ne (by decide)]; exact a5 i hi⟩, by rw [up_ne (by decide)]; exact h2, fun i hi => by rw [up_ne (by decide)]; exact h3 i hi, KCi.same h4 (fun a ha _ i => by rw [up_ne (by omega)])⟩
        show jm_up mC 3 p x2 3 i = st1 A.1.1 p x2 i
        rw [up_row]
        unfold st1
        split
        · rfl
        · exact a1 i hi
      · obtain ⟨⟨a1, a2, a3, a4, a5⟩, h2, h3, h4⟩ := hKM
        refine ⟨⟨fun i hi => ?_, fun p hp => ⟨by rw [up_ne (by decide)]; exact (a2 p hp).1, fun i hi => by rw [up_ne (by decide), up_ne (by decide)]; exact (a2 p hp).2 i hi⟩, fun i hi => by rw [up_ne (by decide)]; exact a3 i hi, by rw [up_ne (by decide)]; exact a4, fun i hi => by rw [up_ne (by decide)]; exact a5 i hi⟩, by rw [up_ne (by decide)]; exact h2, fun i hi => by rw [up_ne (by decide)]; exact h3 i hi, KMi.same h4 (fun i => by rw [up_ne (by decide)]) (fun i => by rw [up_ne (by decide)])⟩
        show jm_up mM 2 p x2 2 i = st1 A.1.1 p x2 i
        rw [up_row]
        unfold st1
        split
        · rfl
        · exact a1 i hi
  · exact ⟨-2, mC, mM, by simp [f_X11_shelf, s_maySet0 ok], sM_shelf0 ok, hI⟩
