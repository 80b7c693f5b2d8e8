theorem n21M : rM 21 = true := by decide
theorem sM_timesOf {s : Int} (hs : 98 ≤ s ∧ s ≤ 100) : f_X12_timesOf s = some (tmO s : Int) := by
  unfold f_X12_timesOf
  rw [jw_eq (x := s - 98) (by omega) (by omega), jw_eq (by omega) (by omega)]
  unfold tmO
  rw [show s - 98 + 2 = (((s - 98).toNat + 2 : Nat) : Int) by omega]
/-- the reference's premises, over all that leaves its table of bounds alone -/
def GBo (m : jm_M) (p cn : Nat) (sg : Nat → Int) (S w h ms : Nat) : Prop := GNa m p cn sg S w h ∧ AM m (pa S w h sg 4 0 (inA S w h, fun _ => none)) ∧ m 2 2 = (ms : Int) ∧ m 4 p = (cn : Int)
theorem GBo.same {m M : jm_M} {p cn : Nat} {sg : Nat → Int} {S w h ms : Nat} (hG : GBo m p cn sg S w h ms) (hs : ∀ a, a ≠ 21 → ∀ j, M a j = m a j) : GBo M p cn sg S w h ms := by
  obtain ⟨⟨g1, g2, g4⟩, a, k2, k4⟩ := hG
  refine ⟨⟨g1.row n21M hs, ⟨by rw [hs 2 (by decide)]; exact g2.1, by rw [hs 2 (by decide)]; exact g2.2.1, by rw [hs 2 (by decide)]; exact g2.2.2⟩, fun i hi => ⟨by rw [hs 5 (by decide)]; exact (g4 i hi).1, by rw [hs 6 (by decide)]; exact (g4 i hi).2⟩⟩, a.same (hs 18 (by decide)) (hs 20 (by decide)), by rw [hs 2 (by decide)]; exact k2, by rw [hs 4 (by decide)]; exact k4⟩
theorem sM_table {p cn : Nat} {sg : Nat → Int} {S w h ms : Nat} {x2 one : Int} {m : jm_M} (hone : one = if x2 = 1 then 1 else (ms : Int)) (hp : p < 4) (hT : ST S w h) (hX : TX cn sg) (hG : GBo m p cn sg S w h ms) : ∃ M, f_X12_bound_l35 jN shM jN 1 (p : Int) x2 ((cn : Int) - 1) m = f_X12_bound_l240 jN shM jN 1 (p : Int) x2 (tbO S w h (ms : Int) one sg cn cn 0) 0 M ∧ ∀ a, a ≠ 21 → ∀ j, M a j = m a j := by
  have hJ := jN_huge
  have hcn := hX.1
  have hpos := hX.pos
  obtain ⟨M, n', e, q⟩ := loopD (fun n k m => f_X12_bound_l35 jN shM n 1 (p : Int) x2 k m) cn (fun r M => (∀ j, r ≤ j → j < cn → M 21 j = tbO S w h (ms : Int) one sg cn (cn - r) j) ∧ ∀ a, a ≠ 21 → ∀ j, M a j = m a j) (fun n r M hr hI => by
    obtain ⟨⟨g1, g2, g4⟩, am, k2, k4⟩ := hG.same hI.2
    refine ⟨jm_up M 21 r (tbO S w h (ms : Int) one sg cn (cn - r) r), ?_, fun j h1 h2 => ?_, fun a ha j => (up_ne ha).trans (hI.2 a ha j)⟩
    · have fin : ∀ v : Int, v = tbO S w h (ms : Int) one sg cn (cn - r) r → Option.bind (jwa shM M 21 13 (r : Int) v) (fun m20 => f_X12_bound_l35 jN shM n 1 (p : Int) x2 (jw ((r : Int) + (-1))) m20) = f_X12_bound_l35 jN shM n 1 (p : Int) x2 ((r : Int) - 1) (jm_up M 21 r (tbO S w h (ms : Int) one sg cn (cn - r) r)) := fun v hv => by
        rw [jwa_ok sM21 (by omega) (by omega), Option.bind_some, Int.toNat_natCast, jw_eq (by omega) (by omega), hv]
        rfl
      have tv : tbO S w h (ms : Int) one sg cn (cn - r) r = ncO S w h (ms : Int) one sg (fun j => M 21 j) r := by
        rw [tbO_at hr, ncO_congr hX hr (T := fun j => M 21 j) (U := tbO S w h (ms : Int) one sg cn (cn - (r + 1))) (fun j h1 h2 => hI.1 j (by omega) h2)]
      have x1 : jw (jw (30 * (p : Int)) + (r : Int)) = ((30 * p + r : Nat) : Int) := by
        rw [jw_eq (x := 30 * (p : Int)) (by omega) (by omega), jw_eq (by omega) (by omega)]; omega
      have sgn := hX.sign hr
      show f_X12_bound_b35 jN shM (f_X12_bound_l35 jN shM n) 1 (p : Int) x2 (r : Int) M = _
      unfold f_X12_bound_b35 f_X12_bound_b223 f_X12_bound_b97 f_X12_bound_b101 f_X12_bound_b107 f_X12_bound_b224
      rw [if_neg (by omega), jrf_ok sM1, Option.bind_some, g1.t4, x1, jra_ok sM5 (by omega) (by omega), Option.bind_some, Int.toNat_natCast, (g4 r hr).1, sM_in, Option.bind_some, ifb]
      by_cases c : 48 ≤ sg r ∧ sg r ≤ 55
      · have nv : ncO S w h (ms : Int) one sg (fun j => M 21 j) r = fcO S w h (ms : Int) one sg r := by
          unfold ncO
          rw [if_neg (by omega), if_neg (by omega), if_neg (by omega), if_neg (by omega)]
        rw [if_pos c, jck_ok sM1, Option.bind_some, sM_sortOf hp hT hX ⟨g1, g2, g4⟩ am hr c, Option.bind_some, jrf_ok sM1, Option.bind_some, g1.t30, jrf_ok sM1, Option.bind_some, g1.t0, jra_ok sM2 (by decide) (by decide), Option.bind_some, show (2 : Int).toNat = 2 from rfl, k2]
        rw [nv] at tv
        unfold fcO at tv
        by_cases c1 : soO S w h sg r = 0
        · rw [if_pos c1] at tv
          rw [if_pos (by omega)]
          exact fin _ tv.symm
        · rw [if_neg c1] at tv
          rw [if_neg (by omega)]
          by_cases c3 : x2 = 1
          · rw [if_pos c3] at hone
            rw [if_pos c3]
            by_cases c2 : soO S w h sg r = 2
            · rw [if_pos c2, hone] at tv
              rw [if_pos (by omega)]
              exact fin _ (by rw [hone]; exact tv.symm)
            · rw [if_neg c2] at tv
              rw [if_neg (by omega)]
              exact fin _ tv.symm
          · rw [if_neg c3] at hone
            rw [if_neg c3]
            rw [hone, ite_self] at tv
            exact fin _ (by rw [hone]; exact tv.symm)
      · rw [if_neg c]
        unfold ncO at tv
        dsimp only at tv
        by_cases c1 : sg r = 45
        · rw [if_pos c1] at tv
          rw [if_pos c1, jrf_ok sM1, Option.bind_some, g1.t30]
          exact fin _ tv.symm
        · rw [if_neg c1] at tv
          rw [if_neg c1, sM_isLoop, Option.bind_some, ifb]
          by_cases c4 : 98 ≤ sg r ∧ sg r ≤ 100
          · have hpp : pt (sg r) = 1 := by
              rcases (show sg r = 98 ∨ sg r = 99 ∨ sg r = 100 by omega) with z | z | z <;> (rw [z]; rfl)
            have h3 := hX.one hr hpp
            rw [if_neg (by omega), if_neg (by omega), if_pos c4] at tv
            rw [if_pos c4, jrf_ok sM1, Option.bind_some, g1.t30, sM_timesOf c4, Option.bind_some, Option.bind_some, g1.t30, jw_succ (by omega), jra_ok sM21 (by omega) (by omega), Option.bind_some, Int.toNat_natCast]
            exact fin _ tv.symm
          · have h2 : pt (sg r) = 2 := by
              rcases sgn with z | z | z | z
              · rcases lf_or z with y | y
                · exact absurd y c1
                · exact absurd y c
              · exact absurd z c4
              · rw [z]; rfl
              · rw [z]; rfl
            have h3 := hX.two hr h2
            have hn : nx sg r = r + 1 + zs sg 4 (r + 1) := rfl
            have x3 : jw (((30 * p + r : Nat) : Int) + 1) = ((30 * p + (r + 1) : Nat) : Int) := by rw [jw_eq (by omega) (by omega)]; omega
            have x4 : jw (((r + 1 : Nat) : Int) + (zs sg 4 (r + 1) : Int)) = ((nx sg r : Nat) : Int) := by rw [jw_eq (by omega) (by omega)]; omega
            rw [if_neg c4, jrf_ok sM1, Option.bind_some, g1.t30, jw_succ (by omega), jra_ok sM21 (by omega) (by omega), Option.bind_some, Int.toNat_natCast, Option.bind_some, jrf_ok sM1, Option.bind_some, g1.t5, x3, jra_ok sM6 (by omega) (by omega), Option.bind_some, Int.toNat_natCast, (g4 (r + 1) (by omega)).2, g1.t30, x4, jra_ok sM21 (by omega) (by omega), Option.bind_some, Int.toNat_natCast, Option.bind_some, g1.t30]
            by_cases c2 : sg r = 59
            · rw [if_pos c2] at tv
              rw [if_pos c2]
              exact fin _ tv.symm
            · have c3 : sg r = 63 := by rcases pt_2.mp h2 with z | z <;> omega
              rw [if_neg c2, if_pos c3] at tv
              rw [if_neg c2]
              by_cases c5 : M 21 (nx sg r) < M 21 (r + 1)
              · rw [if_neg (by omega)] at tv
                rw [if_pos c5]
                exact fin _ tv.symm
              · rw [if_neg c5]
                by_cases c6 : M 21 (r + 1) < M 21 (nx sg r)
                · rw [if_pos c6] at tv
                  exact fin _ tv.symm
                · rw [if_neg c6] at tv
                  exact fin _ (by omega)
    · by_cases c : j = r
      · rw [c]; exact up_eq
      · rw [up_nk c, tbO_ne hr c]; exact hI.1 j (by omega) h2) cn jN m (Nat.le_refl _) (by omega) ⟨fun j h1 h2 => by omega, fun _ _ _ => rfl⟩
  have e : f_X12_bound_l35 jN shM jN 1 (p : Int) x2 ((cn : Int) - 1) m = f_X12_bound_l35 jN shM (n' + 1) 1 (p : Int) x2 (-1) M := e
  obtain ⟨⟨g1, g2, g4⟩, am, k2, k4⟩ := hG.same q.2
  refine ⟨M, ?_, q.2⟩
  rw [e]
  show f_X12_bound_b35 jN shM (f_X12_bound_l35 jN shM n') 1 (p : Int) x2 (-1) M = _
  unfold f_X12_bound_b35
  rw [if_pos (by decide), jrf_ok sM1, Option.bind_some, g1.t30, jra_ok sM21 (by decide) (by decide), Option.bind_some, show (0 : Int).toNat = 0 from rfl, q.1 0 (Nat.le_refl _) (by omega), Nat.sub_zero]
