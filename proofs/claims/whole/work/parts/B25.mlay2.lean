theorem ag_enter {N p cn : Nat} {sg : Nat → Int} {S w h : Nat} (hN : 1000 ≤ N) (hp : p < 4) (hX : TX cn sg) {i pl n : Nat} {q : AS} {m : jm_M} (hi : i < cn) (hpl : pl < 6) (hs : (98 ≤ sg i ∧ sg i ≤ 100) ∨ sg i = 59 ∨ sg i = 63) (hG : GNa m p cn sg S w h) (hA : AM m q) (h12 : m 1 12 = (pl : Int)) :
    ∃ M, f_X12_layAges_l63 N shM (n + 1) 1 (p : Int) ((30 * p + i : Nat) : Int) m = f_X12_layAges_l63 N shM n 1 (p : Int) ((30 * p + (i + 1) : Nat) : Int) M ∧ GNa M p cn sg S w h ∧ AM M q ∧ PE M pl (30 * p + i) 0 ∧ KA M pl q.1 ∧ FrG m M pl := by
  have hcn := hX.1
  obtain ⟨g1, g2, g4⟩ := id hG
  have hpt : 0 < (pt (sg i) : Int) := by
    rcases hs with z | z | z
    · rcases (show sg i = 98 ∨ sg i = 99 ∨ sg i = 100 by omega) with z | z | z <;> (rw [z]; decide)
    · rw [z]; decide
    · rw [z]; decide
  generalize hP : piM m pl ((30 * p + i : Nat) : Int) 0 0 = P
  have hPi := piM_at (m := m) (pl := pl) (at' := ((30 * p + i : Nat) : Int)) (st := 0) (lf := 0)
  rw [hP] at hPi
  have frP : FrG m P pl := by rw [← hP]; exact FrG.pi
  have hGP := hG.fr frP
  have hAP : AM P q := by
    rw [← hP]
    exact hA.same (fun j => by unfold piM; rw [up_ne (by decide), up_ne (by decide), up_ne (by decide), up_ne (by decide)]) (fun j => by unfold piM; rw [up_ne (by decide), up_ne (by decide), up_ne (by decide), up_ne (by decide)])
  obtain ⟨M, e, k1, k2, k3⟩ := sM_keepAges (N := N) (f := pl) (by omega) hGP.1 hpl hAP.1
  have frM : FrG P M pl := FrG.r19 k2 k3
  refine ⟨M, ?_, hGP.fr frM, hAP.same (k2 18 (by decide)) (k2 20 (by decide)), ⟨by rw [k2 11 (by decide)]; exact hPi.1, by rw [k2 12 (by decide)]; exact hPi.2.1, by rw [k2 1 (by decide)]; exact hPi.2.2.2.1⟩, k1, frP.tr frM (Nat.le_refl _)⟩
  show f_X12_layAges_b63 N shM (f_X12_layAges_l63 N shM n) 1 (p : Int) ((30 * p + i : Nat) : Int) m = _
  unfold f_X12_layAges_b63 f_X12_layAges_b74 f_X12_layAges_b184
  rw [if_neg (by omega), if_neg (by omega), jrf_ok sM1, Option.bind_some, g1.t4, jra_ok sM5 (by omega) (by omega), Option.bind_some, Int.toNat_natCast, (g4 i hi).1, sM_in, Option.bind_some, ifb, if_neg (by omega), sM_partsOf (Or.inr hs), Option.bind_some, if_pos hpt, jck_ok sM1, Option.bind_some, sM_pile g1 h12 hpl, Option.bind_some, hP, jrf_ok sM1, Option.bind_some, hPi.2.2.2.1, jw_eq (x := ((pl + 1 : Nat) : Int) - 1) (by omega) (by omega), show ((pl + 1 : Nat) : Int) - 1 = (pl : Int) by omega, Option.bind_some, e, Option.bind_some, jw_eq (by omega) (by omega), show ((30 * p + i : Nat) : Int) + 1 = ((30 * p + (i + 1) : Nat) : Int) by omega]
theorem ag_come {N p cn : Nat} {sg : Nat → Int} {S w h : Nat} (hp : p < 4) (hX : TX cn sg) {i pl n : Nat} {st : Int} {m : jm_M} (hi : i < cn) (hpl : pl < 6) (hG : GNa m p cn sg S w h) (hE : PE m pl (30 * p + i) st) :
    f_X12_layAges_l63 N shM (n + 1) 1 (p : Int) (-6) m = f_X12_layAges_b230 N shM (f_X12_layAges_l63 N shM n) 1 (p : Int) (-6) (pl : Int) ((30 * p + i : Nat) : Int) (sg i) (if sg i = 59 ∨ sg i = 63 then 1 else 0) m := by
  have hcn := hX.1
  obtain ⟨g1, g2, g4⟩ := id hG
  obtain ⟨e1, e2, e3⟩ := hE
  show f_X12_layAges_b63 N shM (f_X12_layAges_l63 N shM n) 1 (p : Int) (-6) m = _
  unfold f_X12_layAges_b63 f_X12_layAges_b74 f_X12_layAges_b225
  rw [if_pos (by decide), jrf_ok sM1, Option.bind_some, e3, if_pos (by omega), if_pos (by decide), Option.bind_some, jrf_ok sM1, Option.bind_some, g1.t13, jw_eq (x := ((pl + 1 : Nat) : Int) - 1) (by omega) (by omega), show ((pl + 1 : Nat) : Int) - 1 = (pl : Int) by omega, jra_ok sM11 (by omega) (by omega), Option.bind_some, Int.toNat_natCast, e1, jrf_ok sM1, Option.bind_some, g1.t4, jra_ok sM5 (by omega) (by omega), Option.bind_some, Int.toNat_natCast, (g4 i hi).1]
  by_cases c : sg i = 59
  · rw [if_pos c, if_pos (Or.inl c)]
  · rw [if_neg c]
    by_cases c2 : sg i = 63
    · rw [if_pos c2, if_pos (Or.inr c2)]
    · rw [if_neg c2, if_neg (fun z => z.elim c c2)]
/-- the entry is taken off -/
theorem ag_pop {N p pl n : Nat} {m : jm_M} (hpl : pl < 6) (h12 : m 1 12 = ((pl + 1 : Nat) : Int)) : f_X12_layAges_b331 N shM (f_X12_layAges_l63 N shM n) 1 (p : Int) (-6) m = f_X12_layAges_l63 N shM n 1 (p : Int) (-6) (jm_up m 1 12 (pl : Int)) := by
  unfold f_X12_layAges_b331 f_X12_layAges_b341
  rw [jrf_ok sM1, Option.bind_some, h12, jw_eq (by omega) (by omega), show ((pl + 1 : Nat) : Int) - 1 = (pl : Int) by omega, jwf_ok sM1, Option.bind_some]
