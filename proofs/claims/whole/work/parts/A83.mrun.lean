/-! a run of the reference -/
theorem fK_lt {S w h k l : Nat} (hT : ST S w h) (hl : l < 8) (hk : k < KN S) : fK S w h k l < KN S := by
  obtain ⟨hS, ⟨hw1, hw2⟩, hh2, hm⟩ := id hT
  obtain ⟨l1, l2, l3⟩ := line_S hS hl
  have hs4 : l % S < 4 := by have := hS.le; omega
  have hpos : ∀ s, s < 4 → 1 ≤ LK S s := fun s _ => by
    unfold LK bsD
    split <;> omega
  have e := enc_surj hk hpos
  have dl : ∀ s, s < 4 → k / sd (LK S) s % LK S s < LK S s := fun s hs => Nat.mod_lt _ (hpos s hs)
  have le := enc_le (LK S) (fun s => k / sd (LK S) s % LK S s) hs4
  rw [e] at le
  unfold fK
  split
  · exact hk
  · have hd4 : LK S (l % S) = bsD (nS S) := if_pos l2
    have hdg := (dg_spec (r := rmS S w h (l % S)) (a := l / S) (e := k / sd (LK S) (l % S) % LK S (l % S)) hS.n (rm_le hw2) l1 (by rw [← hd4]; exact dl _ hs4)).2.2
    rw [← hd4] at hdg
    have eu := enc_upd (LK S) (fun s => k / sd (LK S) s % LK S s) (dgD (nS S) (rmS S w h (l % S)) (l / S) (k / sd (LK S) (l % S) % LK S (l % S))) hs4
    rw [e] at eu
    have lt := enc_lt (L := LK S) (d := udd (fun s => k / sd (LK S) s % LK S s) (l % S) (dgD (nS S) (rmS S w h (l % S)) (l / S) (k / sd (LK S) (l % S) % LK S (l % S)))) (fun s hs => by
      unfold udd
      split
      · rename_i q; subst q; exact hdg
      · exact dl s hs)
    have lt : _ < KN S := lt
    omega
/-- what stands while the reference works through the text of program p -/
def GM (m : jm_M) (p cn : Nat) (sg : Nat → Int) (S w h ms : Nat) (bd : jBd) : Prop := MF m ∧ SMm m S w h ∧ m 2 2 = (ms : Int) ∧ (∀ i, i < cn → m 5 (30 * p + i) = sg i ∧ m 6 (30 * p + i) = (zs sg 4 i : Int)) ∧ m 1 7 = (bd.2.2.2.2.1 : Int) ∧ ∀ i, i < bd.2.2.2.2.1 → m 8 i = bd.2.2.2.2.2 i
theorem GM.fr {m m' : jm_M} {p cn : Nat} {sg : Nat → Int} {S w h ms : Nat} {bd : jBd} (hG : GM m p cn sg S w h ms bd) (hF : MF m') (hs : ∀ a, 2 ≤ a → a ≤ 8 → ∀ j, m' a j = m a j) (h7 : m' 1 7 = m 1 7) : GM m' p cn sg S w h ms bd := by
  obtain ⟨g1, g2, g3, g4, g5, g6⟩ := hG
  exact ⟨hF, g2.same (hs 2 (by decide) (by decide)), by rw [hs 2 (by decide) (by decide)]; exact g3, fun i hi => by rw [hs 5 (by decide) (by decide), hs 6 (by decide) (by decide)]; exact g4 i hi, by rw [h7]; exact g5, fun i hi => by rw [hs 8 (by decide) (by decide)]; exact g6 i hi⟩
def FrP (m M : jm_M) (pl : Nat) : Prop := (∀ a, a ≠ 1 → a ≠ 11 → a ≠ 12 → a ≠ 13 → ∀ j, M a j = m a j) ∧ (∀ j, j ≠ 10 → j ≠ 12 → j ≠ 26 → M 1 j = m 1 j) ∧ ∀ j, j < pl → M 11 j = m 11 j ∧ M 12 j = m 12 j ∧ M 13 j = m 13 j
theorem FrP.rf (m : jm_M) (pl : Nat) : FrP m m pl := ⟨fun _ _ _ _ _ _ => rfl, fun _ _ _ _ => rfl, fun _ _ => ⟨rfl, rfl, rfl⟩⟩
theorem FrP.tr {m m1 m2 : jm_M} {pl pl2 : Nat} (h1 : FrP m m1 pl) (h2 : FrP m1 m2 pl2) (hp : pl ≤ pl2) : FrP m m2 pl := ⟨fun a a1 a2 a3 a4 j => (h2.1 a a1 a2 a3 a4 j).trans (h1.1 a a1 a2 a3 a4 j), fun j a1 a2 a3 => (h2.2.1 j a1 a2 a3).trans (h1.2.1 j a1 a2 a3), fun j hj => ⟨((h2.2.2 j (by omega)).1).trans (h1.2.2 j hj).1, ((h2.2.2 j (by omega)).2.1).trans (h1.2.2 j hj).2.1, ((h2.2.2 j (by omega)).2.2).trans (h1.2.2 j hj).2.2⟩⟩
theorem FrP.f1 {m M : jm_M} {pl k : Nat} {v : Int} (h : FrP m M pl) (hk : k = 10 ∨ k = 12 ∨ k = 26) : FrP m (jm_up M 1 k v) pl := ⟨fun a a1 a2 a3 a4 j => (up_ne a1).trans (h.1 a a1 a2 a3 a4 j), fun j a1 a2 a3 => (up_nk (by omega)).trans (h.2.1 j a1 a2 a3), fun j hj => by rw [up_ne (by decide), up_ne (by decide), up_ne (by decide)]; exact h.2.2 j hj⟩
theorem FrP.fr {m M : jm_M} {pl a k : Nat} {v : Int} (h : FrP m M pl) (ha : a = 11 ∨ a = 12 ∨ a = 13) (hk : pl ≤ k) : FrP m (jm_up M a k v) pl := ⟨fun b a1 a2 a3 a4 j => (up_ne (by omega)).trans (h.1 b a1 a2 a3 a4 j), fun j a1 a2 a3 => (up_ne (by omega)).trans (h.2.1 j a1 a2 a3), fun j hj => by rw [up_nk (by omega), up_nk (by omega), up_nk (by omega)]; exact h.2.2 j hj⟩
theorem GM.frP {m M : jm_M} {p cn : Nat} {sg : Nat → Int} {S w h ms pl : Nat} {bd : jBd} (hG : GM m p cn sg S w h ms bd) (hf : FrP m M pl) : GM M p cn sg S w h ms bd := by
  have hF : MF M := hG.1.same fun q hq => by
    have h1 : ∀ q ∈ rfM, q.1 = 1 ∧ q.2.1 ≠ 10 ∧ q.2.1 ≠ 12 ∧ q.2.1 ≠ 26 := by decide
    obtain ⟨e, a1, a2, a3⟩ := h1 q hq
    rw [e]
    exact hf.2.1 _ a1 a2 a3
  exact hG.fr hF (fun a h1 h2 j => hf.1 a (by omega) (by omega) (by omega) (by omega) j) (hf.2.1 7 (by decide) (by decide) (by decide))
theorem n1M : nM 1 10 = true ∧ nM 1 12 = true ∧ nM 1 26 = true ∧ nM 1 18 = true ∧ nM 1 19 = true ∧ nM 1 20 = true ∧ nM 1 22 = true ∧ nM 1 23 = true ∧ nM 1 25 = true := by decide
/-- the pile with one more on it -/
def piM (m : jm_M) (pl : Nat) (at' st lf : Int) : jm_M := jm_up (jm_up (jm_up (jm_up m 11 pl at') 12 pl st) 13 pl lf) 1 12 ((pl + 1 : Nat) : Int)
theorem sM_pile {m : jm_M} {pl : Nat} {at' st lf : Int} (hF : MF m) (hp : m 1 12 = (pl : Int)) (hpl : pl < 6) : f_X12_pile shM 1 at' st lf m = some (piM m pl at' st lf) := by
  obtain ⟨-, -, -, -, -, -, -, -, -, w11, w12, w13, -⟩ := rM_rows
  have u1 : MF (jm_up m 11 pl at') := hF.upr w11
  have u2 : MF (jm_up (jm_up m 11 pl at') 12 pl st) := u1.upr w12
  unfold f_X12_pile piM
  rw [jrf_ok sM1, Option.bind_some, jrf_ok sM1, Option.bind_some, hF.t13, hp, jwa_ok sM11 (by omega) (by omega), Option.bind_some, Int.toNat_natCast, jrf_ok sM1, Option.bind_some, jrf_ok sM1, Option.bind_some, u1.t14, up_ne (show (1 : Nat) ≠ 11 by decide), hp, jwa_ok sM12 (by omega) (by omega), Option.bind_some, Int.toNat_natCast, jrf_ok sM1, Option.bind_some, jrf_ok sM1, Option.bind_some, u2.t15, up_ne (show (1 : Nat) ≠ 12 by decide), up_ne (show (1 : Nat) ≠ 11 by decide), hp, jwa_ok sM13 (by omega) (by omega), Option.bind_some, Int.toNat_natCast, jrf_ok sM1, Option.bind_some, up_ne (show (1 : Nat) ≠ 13 by decide), up_ne (show (1 : Nat) ≠ 12 by decide), up_ne (show (1 : Nat) ≠ 11 by decide), hp, jw_succ (by omega), jwf_ok sM1, Option.bind_some]
theorem piM_at {m : jm_M} {pl : Nat} {at' st lf : Int} : piM m pl at' st lf 11 pl = at' ∧ piM m pl at' st lf 12 pl = st ∧ piM m pl at' st lf 13 pl = lf ∧ piM m pl at' st lf 1 12 = ((pl + 1 : Nat) : Int) ∧ FrP m (piM m pl at' st lf) pl := by
  unfold piM
  refine ⟨?_, ?_, ?_, up_eq, ?_⟩
  · rw [up_ne (by decide), up_ne (by decide), up_ne (by decide), up_eq]
  · rw [up_ne (by decide), up_ne (by decide), up_eq]
  · rw [up_ne (by decide), up_eq]
  · exact ((((FrP.rf m pl).fr (Or.inl rfl) (Nat.le_refl _)).fr (Or.inr (Or.inl rfl)) (Nat.le_refl _)).fr (Or.inr (Or.inr rfl)) (Nat.le_refl _)).f1 (Or.inr (Or.inl rfl))
theorem sM_nextDigit {m : jm_M} {p cn : Nat} {sg : Nat → Int} {S w h ms ta : Nat} {bd : jBd} (hG : GM m p cn sg S w h ms bd) (hV : VB bd) (hta : m 1 26 = (ta : Int)) (hb : ta ≤ 100000) : f_X12_nextDigit shM 1 m = some ((dgO bd ta : Int), jm_up m 1 26 ((ta + 1 : Nat) : Int)) := by
  obtain ⟨g1, g2, g3, g4, g5, g6⟩ := hG
  have u1 : MF (jm_up m 1 26 ((ta + 1 : Nat) : Int)) := g1.up n1M.2.2.1
  have hq := hV.2.2.2.1
  unfold f_X12_nextDigit
  rw [jrf_ok sM1, Option.bind_some, hta, jw_succ (by omega), jwf_ok sM1, Option.bind_some, jrf_ok sM1, Option.bind_some, jrf_ok sM1, Option.bind_some, up_eq, up_nk (show (7 : Nat) ≠ 26 by decide), g5, dgO_eq hV]
  by_cases c : ta < bd.2.2.2.2.1
  · rw [if_neg (by omega), if_pos c, jrf_ok sM1, Option.bind_some, Option.bind_some, u1.t8, jw_eq (x := ((ta + 1 : Nat) : Int) - 1) (by omega) (by omega), show ((ta + 1 : Nat) : Int) - 1 = (ta : Int) by omega, jra_ok sM8 (by omega) (by omega), Option.bind_some, Int.toNat_natCast, up_ne (show (8 : Nat) ≠ 1 by decide), g6 ta c]
  · rw [if_pos (by omega), if_neg c]
def stp : Nat → Nat
  | 0 => 1
  | d + 1 => 6 + 5 * stp d
theorem stp_pos (d : Nat) : 1 ≤ stp d := by
  cases d with
  | zero => exact Nat.le_refl 1
  | succ d => show 1 ≤ 6 + _; omega
/-- the state of the loop -/
def rl (N n : Nat) (x2 : Int) (q : RS) (to : Int) (m : jm_M) : Option (Int × jm_M) := f_X12_run_l48 N shM n 1 x2 (q.1 : Int) (q.2.1 : Int) (q.2.2.1 : Int) (q.2.2.2.1 : Int) to m
theorem rl_begin {N n : Nat} {x2 : Int} {q : RS} {to : Int} {m : jm_M} (h : 0 ≤ to) : rl N (n + 1) x2 q to m = f_X12_run_b60 N shM (f_X12_run_l48 N shM n) 1 x2 (q.1 : Int) (q.2.1 : Int) (q.2.2.1 : Int) (q.2.2.2.1 : Int) to m := by
  show f_X12_run_b48 N shM (f_X12_run_l48 N shM n) 1 x2 (q.1 : Int) (q.2.1 : Int) (q.2.2.1 : Int) (q.2.2.2.1 : Int) to m = _
  unfold f_X12_run_b48
  rw [if_neg (by omega)]
theorem rl_come {N n pl : Nat} {x2 : Int} {q : RS} {m : jm_M} (h : m 1 12 = ((pl + 1 : Nat) : Int)) : rl N (n + 1) x2 q (-6) m = f_X12_run_b60 N shM (f_X12_run_l48 N shM n) 1 x2 (q.1 : Int) (q.2.1 : Int) (q.2.2.1 : Int) (q.2.2.2.1 : Int) (-6) m := by
  show f_X12_run_b48 N shM (f_X12_run_l48 N shM n) 1 x2 (q.1 : Int) (q.2.1 : Int) (q.2.2.1 : Int) (q.2.2.2.1 : Int) (-6) m = _
  unfold f_X12_run_b48
  rw [if_pos (by decide), jrf_ok sM1, Option.bind_some, h, if_pos (by omega)]
/-- a text within the top of the pile is done: what comes next -/
theorem rl_top {N n pl p cn i lf : Nat} {sg : Nat → Int} {S w h ms : Nat} {bd : jBd} {x2 : Int} {q : RS} {m : jm_M} (hG : GM m p cn sg S w h ms bd) (hp4 : p < 4) (hX : TX cn sg) (hi : i < cn) (hpl : pl < 6) (h12 : m 1 12 = ((pl + 1 : Nat) : Int)) (hat : m 11 pl = ((30 * p + i : Nat) : Int)) (hlf : m 13 pl = (lf : Int)) (hl4 : lf ≤ 4) (h2 : sg i = 59 → i + 1 < cn) :
    rl N (n + 1) x2 q (-6) m = if lf = 0 then rl N n x2 q (-6) (jm_up (jm_up m 13 pl (-1)) 1 12 (pl : Int)) else rl N n x2 q ((30 * p + (if sg i = 59 then nx sg i else i + 1) : Nat) : Int) (jm_up (jm_up m 13 pl ((lf - 1 : Nat) : Int)) 1 12 ((pl + 1 : Nat) : Int)) := by
  obtain ⟨g1, g2, g3, g4, g5, g6⟩ := hG
  obtain ⟨-, -, -, -, -, -, -, -, -, w11, w12, w13, -⟩ := rM_rows
  have hcn := hX.1
  have u1 : MF (jm_up m 13 pl ((lf : Int) - 1)) := g1.upr w13
  rw [rl_come h12]
  unfold f_X12_run_b60
  rw [if_pos (by decide), jrf_ok sM1, Option.bind_some, jrf_ok sM1, Option.bind_some, g1.t15, h12, jw_eq (x := ((pl + 1 : Nat) : Int) - 1) (by omega) (by omega), show ((pl + 1 : Nat) : Int) - 1 = (pl : Int) by omega, jra_ok sM13 (by omega) (by omega), Option.bind_some, Int.toNat_natCast, hlf, jw_eq (x := (lf : Int) - 1) (by omega) (by omega), jwa_ok sM13 (by omega) (by omega), Option.bind_some, Int.toNat_natCast, jrf_ok sM1, Option.bind_some, u1.t13, jra_ok sM11 (by omega) (by omega), Option.bind_some, Int.toNat_natCast, up_ne (show (11 : Nat) ≠ 13 by decide), hat, jrf_ok sM1, Option.bind_some, u1.t15, jra_ok sM13 (by omega) (by omega), Option.bind_some, Int.toNat_natCast, up_eq]
  have h141 : ∀ s0 : Int, f_X12_run_b141 N shM (f_X12_run_l48 N shM n) 1 x2 (q.1 : Int) (q.2.1 : Int) (q.2.2.1 : Int) (q.2.2.2.1 : Int) (pl : Int) s0 (jm_up m 13 pl ((lf : Int) - 1)) = rl N n x2 q s0 (jm_up (jm_up m 13 pl ((lf : Int) - 1)) 1 12 (if lf = 0 then (pl : Int) else ((pl + 1 : Nat) : Int))) := by
    intro s0
    unfold f_X12_run_b141 f_X12_run_b163
    rw [jrf_ok sM1, Option.bind_some, jrf_ok sM1, Option.bind_some, u1.t15, jra_ok sM13 (by omega) (by omega), Option.bind_some, Int.toNat_natCast, up_eq, up_ne (show (1 : Nat) ≠ 13 by decide), h12]
    by_cases c : lf = 0
    · rw [if_pos (by omega), if_pos c, jw_eq (by omega) (by omega), jwf_ok sM1, Option.bind_some, show ((pl + 1 : Nat) : Int) - 1 = (pl : Int) by omega]
      rfl
    · rw [if_neg (by omega), if_neg c, jw_eq (by omega) (by omega), jwf_ok sM1, Option.bind_some, show ((pl + 1 : Nat) : Int) - 0 = ((pl + 1 : Nat) : Int) by omega]
      rfl
  by_cases c : lf = 0
  · rw [if_pos (by omega), h141, if_pos c, if_pos c, c]
    rfl
  · have hn : (lf : Int) - 1 = ((lf - 1 : Nat) : Int) := by omega
    rw [if_neg (by omega), if_neg c, jrf_ok sM1, Option.bind_some, u1.t4, jra_ok sM5 (by omega) (by omega), Option.bind_some, Int.toNat_natCast, up_ne (show (5 : Nat) ≠ 13 by decide), (g4 i hi).1]
    by_cases c2 : sg i = 59
    · have hi1 := h2 c2
      have hz := (hX.node hi1).2
      rw [if_pos c2, jrf_ok sM1, Option.bind_some, u1.t5, jw_eq (x := ((30 * p + i : Nat) : Int) + 1) (by omega) (by omega), show ((30 * p + i : Nat) : Int) + 1 = ((30 * p + (i + 1) : Nat) : Int) by omega, jra_ok sM6 (by omega) (by omega), Option.bind_some, Int.toNat_natCast, up_ne (show (6 : Nat) ≠ 13 by decide), (g4 _ hi1).2, jw_eq (by omega) (by omega), h141, if_neg c, if_pos c2, hn]
      congr 1
      unfold nx
      omega
    · rw [if_neg c2, if_neg c2, jw_eq (by omega) (by omega), h141, if_neg c, hn]
      congr 1
