/-! what the board says of a line -/
theorem rm_1 : ∀ h : Fin 256, (f_X11_linesOfSet 0 1).bind (fun q => f_J6_bitCount_0f7a4 (jand (h.val : Int) q)) = some (hc 1 h.val 0 : Int) := by decide +kernel
theorem rm_2 : ∀ h : Fin 256, ∀ s : Fin 2, (f_X11_linesOfSet (s.val : Int) 2).bind (fun q => f_J6_bitCount_0f7a4 (jand (h.val : Int) q)) = some (hc 2 h.val s.val : Int) := by decide +kernel
theorem rm_4 : ∀ h : Fin 256, ∀ s : Fin 4, (f_X11_linesOfSet (s.val : Int) 4).bind (fun q => f_J6_bitCount_0f7a4 (jand (h.val : Int) q)) = some (hc 4 h.val s.val : Int) := by decide +kernel
theorem s_hcL {S h s : Nat} (hS : isS S) (hh : h < 256) (hs : s < S) : (f_X11_linesOfSet (s : Int) (S : Int)).bind (fun q => f_J6_bitCount_0f7a4 (jand (h : Int) q)) = some (hc S h s : Int) := by
  rcases hS with rfl | rfl | rfl
  · obtain rfl : s = 0 := by omega
    exact rm_1 ⟨h, hh⟩
  · exact rm_2 ⟨h, hh⟩ ⟨s, hs⟩
  · exact rm_4 ⟨h, hh⟩ ⟨s, hs⟩
/-- the board's settings -/
def GS (m : jm_M) (S w h : Nat) : Prop := m 3 0 = (S : Int) ∧ m 3 1 = (w : Int) ∧ m 3 3 = (h : Int)
theorem s_holds {S w h l : Nat} {m : jm_M} (hF : CF m) (hG : GS m S w h) (hh : h < 256) (hl : l < 8) : f_X1_holds shC 2 (l : Int) m = some (if hb h l = true then 1 else 0) := by
  unfold f_X1_holds
  rw [jrf_ok sC2, Option.bind_some, hF.t2_2, jra_ok sC3 (by decide) (by decide), Option.bind_some, show (3 : Int).toNat = 3 from rfl, hG.2.2, s_isIn hh hl, Option.bind_some]
  by_cases c : hb h l = true
  · rw [if_pos c, jzb_1, Option.bind_some]
  · rw [if_neg c, jzb_0, Option.bind_some]
theorem s_roomFor {S w h l : Nat} {m : jm_M} (hF : CF m) (hG : GS m S w h) (hT : ST S w h) (hl : l < 8) : f_X1_roomFor shC 2 (l : Int) m = some (rmS S w h (l % S) : Int) := by
  obtain ⟨l1, l2, l3⟩ := line_S hT.1 hl
  have hq := s_hcL hT.1 hT.2.2.1 l2
  have hle := hT.2.2.2 (l % S) l2
  have hw := hT.2.1
  obtain ⟨q, eq, -, -⟩ := s_linesOfSet hT.1 l2
  rw [eq, Option.bind_some] at hq
  unfold f_X1_roomFor
  rw [jrf_ok sC2, Option.bind_some, hF.t2_2, jra_ok sC3 (by decide) (by decide), Option.bind_some, Option.bind_some, hF.t2_2, jra_ok sC3 (by decide) (by decide), Option.bind_some, show (0 : Int).toNat = 0 from rfl, show (3 : Int).toNat = 3 from rfl, hG.1, hG.2.2, s_setOf hT.1 hl, Option.bind_some, eq, Option.bind_some, Option.bind_some, hF.t2_2, jra_ok sC3 (by decide) (by decide), Option.bind_some, show (1 : Int).toNat = 1 from rfl, hG.2.1, hq, Option.bind_some]
  have ef : (w : Int) - (hc S h (l % S) : Int) = (rmS S w h (l % S) : Int) := by unfold rmS; omega
  rw [jw_eq (by omega) (by omega), ef]
theorem s_freeMates {S w h l : Nat} {m : jm_M} (hF : CF m) (hG : GS m S w h) (hT : ST S w h) (hl : l < 8) : ∃ r : Nat, f_X1_freeMates shC 2 (l : Int) m = some (r : Int) ∧ r < 256 ∧ ∀ k, k < 8 → hb r k = (decide (k % S = l % S) && !hb h k) := by
  obtain ⟨l1, l2, l3⟩ := line_S hT.1 hl
  obtain ⟨q, eq, hq, hqb⟩ := s_linesOfSet hT.1 l2
  obtain ⟨r, er, hr, hrb⟩ := andn_nat hq hT.2.2.1
  refine ⟨r, ?_, hr, fun k hk => by rw [hrb, hqb k hk]⟩
  unfold f_X1_freeMates
  rw [jrf_ok sC2, Option.bind_some, hF.t2_2, jra_ok sC3 (by decide) (by decide), Option.bind_some, show (0 : Int).toNat = 0 from rfl, hG.1, s_setOf hT.1 hl, Option.bind_some, eq, Option.bind_some, Option.bind_some, hF.t2_2, jra_ok sC3 (by decide) (by decide), Option.bind_some, show (3 : Int).toNat = 3 from rfl, hG.2.2, er]
