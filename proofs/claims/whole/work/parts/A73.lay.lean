/-! the class's tables of shelves -/
def ixS (S s L : Nat) : Nat := (L + (S - 1 - s)) / S
theorem ix_0 {S s : Nat} (hS : isS S) : ixS S s 0 = 0 := by
  unfold ixS
  have := hS.le
  exact Nat.div_eq_of_lt (by omega)
theorem ix_8 {S s : Nat} (hS : isS S) (hs : s < S) : ixS S s 8 = nS S := by
  rcases hS with rfl | rfl | rfl
  · obtain rfl : s = 0 := by omega
    rfl
  · rcases (show s = 0 ∨ s = 1 by omega) with rfl | rfl <;> rfl
  · rcases (show s = 0 ∨ s = 1 ∨ s = 2 ∨ s = 3 by omega) with rfl | rfl | rfl | rfl <;> rfl
theorem ix_d1 : ∀ L : Fin 8, ∀ s : Fin 1, (s.val = L.val % 1 → ixS 1 s.val L.val = L.val / 1 ∧ ixS 1 s.val (L.val + 1) = L.val / 1 + 1) ∧ (s.val ≠ L.val % 1 → ixS 1 s.val (L.val + 1) = ixS 1 s.val L.val) := by decide
theorem ix_d2 : ∀ L : Fin 8, ∀ s : Fin 2, (s.val = L.val % 2 → ixS 2 s.val L.val = L.val / 2 ∧ ixS 2 s.val (L.val + 1) = L.val / 2 + 1) ∧ (s.val ≠ L.val % 2 → ixS 2 s.val (L.val + 1) = ixS 2 s.val L.val) := by decide
theorem ix_d4 : ∀ L : Fin 8, ∀ s : Fin 4, (s.val = L.val % 4 → ixS 4 s.val L.val = L.val / 4 ∧ ixS 4 s.val (L.val + 1) = L.val / 4 + 1) ∧ (s.val ≠ L.val % 4 → ixS 4 s.val (L.val + 1) = ixS 4 s.val L.val) := by decide
theorem ix_s {S s L : Nat} (hS : isS S) (hs : s < S) (hL : L < 8) : (s = L % S → ixS S s L = L / S ∧ ixS S s (L + 1) = L / S + 1) ∧ (s ≠ L % S → ixS S s (L + 1) = ixS S s L) := by
  rcases hS with rfl | rfl | rfl
  · exact ix_d1 ⟨L, hL⟩ ⟨s, hs⟩
  · exact ix_d2 ⟨L, hL⟩ ⟨s, hs⟩
  · exact ix_d4 ⟨L, hL⟩ ⟨s, hs⟩
theorem set_d : ∀ l : Fin 8, jand (l.val : Int) (jw (1 - 1)) = ((l.val % 1 : Nat) : Int) ∧ jand (l.val : Int) (jw (2 - 1)) = ((l.val % 2 : Nat) : Int) ∧ jand (l.val : Int) (jw (4 - 1)) = ((l.val % 4 : Nat) : Int) := by decide +kernel
theorem s_setOf {S l : Nat} (hS : isS S) (hl : l < 8) : f_X11_setOf (l : Int) (S : Int) = some ((l % S : Nat) : Int) := by
  unfold f_X11_setOf
  have h := set_d ⟨l, hl⟩
  rcases hS with rfl | rfl | rfl
  · exact congrArg some h.1
  · exact congrArg some h.2.1
  · exact congrArg some h.2.2
theorem s_isIn {h l : Nat} (hh : h < 256) (hl : l < 8) : f_X11_isIn (h : Int) (l : Int) = some (if hb h l then 1 else 0) := by
  unfold f_X11_isIn
  rw [jbit hh hl]
  cases hb h l <;> rfl
/-- rows of the tables, and the references in their object -/
theorem rC_sh : rC 66 = true ∧ rC 67 = true ∧ rC 68 = true ∧ rC 69 = true ∧ rC 70 = true ∧ rC 71 = true ∧ nC 65 0 = true ∧ nC 65 1 = true ∧ nC 65 2 = true ∧ ∀ l : Fin 8, rC (73 + l.val) = true := by decide
/-- what is laid: sets, ranks, rooms, members; for lines less than L -/
def roomL (S w h s L : Nat) : Nat := if s < S then w - cnt (fun a => hb h (a * S + s)) (ixS S s L) else w
def membL (S h cr s L : Nat) : Nat := if s < S then cnt (mbS S h cr s) (ixS S s L) else 0
def rankL (S h cr l : Nat) : Int := if hb h l then -1 else if hb cr l then (cnt (mbS S h cr (l % S)) (l / S) : Int) else -1
def LD1 (m : jm_M) (S w h cr L : Nat) : Prop := m 65 1 = (h : Int) ∧ m 65 2 = (cr : Int) ∧ (∀ l, l < L → m 66 l = ((l % S : Nat) : Int) ∧ m 67 l = rankL S h cr l) ∧ ∀ s, s < 4 → m 68 s = (roomL S w h s L : Int) ∧ m 69 s = (membL S h cr s L : Int)
theorem membL_le {S h cr s L : Nat} (hL : L ≤ 8) : membL S h cr s L ≤ 11 := by
  unfold membL
  split
  · have h1 := cnt_le (mbS S h cr s) (ixS S s L)
    have h2 : ixS S s L ≤ L + (S - 1 - s) := Nat.div_le_self _ _
    have : ixS S s L ≤ 8 + 3 ∨ 4 < S := by omega
    rcases this with c | c
    · omega
    · have h3 : ixS S s L ≤ (L + (S - 1 - s)) / 1 := by rw [Nat.div_one]; exact h2
      have h4 : ixS S s L * S ≤ L + (S - 1 - s) := Nat.div_mul_le_self _ _
      have h5 : ixS S s L * 4 ≤ ixS S s L * S := Nat.mul_le_mul_left _ (by omega)
      by_cases q : ixS S s L ≤ 2
      · omega
      · have h6 : 3 * S ≤ ixS S s L * S := Nat.mul_le_mul_right _ (by omega)
        omega
  · omega
theorem s_enrol {S w h cr L : Nat} {m : jm_M} (hF : CF m) (hT : ST S w h) (hcr : cr < 256) (hL : L < 8) (hI : LD1 m S w h cr L) :
    ∃ M, f_X7_enrol shC 65 (L : Int) ((L % S : Nat) : Int) m = some M ∧ LD1 M S w h cr (L + 1) ∧ CF M ∧ (∀ a, a < 66 ∨ 69 < a → ∀ j, M a j = m a j) := by
  obtain ⟨hS, ⟨hw1, hw2⟩, hh, hm⟩ := id hT
  obtain ⟨i1, i2, i3, i4⟩ := hI
  obtain ⟨r66, r67, r68, r69, -⟩ := rC_sh
  have hle := hS.le
  obtain ⟨l1, l2, l3⟩ := line_S hS hL
  have hs4 : L % S < 4 := by omega
  have hix := (ix_s hS l2 hL).1 rfl
  let m8 : jm_M := jm_up (jm_up m 66 L ((L % S : Nat) : Int)) 67 L (-1)
  have hF1 : CF (jm_up m 66 L ((L % S : Nat) : Int)) := hF.up (nC_of r66 _)
  have hF8 : CF m8 := hF1.up (nC_of r67 _)
  have k8 : ∀ a, a ≠ 66 → a ≠ 67 → ∀ j, m8 a j = m a j := fun a h1 h2 j => by show jm_up _ _ _ _ _ _ = _; rw [up_ne h2, up_ne h1]
  have e8 : f_X7_enrol shC 65 (L : Int) ((L % S : Nat) : Int) m = (if hb h L then some (jm_up m8 68 (L % S) ((roomL S w h (L % S) L : Int) - 1)) else if hb cr L then some (jm_up (jm_up m8 67 L (membL S h cr (L % S) L : Int)) 69 (L % S) ((membL S h cr (L % S) L : Int) + 1)) else some m8) := by
    unfold f_X7_enrol
    have hF9 : CF (jm_up m8 67 L (membL S h cr (L % S) L : Int)) := hF8.up (nC_of r67 _)
    have hml := membL_le (S := S) (h := h) (cr := cr) (s := L % S) (L := L) (by omega)
    have hrl : roomL S w h (L % S) L ≤ 2 := by unfold roomL; split <;> omega
    rw [if_neg (by omega), if_pos (by omega), if_neg (by omega), if_pos (by omega), jrf_ok sC65, Option.bind_some, hF.t65_3, jwa_ok sC66 (by omega) (by omega), Option.bind_some, Int.toNat_natCast, jrf_ok sC65, Option.bind_some, hF1.t65_4, jwa_ok sC67 (by omega) (by omega), Option.bind_some, Int.toNat_natCast]
    rw [show jm_up (jm_up m 66 L ((L % S : Nat) : Int)) 67 L (-1) = m8 from rfl, jrf_ok sC65, Option.bind_some, k8 65 (by decide) (by decide), i1, s_isIn hh hL, Option.bind_some, ifb]
    by_cases c : hb h L = true
    · rw [if_pos c, if_pos c, jrf_ok sC65, Option.bind_some, hF8.t65_5, jra_ok sC68 (by omega) (by omega), Option.bind_some, Int.toNat_natCast, k8 68 (by decide) (by decide), (i4 _ hs4).1, jw_eq (by omega) (by omega), jwa_ok sC68 (by omega) (by omega), Option.bind_some, Int.toNat_natCast]
    · rw [if_neg c, if_neg c, jrf_ok sC65, Option.bind_some, k8 65 (by decide) (by decide), i2, s_isIn hcr hL, Option.bind_some, ifb]
      by_cases c2 : hb cr L = true
      · rw [if_pos c2, if_pos c2, jrf_ok sC65, Option.bind_some, jrf_ok sC65, Option.bind_some, hF8.t65_6, hF8.t65_4, jra_ok sC69 (by omega) (by omega), Option.bind_some, Int.toNat_natCast, k8 69 (by decide) (by decide), (i4 _ hs4).2, jwa_ok sC67 (by omega) (by omega), Option.bind_some, Int.toNat_natCast, jrf_ok sC65, Option.bind_some, hF9.t65_6, jra_ok sC69 (by omega) (by omega), Option.bind_some, Int.toNat_natCast, up_ne (show (69 : Nat) ≠ 67 by decide), k8 69 (by decide) (by decide), (i4 _ hs4).2, jw_eq (by omega) (by omega), jwa_ok sC69 (by omega) (by omega), Option.bind_some, Int.toNat_natCast]
      · rw [if_neg c2, if_neg c2]
  have other : ∀ s, s < 4 → s ≠ L % S → roomL S w h s (L + 1) = roomL S w h s L ∧ membL S h cr s (L + 1) = membL S h cr s L := fun s hs hne => by
    unfold roomL membL
    by_cases q : s < S
    · rw [if_pos q, if_pos q, if_pos q, if_pos q, (ix_s hS q hL).2 hne]
      exact ⟨rfl, rfl⟩
    · rw [if_neg q, if_neg q, if_neg q, if_neg q]
      exact ⟨rfl, rfl⟩
  have c1 : cnt (fun a => hb h (a * S + L % S)) (L / S + 1) = cnt (fun a => hb h (a * S + L % S)) (L / S) + (if hb h L then 1 else 0) := by
    show _ + (if hb h (L / S * S + L % S) then 1 else 0) = _
    rw [l3]
  have c2 : cnt (mbS S h cr (L % S)) (L / S + 1) = cnt (mbS S h cr (L % S)) (L / S) + (if hb cr L && !hb h L then 1 else 0) := by
    show _ + (if (hb cr (L / S * S + L % S) && !hb h (L / S * S + L % S)) then 1 else 0) = _
    rw [l3]
  have rn : roomL S w h (L % S) (L + 1) = w - (cnt (fun a => hb h (a * S + L % S)) (L / S) + (if hb h L then 1 else 0)) := by unfold roomL; rw [if_pos l2, hix.2, c1]
  have ro : roomL S w h (L % S) L = w - cnt (fun a => hb h (a * S + L % S)) (L / S) := by unfold roomL; rw [if_pos l2, hix.1]
  have mn : membL S h cr (L % S) (L + 1) = cnt (mbS S h cr (L % S)) (L / S) + (if hb cr L && !hb h L then 1 else 0) := by unfold membL; rw [if_pos l2, hix.2, c2]
  have mo : membL S h cr (L % S) L = cnt (mbS S h cr (L % S)) (L / S) := by unfold membL; rw [if_pos l2, hix.1]
  have hroom : cnt (fun a => hb h (a * S + L % S)) (L / S + 1) ≤ w := by
    have h1 : cnt (fun a => hb h (a * S + L % S)) (L / S + 1) ≤ hc S h (L % S) := cnt_mono (by omega)
    have := hm _ l2
    omega
  rw [e8]
  by_cases c : hb h L = true
  · rw [if_pos c]
    rw [c1, if_pos c] at hroom
    refine ⟨_, rfl, ⟨?_, ?_, fun l hl => ?_, fun s hs => ?_⟩, hF8.up (nC_of r68 _), fun a ha j => ?_⟩
    · rw [up_ne (by decide), k8 65 (by decide) (by decide)]; exact i1
    · rw [up_ne (by decide), k8 65 (by decide) (by decide)]; exact i2
    · rw [up_ne (by decide), up_ne (by decide)]
      show jm_up (jm_up m 66 L ((L % S : Nat) : Int)) 67 L (-1) 66 l = _ ∧ jm_up (jm_up m 66 L ((L % S : Nat) : Int)) 67 L (-1) 67 l = _
      rw [up_ne (by decide), up_row, up_row, up_ne (by decide)]
      by_cases e : l = L
      · rw [if_pos e, if_pos e, e]
        refine ⟨rfl, ?_⟩
        unfold rankL
        rw [if_pos c]
      · rw [if_neg e, if_neg e]; exact i3 l (by omega)
    · rw [up_ne (show (69 : Nat) ≠ 68 by decide), up_row, k8 69 (by decide) (by decide), k8 68 (by decide) (by decide)]
      by_cases e : s = L % S
      · subst e
        rw [if_pos rfl, rn, mn, if_pos c, c, ro, (i4 _ hs).2, mo]
        simp
        omega
      · rw [if_neg e, (other s hs e).1, (other s hs e).2]; exact i4 s hs
    · rw [up_ne (by omega), k8 a (by omega) (by omega)]
  · rw [if_neg c]
    by_cases c2' : hb cr L = true
    · rw [if_pos c2']
      refine ⟨_, rfl, ⟨?_, ?_, fun l hl => ?_, fun s hs => ?_⟩, (hF8.up (nC_of r67 _)).up (nC_of r69 _), fun a ha j => ?_⟩
      · rw [up_ne (by decide), up_ne (by decide), k8 65 (by decide) (by decide)]; exact i1
      · rw [up_ne (by decide), up_ne (by decide), k8 65 (by decide) (by decide)]; exact i2
      · rw [up_ne (by decide), up_ne (by decide), up_ne (by decide), up_row]
        show jm_up (jm_up m 66 L ((L % S : Nat) : Int)) 67 L (-1) 66 l = _ ∧ (if l = L then _ else jm_up (jm_up m 66 L ((L % S : Nat) : Int)) 67 L (-1) 67 l) = _
        rw [up_ne (by decide), up_row]
        by_cases e : l = L
        · rw [if_pos e, if_pos e, e]
          refine ⟨rfl, ?_⟩
          unfold rankL
          rw [if_neg c, if_pos c2', mo]
        · rw [if_neg e, if_neg e, up_nk e, up_ne (by decide)]; exact i3 l (by omega)
      · rw [up_ne (show (68 : Nat) ≠ 69 by decide), up_ne (show (68 : Nat) ≠ 67 by decide), up_row, up_ne (show (69 : Nat) ≠ 67 by decide), k8 69 (by decide) (by decide), k8 68 (by decide) (by decide)]
        by_cases e : s = L % S
        · subst e
          rw [if_pos rfl, rn, mn, if_neg c, (i4 _ hs).1, ro, mo, c2']
          simp [c]
        · rw [if_neg e, (other s hs e).1, (other s hs e).2]; exact i4 s hs
      · rw [up_ne (by omega), up_ne (by omega), k8 a (by omega) (by omega)]
    · rw [if_neg c2']
      refine ⟨_, rfl, ⟨?_, ?_, fun l hl => ?_, fun s hs => ?_⟩, hF8, fun a ha j => ?_⟩
      · rw [k8 65 (by decide) (by decide)]; exact i1
      · rw [k8 65 (by decide) (by decide)]; exact i2
      · show jm_up (jm_up m 66 L ((L % S : Nat) : Int)) 67 L (-1) 66 l = _ ∧ jm_up (jm_up m 66 L ((L % S : Nat) : Int)) 67 L (-1) 67 l = _
        rw [up_ne (by decide), up_row, up_row, up_ne (by decide)]
        by_cases e : l = L
        · rw [if_pos e, if_pos e, e]
          refine ⟨rfl, ?_⟩
          unfold rankL
          rw [if_neg c, if_neg c2']
        · rw [if_neg e, if_neg e]; exact i3 l (by omega)
      · rw [k8 69 (by decide) (by decide), k8 68 (by decide) (by decide)]
        by_cases e : s = L % S
        · subst e
          rw [rn, mn, if_neg c, (i4 _ hs).1, (i4 _ hs).2, ro, mo]
          simp [c2']
        · rw [(other s hs e).1, (other s hs e).2]; exact i4 s hs
      · rw [k8 a (by omega) (by omega)]
