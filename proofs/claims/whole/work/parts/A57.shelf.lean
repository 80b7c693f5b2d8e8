def okS (x v : Int) : Prop := (x = 0 ∧ (v = 1 ∨ v = 2 ∨ v = 4)) ∨ (x = 1 ∧ (v = 1 ∨ v = 2)) ∨ (x = 2 ∧ 2 ≤ v ∧ v ≤ 20) ∨ (x = 3 ∧ 0 ≤ v ∧ v ≤ 255)
theorem s_maySet1 {x v : Int} (h : okS x v) : f_X1_maySet x v = some 1 := by
  rcases h with ⟨rfl, h⟩ | ⟨rfl, h⟩ | ⟨rfl, h1, h2⟩ | ⟨rfl, h1, h2⟩
  · rcases h with rfl | rfl | rfl <;> simp [f_X1_maySet]
  · rcases h with rfl | rfl <;> simp [f_X1_maySet]
  · simp [f_X1_maySet, show ¬ v < 2 by omega, show ¬ 20 < v by omega]
  · simp [f_X1_maySet, show ¬ v < 0 by omega, show ¬ 255 < v by omega]
theorem s_maySet0 {x v : Int} (h : ¬ okS x v) : f_X1_maySet x v = some 0 := by
  unfold okS at h
  unfold f_X1_maySet
  repeat' split
  all_goals first | rfl | (exfalso; omega)
theorem up_back {m : jm_M} {a k : Nat} {v w : Int} (h : m a k = w) : jm_up (jm_up m a k v) a k w = m := by
  funext b j
  unfold jm_up
  by_cases c : b = a ∧ j = k
  · rw [if_pos c, c.1, c.2, h]
  · rw [if_neg c, if_neg c]
def st1 (st : Nat → Int) (p : Nat) (v : Int) : Nat → Int := fun i => if i = p then v else st i
theorem s_shelf {m : jm_M} (hF : CF m) {st : Nat → Int} (hst : ∀ i, i < 4 → m 3 i = st i) {p : Nat} (hp : p < 4) {v : Int} (hok : okS p v) : f_X11_shelf jN shC 1 p v m = Option.bind (f_X11_mayBeHeld jN (st1 st p v 0) (st1 st p v 1) (st1 st p v 3)) fun q => if q = 0 then some (-5, m) else some (st p, jm_up m 3 p v) := by
  have e1 := hF.f1_0
  have e2 := hF.f2_2
  have g : ∀ i : Nat, i < 4 → f_X1_setting shC 2 (i : Int) m = some (st i) := fun i hi => by rw [s_setting hF two_bL (by omega) (by omega), Int.toNat_natCast]; exact congrArg some (hst i hi)
  have g0 : f_X1_setting shC 2 0 m = some (st 0) := g 0 (by decide)
  have g1 : f_X1_setting shC 2 1 m = some (st 1) := g 1 (by decide)
  have g2 : f_X1_setting shC 2 2 m = some (st 2) := g 2 (by decide)
  have g3 : f_X1_setting shC 2 3 m = some (st 3) := g 3 (by decide)
  have hset : f_X1_set shC 2 p v m = some (jm_up m 3 p v) := by
    simp [f_X1_set, s_maySet1 hok, jrf_ok sC2, e2, jlen_ok sC3, jwa_ok sC3 (i := (p : Int)) (by omega) (by omega), hp, show ¬ ((p : Int) < 0) by omega]
    omega
  rcases (show p = 0 ∨ p = 1 ∨ p = 2 ∨ p = 3 by omega) with rfl | rfl | rfl | rfl
  · simp only [f_X11_shelf, s_maySet1 hok, Option.bind_some]
    simp only [f_X11_shelf_b27, f_X11_shelf_b45, f_X11_shelf_b64, hset, jrf_ok sC1, e1, Option.bind_some, jck_ok sC2, Int.reduceToNat, g0, g1, g2, g3]
    simp [st1, g0]
  · simp only [f_X11_shelf, s_maySet1 hok, Option.bind_some]
    simp only [f_X11_shelf_b27, f_X11_shelf_b45, f_X11_shelf_b64, hset, jrf_ok sC1, e1, Option.bind_some, jck_ok sC2, Int.reduceToNat, g0, g1, g2, g3]
    simp [st1, g1]
  · simp only [f_X11_shelf, s_maySet1 hok, Option.bind_some]
    simp only [f_X11_shelf_b27, f_X11_shelf_b45, f_X11_shelf_b64, hset, jrf_ok sC1, e1, Option.bind_some, jck_ok sC2, Int.reduceToNat, g0, g1, g2, g3]
    simp [st1, g2]
  · simp only [f_X11_shelf, s_maySet1 hok, Option.bind_some]
    simp only [f_X11_shelf_b27, f_X11_shelf_b45, f_X11_shelf_b64, hset, jrf_ok sC1, e1, Option.bind_some, jck_ok sC2, Int.reduceToNat, g0, g1, g2, g3]
    simp [st1, g3]
theorem sM_shelf {m : jm_M} (hF : MF m) {st : Nat → Int} (hst : ∀ i, i < 4 → m 2 i = st i) {p : Nat} (hp : p < 4) {v : Int} (hok : okS p v) : f_X12_shelf jN shM 1 p v m = Option.bind (f_X12_mayHold jN 1 (st1 st p v 0) (st1 st p v 1) (st1 st p v 3)) fun q => if q = 0 then some (-5, m) else some (st p, jm_up m 2 p v) := by
  have e1 := hF.f0
  have hp0 : (0 : Int) ≤ p := by omega
  have hp4 : (p : Int) < (4 : Nat) := by omega
  have hr : ∀ i, i < 4 → jm_up m 2 p v 2 i = st1 st p v i := fun i hi => by
    rw [up_row]
    unfold st1
    split
    · rfl
    · exact hst i hi
  have hb : f_X12_shelf_b77 jN shM 1 p v 1 m = Option.bind (f_X12_mayHold jN 1 (st1 st p v 0) (st1 st p v 1) (st1 st p v 3)) fun q => if q = 0 then some (-5, m) else some (st p, jm_up m 2 p v) := by
    unfold f_X12_shelf_b77
    simp only [show ¬ ((1 : Int) = 0) by decide, if_false, jrf_ok sM1, Option.bind_some, e1, Int.reduceToNat, jra_ok sM2 hp0 hp4, jwa_ok sM2 hp0 hp4, Int.toNat_natCast, up_ne (show (1 : Nat) ≠ 2 by decide), hst p hp, jck_ok sM1, jra_ok sM2 (i := 0) (by decide) (by decide), jra_ok sM2 (i := 1) (by decide) (by decide), jra_ok sM2 (i := 3) (by decide) (by decide), hr 0 (by decide), hr 1 (by decide), hr 3 (by decide), up_back (hst p hp)]
  rcases hok with ⟨h0, h⟩ | ⟨h0, h⟩ | ⟨h0, h1, h2⟩ | ⟨h0, h1, h2⟩
  · rw [h0] at hb ⊢
    rw [← hb]
    rcases h with rfl | rfl | rfl <;> simp [f_X12_shelf, f_X12_shelf_b19]
  · rw [h0] at hb ⊢
    rw [← hb]
    rcases h with rfl | rfl <;> simp [f_X12_shelf, sM_in]
  · rw [h0] at hb ⊢
    rw [← hb]
    simp [f_X12_shelf, sM_in, h1, h2]
  · rw [h0] at hb ⊢
    rw [← hb]
    simp [f_X12_shelf, sM_in, h1, h2]
