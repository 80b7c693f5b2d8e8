def IB (M : jm_M) (S w h l : Nat) (a : AgT) (x : Nat) : Prop := ∀ k, k < 16 → k ≠ l → k ≠ 8 + l → M 18 k = ((if k < x ∨ (8 ≤ k ∧ k < 8 + x) then uA S w h l a k else a k : Nat) : Int)
theorem mod_off {S x k l : Nat} (hS : isS S) (hxs : x % S = l % S) (h1 : x < k) (h2 : k < x + S) : ¬ k % S = l % S := by
  rw [← hxs]
  rcases hS with rfl | rfl | rfl <;> omega
theorem IB.step {M M' : jm_M} {S w h l x : Nat} {a : AgT} (hS : isS S) (hx : x < 8) (hxs : x % S = l % S) (hI : IB M S w h l a x) (h1 : x ≠ l → M' 18 x = (uA S w h l a x : Int)) (h2 : x ≠ l → M' 18 (8 + x) = (uA S w h l a (8 + x) : Int)) (h3 : ∀ k, k ≠ x → k ≠ 8 + x → M' 18 k = M 18 k) : IB M' S w h l a (x + S) := by
  intro k hk kl kl8
  have hS4 := hS.le
  by_cases c : k = x
  · subst c
    rw [h1 kl, if_pos (by omega)]
  · by_cases c8 : k = 8 + x
    · subst c8
      rw [h2 (by omega), if_pos (by omega)]
    · rw [h3 k c c8, hI k hk kl kl8]
      by_cases o : k < x ∨ (8 ≤ k ∧ k < 8 + x)
      · rw [if_pos o, if_pos (by omega)]
      · rw [if_neg o]
        by_cases nw : k < x + S ∨ (8 ≤ k ∧ k < 8 + (x + S))
        · rw [if_pos nw]
          by_cases k8 : k < 8
          · have := mod_off (k := k) hS hxs (by omega) (by omega)
            rw [uA_lo k8, if_neg (fun z => this z.1)]
          · obtain ⟨y, rfl⟩ : ∃ y, k = 8 + y := ⟨k - 8, by omega⟩
            have := mod_off (k := y) hS hxs (by omega) (by omega)
            rw [uA_hi, if_neg (fun z => this z.1)]
        · rw [if_neg nw]
theorem sM_fetchAges {N S w h l : Nat} {a : AgT} {m : jm_M} (hN : 100 ≤ N) (hF : MF m) (hT : ST S w h) (hs : SMm m S w h) (hl : l < 8) (hA : RA m 18 a) (hb2 : bdA a) : ∃ M, f_X12_fetchAges N shM 1 (l : Int) m = some M ∧ RA M 18 (fA S w h l a) ∧ ∀ c, c ≠ 18 → ∀ j, M c j = m c j := by
  obtain ⟨l1, l2, l3⟩ := line_S hT.1 hl
  have hSle := hT.1.le
  have hr2 := rm_le (S := S) (h := h) (s := l % S) hT.2.1.2
  have e8 : ∀ y : Nat, y < 8 → jw (8 + (y : Int)) = ((8 + y : Nat) : Int) := fun y hy => by rw [jw_eq (by omega) (by omega)]; omega
  have head : f_X12_fetchAges N shM 1 (l : Int) m = if hb h l = true then some m else if rmS S w h (l % S) = 0 then some m else f_X12_fetchAges_l47 N shM N 1 (l : Int) (rmS S w h (l % S) : Int) (a l : Int) (a (8 + l) : Int) ((l % S : Nat) : Int) m := by
    unfold f_X12_fetchAges
    rw [jck_ok sM1, Option.bind_some, sM_setOf hF hs hT.1 l, Option.bind_some, Option.bind_some, sM_roomOf (by omega) hF hs hT l2, Option.bind_some, Option.bind_some, sM_isHeld hF hs hT.2.2.1 hl, Option.bind_some, ifb]
    by_cases c : hb h l = true
    · rw [if_pos c, if_pos c]
    · rw [if_neg c, if_neg c]
      by_cases c2 : rmS S w h (l % S) = 0
      · rw [if_pos (by omega), if_pos c2]
      · rw [if_neg (by omega), if_neg c2, jrf_ok sM1, Option.bind_some, hF.t27, jra_ok sM18 (by omega) (by omega), Option.bind_some, Int.toNat_natCast, hA l (by omega), Option.bind_some, hF.t27, e8 l hl, jra_ok sM18 (by omega) (by omega), Option.bind_some, Int.toNat_natCast, hA (8 + l) (by omega)]
  rw [head]
  by_cases c : hb h l = true
  · rw [if_pos c]
    have e : fA S w h l a = a := if_pos (Or.inl c)
    exact ⟨m, rfl, by rw [e]; exact hA, fun _ _ _ => rfl⟩
  · rw [if_neg c]
    by_cases c2 : rmS S w h (l % S) = 0
    · rw [if_pos c2]
      have e : fA S w h l a = a := if_pos (Or.inr c2)
      exact ⟨m, rfl, by rw [e]; exact hA, fun _ _ _ => rfl⟩
    · rw [if_neg c2]
      have key : ∀ (r x n : Nat) (M : jm_M), 8 ≤ x + r → r < n → x < 8 + S → x % S = l % S → IB M S w h l a x → (∀ c, c ≠ 18 → ∀ j, M c j = m c j) → ∃ M', f_X12_fetchAges_l47 N shM n 1 (l : Int) (rmS S w h (l % S) : Int) (a l : Int) (a (8 + l) : Int) (x : Int) M = some M' ∧ RA M' 18 (fA S w h l a) ∧ ∀ c, c ≠ 18 → ∀ j, M' c j = m c j := by
        intro r
        induction r with
        | zero =>
          intro x n M h1 h2 h3 h4 hI hk
          obtain ⟨n, rfl⟩ : ∃ n', n = n' + 1 := ⟨n - 1, by omega⟩
          have mf : MF M := hF.row rM_ag.1 hk
          have mf1 : MF (jm_up M 18 l 0) := mf.upr rM_ag.1
          refine ⟨jm_up (jm_up M 18 l 0) 18 (8 + l) 0, ?_, fun k hk => ?_, fun c hc j => (up_ne hc).trans ((up_ne hc).trans (hk c hc j))⟩
          · show f_X12_fetchAges_b47 N shM (f_X12_fetchAges_l47 N shM n) 1 (l : Int) (rmS S w h (l % S) : Int) (a l : Int) (a (8 + l) : Int) (x : Int) M = _
            unfold f_X12_fetchAges_b47
            rw [if_neg (by omega), jrf_ok sM1, Option.bind_some, mf.t27, jwa_ok sM18 (by omega) (by omega), Option.bind_some, Int.toNat_natCast, jrf_ok sM1, Option.bind_some, mf1.t27, e8 l hl, jwa_ok sM18 (by omega) (by omega), Option.bind_some, Int.toNat_natCast]
          · rw [fA_uA (fun z => z.elim c c2) hk]
            by_cases k1 : k = 8 + l
            · rw [k1, up_eq, if_pos (Or.inr rfl)]; rfl
            · rw [up_nk k1]
              by_cases k2 : k = l
              · rw [k2, up_eq, if_pos (Or.inl rfl)]; rfl
              · rw [up_nk k2, hI k hk k2 k1, if_pos (by omega), if_neg (by omega)]
        | succ r ih =>
          intro x n M h1 h2 h3 h4 hI hk
          by_cases cx : x < 8
          · obtain ⟨n, rfl⟩ : ∃ n', n = n' + 1 := ⟨n - 1, by omega⟩
            have mf : MF M := hF.row rM_ag.1 hk
            have hsM : SMm M S w h := hs.same (fun i => hk 2 (by decide) i)
            have hmod : (x + S) % S = l % S := by rw [Nat.add_mod_right]; exact h4
            have h143 : ∀ M1 : jm_M, IB M1 S w h l a (x + S) → (∀ c, c ≠ 18 → ∀ j, M1 c j = m c j) → ∃ M', f_X12_fetchAges_b143 N shM (f_X12_fetchAges_l47 N shM n) 1 (l : Int) (rmS S w h (l % S) : Int) (a l : Int) (a (8 + l) : Int) (x : Int) M1 = some M' ∧ RA M' 18 (fA S w h l a) ∧ ∀ c, c ≠ 18 → ∀ j, M' c j = m c j := by
              intro M1 hI1 hk1
              have mf1 : MF M1 := hF.row rM_ag.1 hk1
              have hs1 : M1 2 0 = (S : Int) := by rw [hk1 2 (by decide)]; exact hs.1
              have ex : jw ((x : Int) + (S : Int)) = ((x + S : Nat) : Int) := by rw [jw_eq (by omega) (by omega)]; omega
              unfold f_X12_fetchAges_b143
              rw [jrf_ok sM1, Option.bind_some, mf1.t0, jra_ok sM2 (by decide) (by decide), Option.bind_some, show (0 : Int).toNat = 0 from rfl, hs1, ex]
              exact ih (x + S) n M1 (by omega) (by omega) (by omega) hmod hI1 hk1
            show ∃ M', f_X12_fetchAges_b47 N shM (f_X12_fetchAges_l47 N shM n) 1 (l : Int) (rmS S w h (l % S) : Int) (a l : Int) (a (8 + l) : Int) (x : Int) M = some M' ∧ _
            unfold f_X12_fetchAges_b47
            rw [if_pos (by omega)]
            by_cases cl : x = l
            · rw [if_pos (by omega)]
              exact h143 M (hI.step hT.1 cx h4 (fun z => absurd cl z) (fun z => absurd cl z) (fun _ _ _ => rfl)) hk
            · have hx1 : M 18 x = (a x : Int) := by rw [hI x (by omega) cl (by omega), if_neg (by omega)]
              have hx2 : M 18 (8 + x) = (a (8 + x) : Int) := by rw [hI (8 + x) (by omega) (by omega) (by omega), if_neg (by omega)]
              have b1 := hb2 x (by omega)
              have b2 := hb2 (8 + x) (by omega)
              have u1 := uA_lo (S := S) (w := w) (h := h) (l := l) (a := a) cx
              have u2 := uA_hi (S := S) (w := w) (h := h) (l := l) (x := x) (a := a)
              rw [if_neg (by omega), jck_ok sM1, Option.bind_some, sM_isHeld mf hsM hT.2.2.1 cx, Option.bind_some, ifb]
              by_cases ch : hb h x = true
              · rw [if_pos ch]
                refine h143 M (hI.step hT.1 cx h4 (fun _ => ?_) (fun _ => ?_) (fun _ _ _ => rfl)) hk
                · rw [hx1, u1, if_neg (fun z => by rw [ch] at z; exact absurd z.2.1 (by decide))]
                · rw [hx2, u2, if_neg (fun z => by rw [ch] at z; exact absurd z.2.1 (by decide))]
              · have hm2 : hb h x = false := by
                  cases z : hb h x with
                  | false => rfl
                  | true => exact absurd z ch
                have hu : uA S w h l a x ≤ 3 := by rw [u1]; split <;> omega
                have hu2 : uA S w h l a (8 + x) ≤ 3 := by rw [u2]; split <;> omega
                have mf1 : MF (jm_up M 18 x (uA S w h l a x : Int)) := mf.upr rM_ag.1
                have g8 : jm_up M 18 x (uA S w h l a x : Int) 18 (8 + x) = (a (8 + x) : Int) := by rw [up_nk (by omega)]; exact hx2
                have h141 : ∀ y : Int, (a (8 + x) : Int) + y = (uA S w h l a (8 + x) : Int) → ∃ M', f_X12_fetchAges_b141 N shM (f_X12_fetchAges_l47 N shM n) 1 (l : Int) (rmS S w h (l % S) : Int) (a l : Int) (a (8 + l) : Int) (x : Int) 18 ((8 + x : Nat) : Int) (a (8 + x) : Int) y (jm_up M 18 x (uA S w h l a x : Int)) = some M' ∧ RA M' 18 (fA S w h l a) ∧ ∀ c, c ≠ 18 → ∀ j, M' c j = m c j := by
                  intro y hy
                  unfold f_X12_fetchAges_b141
                  rw [hy, jw_nat (by omega), jwa_ok sM18 (by omega) (by omega), Option.bind_some, Int.toNat_natCast]
                  refine h143 _ (hI.step hT.1 cx h4 (fun _ => ?_) (fun _ => up_eq) (fun k k1 k2 => (up_nk k2).trans (up_nk k1))) (fun c hc j => (up_ne hc).trans ((up_ne hc).trans (hk c hc j)))
                  rw [up_nk (by omega), up_eq]
                have h94 : ∀ z : Int, (a x : Int) + z = (uA S w h l a x : Int) → ∃ M', f_X12_fetchAges_b94 N shM (f_X12_fetchAges_l47 N shM n) 1 (l : Int) (rmS S w h (l % S) : Int) (a l : Int) (a (8 + l) : Int) (x : Int) 18 (x : Int) (a x : Int) z M = some M' ∧ RA M' 18 (fA S w h l a) ∧ ∀ c, c ≠ 18 → ∀ j, M' c j = m c j := by
                  intro z hz
                  unfold f_X12_fetchAges_b94 f_X12_fetchAges_b140
                  rw [hz, jw_nat (by omega), jwa_ok sM18 (by omega) (by omega), Option.bind_some, Int.toNat_natCast, jrf_ok sM1, Option.bind_some, mf1.t27, e8 x cx, jra_ok sM18 (by omega) (by omega), Option.bind_some, Int.toNat_natCast, g8, Option.bind_some, Option.bind_some, mf1.t27, jra_ok sM18 (by omega) (by omega), Option.bind_some, Int.toNat_natCast, g8, Option.bind_some]
                  by_cases k1 : a (8 + l) < a (8 + x)
                  · rw [if_pos (by omega)]
                    exact h141 0 (by rw [u2, if_neg (fun z => by have := z.2.2.1; omega)]; omega)
                  · rw [if_neg (by omega)]
                    by_cases k2 : a (8 + x) < rmS S w h (l % S)
                    · rw [if_pos (by omega)]
                      exact h141 1 (by rw [u2, if_pos ⟨h4, hm2, by omega, k2⟩]; omega)
                    · rw [if_neg (by omega)]
                      exact h141 0 (by rw [u2, if_neg (fun z => by have := z.2.2.2; omega)]; omega)
                rw [if_neg ch, jrf_ok sM1, Option.bind_some, mf.t27, jra_ok sM18 (by omega) (by omega), Option.bind_some, Int.toNat_natCast, hx1, Option.bind_some, mf.t27, jra_ok sM18 (by omega) (by omega), Option.bind_some, Int.toNat_natCast, hx1]
                by_cases k1 : a x < a l
                · rw [if_pos (by omega)]
                  exact h94 1 (by rw [u1, if_pos ⟨h4, hm2, k1⟩]; omega)
                · rw [if_neg (by omega)]
                  exact h94 0 (by rw [u1, if_neg (fun z => k1 z.2.2)]; omega)
          · exact ih x n M (by omega) (by omega) h3 h4 hI hk
      refine key 8 (l % S) N m (by omega) (by omega) (by omega) (Nat.mod_mod l S) (fun k hk kl kl8 => ?_) (fun _ _ _ => rfl)
      rw [hA k hk]
      by_cases o : k < l % S ∨ (8 ≤ k ∧ k < 8 + l % S)
      · rw [if_pos o]
        by_cases k8 : k < 8
        · have e : k % S = k := Nat.mod_eq_of_lt (by omega)
          rw [uA_lo k8, if_neg (fun z => by have := z.1; omega)]
        · obtain ⟨y, rfl⟩ : ∃ y, k = 8 + y := ⟨k - 8, by omega⟩
          have e : y % S = y := Nat.mod_eq_of_lt (by omega)
          rw [uA_hi, if_neg (fun z => by have := z.1; omega)]
      · rw [if_neg o]
