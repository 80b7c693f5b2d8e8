/-! a fetch of the reference -/
def ST (S w h : Nat) : Prop := isS S ∧ (1 ≤ w ∧ w ≤ 2) ∧ h < 256 ∧ ∀ s, s < S → hc S h s ≤ w
def SMm (m : jm_M) (S w h : Nat) : Prop := m 2 0 = (S : Int) ∧ m 2 1 = (w : Int) ∧ m 2 3 = (h : Int)
theorem SMm.same {m m' : jm_M} {S w h : Nat} (hs : SMm m S w h) (he : ∀ i, m' 2 i = m 2 i) : SMm m' S w h := ⟨by rw [he]; exact hs.1, by rw [he]; exact hs.2.1, by rw [he]; exact hs.2.2⟩
theorem jrem_nat (a b : Nat) : jrem (a : Int) (b : Int) = ((a % b : Nat) : Int) := (Int.ofNat_tmod a b).symm
theorem jdiv_nat {a b : Nat} (h : a ≤ 2147483647) : jdiv (a : Int) (b : Int) = ((a / b : Nat) : Int) := by
  unfold jdiv
  rw [← Int.ofNat_tdiv]
  have := Nat.div_le_self a b
  exact jw_nat (by omega)
theorem up_up {m : jm_M} {a i : Nat} {v u : Int} : jm_up (jm_up m a i v) a i u = jm_up m a i u := by
  funext b j
  unfold jm_up
  by_cases c : b = a ∧ j = i
  · rw [if_pos c, if_pos c]
  · rw [if_neg c, if_neg c, if_neg c]
theorem new_2 : ∀ e : Fin 5, f_X12_newestOf 1 2 (e.val : Int) = some (if nwD 2 e.val = 0 then -6 else (nwD 2 e.val : Int) - 1) := by decide +kernel
theorem new_4 : ∀ e : Fin 17, f_X12_newestOf 1 4 (e.val : Int) = some (if nwD 4 e.val = 0 then -6 else (nwD 4 e.val : Int) - 1) := by decide +kernel
theorem new_8 : ∀ e : Fin 65, f_X12_newestOf 1 8 (e.val : Int) = some (if nwD 8 e.val = 0 then -6 else (nwD 8 e.val : Int) - 1) := by decide +kernel
theorem sM_newest {n e : Nat} (hn : isN n) (he : e < bsD n) : f_X12_newestOf 1 (n : Int) (e : Int) = some (if nwD n e = 0 then -6 else (nwD n e : Int) - 1) := by
  rcases hn with rfl | rfl | rfl
  · exact new_2 ⟨e, he⟩
  · exact new_4 ⟨e, he⟩
  · exact new_8 ⟨e, he⟩
def old0 (x1 x2 : Int) : Option Int :=
  if x1 < x2 then
    if jw (x1 - 1) = 0 then none else
    Option.bind (f_X12_newestOf 1 x1 x2) fun q4 =>
    if (jrem (jw ((jw (x2 - 1)) - x1)) (jw (x1 - 1))) < q4 then
      some (jrem (jw ((jw (x2 - 1)) - x1)) (jw (x1 - 1)))
    else
    some (jw ((jrem (jw ((jw (x2 - 1)) - x1)) (jw (x1 - 1))) + 1))
  else
  some (-6)
theorem old_2 : ∀ e : Fin 5, old0 2 (e.val : Int) = some (if odD 2 e.val = 0 then -6 else (odD 2 e.val : Int) - 1) := by decide +kernel
theorem old_4 : ∀ e : Fin 17, old0 4 (e.val : Int) = some (if odD 4 e.val = 0 then -6 else (odD 4 e.val : Int) - 1) := by decide +kernel
theorem old_8 : ∀ e : Fin 65, old0 8 (e.val : Int) = some (if odD 8 e.val = 0 then -6 else (odD 8 e.val : Int) - 1) := by decide +kernel
theorem sM_older {n e : Nat} {m : jm_M} (hn : isN n) (he : e < bsD n) : f_X12_olderOf shM 1 (n : Int) (e : Int) m = some (if odD n e = 0 then -6 else (odD n e : Int) - 1) := by
  have h0 : f_X12_olderOf shM 1 (n : Int) (e : Int) m = old0 n e := by
    unfold f_X12_olderOf old0
    rw [jck_ok sM1, Option.bind_some]
  rw [h0]
  rcases hn with rfl | rfl | rfl
  · exact old_2 ⟨e, he⟩
  · exact old_4 ⟨e, he⟩
  · exact old_8 ⟨e, he⟩
theorem pair_2 : ∀ a b : Fin 2, a ≠ b → f_X12_pair 2 (a.val : Int) (b.val : Int) = some (prD 2 a.val b.val : Int) := by decide +kernel
theorem pair_4 : ∀ a b : Fin 4, a ≠ b → f_X12_pair 4 (a.val : Int) (b.val : Int) = some (prD 4 a.val b.val : Int) := by decide +kernel
theorem pair_8 : ∀ a b : Fin 8, a ≠ b → f_X12_pair 8 (a.val : Int) (b.val : Int) = some (prD 8 a.val b.val : Int) := by decide +kernel
theorem sM_pair {n a b : Nat} (hn : isN n) (ha : a < n) (hb : b < n) (h : a ≠ b) : f_X12_pair (n : Int) (a : Int) (b : Int) = some (prD n a b : Int) := by
  rcases hn with rfl | rfl | rfl
  · exact pair_2 ⟨a, ha⟩ ⟨b, hb⟩ (fun q => h (Fin.mk.inj q))
  · exact pair_4 ⟨a, ha⟩ ⟨b, hb⟩ (fun q => h (Fin.mk.inj q))
  · exact pair_8 ⟨a, ha⟩ ⟨b, hb⟩ (fun q => h (Fin.mk.inj q))
theorem sM_isHeld {m : jm_M} {S w h l : Nat} (hF : MF m) (hs : SMm m S w h) (hh : h < 256) (hl : l < 8) : f_X12_isHeld shM 1 (l : Int) m = some (if hb h l then 1 else 0) := by
  unfold f_X12_isHeld
  rw [jrf_ok sM1, Option.bind_some, hF.t0, jra_ok sM2 (by decide) (by decide), Option.bind_some, show (3 : Int).toNat = 3 from rfl, hs.2.2, jbit hh hl]
  cases hb h l <;> rfl
theorem sM_setOf {m : jm_M} {S w h : Nat} (hF : MF m) (hs : SMm m S w h) (hS : isS S) (l : Nat) : f_X12_setOf shM 1 (l : Int) m = some ((l % S : Nat) : Int) := by
  unfold f_X12_setOf
  rw [jrf_ok sM1, Option.bind_some, hF.t0, jra_ok sM2 (by decide) (by decide), Option.bind_some, show (0 : Int).toNat = 0 from rfl, hs.1, if_neg (by have := hS.le; omega), jrem_nat]
theorem sM_linesInSet {m : jm_M} {S w h : Nat} (hF : MF m) (hs : SMm m S w h) (hS : isS S) : f_X12_linesInSet shM 1 m = some (nS S : Int) := by
  unfold f_X12_linesInSet
  rw [jrf_ok sM1, Option.bind_some, hF.t0, jra_ok sM2 (by decide) (by decide), Option.bind_some, show (0 : Int).toNat = 0 from rfl, hs.1, if_neg (by have := hS.le; omega), show (8 : Int) = ((8 : Nat) : Int) from rfl, jdiv_nat (by decide)]
  rfl
theorem sM_statesOfSet {m : jm_M} {S w h : Nat} (hF : MF m) (hs : SMm m S w h) (hS : isS S) : f_X12_statesOfSet shM 1 m = some (bsD (nS S) : Int) := by
  unfold f_X12_statesOfSet
  rw [jck_ok sM1, Option.bind_some, sM_linesInSet hF hs hS, Option.bind_some]
  rcases hS with rfl | rfl | rfl <;> rfl
theorem sM_roomOf {N : Nat} {m : jm_M} {S w h s : Nat} (hN : 20 ≤ N) (hF : MF m) (hs : SMm m S w h) (hT : ST S w h) (hs4 : s < S) : f_X12_roomOf N shM 1 (s : Int) m = some (rmS S w h s : Int) := by
  obtain ⟨hS, ⟨hw1, hw2⟩, hh, hm⟩ := hT
  have hle := hS.le
  have key : ∀ (r a n : Nat), a + r = nS S → r < n → cnt (fun a => hb h (a * S + s)) a ≤ 8 → f_X12_roomOf_l9 N shM n 1 ((w : Int) - (cnt (fun a => hb h (a * S + s)) a : Int)) ((a * S + s : Nat) : Int) m = some ((w : Int) - (cnt (fun a => hb h (a * S + s)) (nS S) : Int)) := by
    intro r
    induction r with
    | zero =>
      intro a n ha hn hc8
      obtain ⟨n, rfl⟩ : ∃ n', n = n' + 1 := ⟨n - 1, by omega⟩
      show f_X12_roomOf_b9 N shM (fun a0 x2 x3 => f_X12_roomOf_l9 N shM n a0 x2 x3 m) 1 _ _ m = _
      unfold f_X12_roomOf_b9
      have : a * S = 8 := by rw [show a = nS S by omega, Nat.mul_comm]; exact hle.2.2.1
      rw [if_neg (by omega), show a = nS S by omega]
    | succ r ih =>
      intro a n ha hn hc8
      obtain ⟨n, rfl⟩ : ∃ n', n = n' + 1 := ⟨n - 1, by omega⟩
      show f_X12_roomOf_b9 N shM (fun a0 x2 x3 => f_X12_roomOf_l9 N shM n a0 x2 x3 m) 1 _ _ m = _
      have hlt : a * S + S ≤ 8 := by
        have : (a + 1) * S ≤ nS S * S := Nat.mul_le_mul_right _ (by omega)
        rw [Nat.add_mul, Nat.one_mul] at this
        rw [Nat.mul_comm (nS S)] at this
        omega
      have hc1 : cnt (fun a => hb h (a * S + s)) (a + 1) = cnt (fun a => hb h (a * S + s)) a + (if hb h (a * S + s) then 1 else 0) := rfl
      have hcl := cnt_le (fun a => hb h (a * S + s)) a
      unfold f_X12_roomOf_b9
      rw [if_pos (by omega), jrf_ok sM1, Option.bind_some, hF.t0, jra_ok sM2 (by decide) (by decide), Option.bind_some, Option.bind_some, hF.t0, jra_ok sM2 (by decide) (by decide), Option.bind_some, show (0 : Int).toNat = 0 from rfl, show (3 : Int).toNat = 3 from rfl, hs.1, hs.2.2, jbit hh (by omega)]
      rw [jw_eq (x := ((a * S + s : Nat) : Int) + (S : Int)) (by omega) (by omega), show ((a * S + s : Nat) : Int) + (S : Int) = (((a + 1) * S + s : Nat) : Int) by rw [Nat.add_mul, Nat.one_mul]; omega]
      have e : jw ((w : Int) - (cnt (fun a => hb h (a * S + s)) a : Int) - (if hb h (a * S + s) then 1 else 0)) = (w : Int) - (cnt (fun a => hb h (a * S + s)) (a + 1) : Int) := by
        rw [hc1]
        split
        · rw [jw_eq (by omega) (by omega)]; omega
        · rw [jw_eq (by omega) (by omega)]; omega
      rw [e]
      exact ih (a + 1) n (by omega) (by omega) (by rw [hc1]; have := hle.2.2.2; split <;> omega)
  unfold f_X12_roomOf
  rw [jrf_ok sM1, Option.bind_some, hF.t0, jra_ok sM2 (by decide) (by decide), Option.bind_some, show (1 : Int).toNat = 1 from rfl, hs.2.1]
  have k0 := key (nS S) 0 N (by omega) (by omega) (show (0 : Nat) ≤ 8 by decide)
  rw [show ((w : Int) - (cnt (fun a => hb h (a * S + s)) 0 : Int)) = (w : Int) by show (w : Int) - ((0 : Nat) : Int) = _; omega, show 0 * S + s = s by omega] at k0
  rw [k0]
  have := hm s hs4
  unfold rmS hc at *
  congr 1
  omega
theorem sd_LK {S s : Nat} (hS : isS S) (hs : s < S) : sd (LK S) s = bsD (nS S) ^ s ∧ bsD (nS S) * sd (LK S) s ≤ 625 ∧ 1 ≤ sd (LK S) s ∧ LK S s = bsD (nS S) ∧ bsD (nS S) ≤ 65 ∧ 1 ≤ bsD (nS S) := by
  rcases hS with rfl | rfl | rfl
  · obtain rfl : s = 0 := by omega
    decide
  · rcases (show s = 0 ∨ s = 1 by omega) with rfl | rfl <;> decide
  · rcases (show s = 0 ∨ s = 1 ∨ s = 2 ∨ s = 3 by omega) with rfl | rfl | rfl | rfl <;> decide
theorem sM_fetch {N S w h k l : Nat} {m : jm_M} (hN : 100 ≤ N) (hF : MF m) (hT : ST S w h) (hs : SMm m S w h) (hk : k < KN S) (hl : l < 8) :
    f_X12_fetch N shM 1 (k : Int) (l : Int) m = some ((fK S w h k l : Int), jm_up m 1 10 (if tK S h k l then 1 else 0)) := by
  obtain ⟨hS, ⟨hw1, hw2⟩, hh, hm⟩ := id hT
  have hle := hS.le
  obtain ⟨l1, l2, l3⟩ := line_S hS hl
  unfold f_X12_fetch
  rw [jck_ok sM1, Option.bind_some, sM_isHeld hF hs hh hl, Option.bind_some]
  by_cases c : hb h l = true
  · rw [if_pos c, jzb_1, Option.bind_some, jwf_ok sM1, Option.bind_some, jrf_ok sM1, Option.bind_some, up_eq, if_neg (by decide)]
    unfold fK tK
    rw [if_pos c, c]
    rfl
  · rw [if_neg c, jzb_0, Option.bind_some, jwf_ok sM1, Option.bind_some, jrf_ok sM1, Option.bind_some, up_eq, if_pos rfl]
    have hF1 : MF (jm_up m 1 10 0) := hF.up (by decide)
    have hs1 : SMm (jm_up m 1 10 0) S w h := hs.same (fun i => up_ne (by decide))
    generalize hM : jm_up m 1 10 0 = M at hF1 hs1
    rw [Option.bind_some, sM_linesInSet hF1 hs1 hS, Option.bind_some, Option.bind_some, sM_statesOfSet hF1 hs1 hS, Option.bind_some]
    obtain ⟨d1, d2, d3, d4, d5, d6⟩ := sd_LK hS l2
    -- by goes up to the set's power
    have up : ∀ (r t n : Nat), t + r = l % S → r < n → ∃ n', f_X12_fetch_l35 N shM n 1 (k : Int) (l : Int) (nS S : Int) (bsD (nS S) : Int) ((bsD (nS S) ^ t : Nat) : Int) (t : Int) M = f_X12_fetch_l35 N shM (n' + 1) 1 (k : Int) (l : Int) (nS S : Int) (bsD (nS S) : Int) ((sd (LK S) (l % S) : Nat) : Int) ((l % S : Nat) : Int) M := by
      intro r
      induction r with
      | zero =>
        intro t n ht hn
        refine ⟨n - 1, ?_⟩
        rw [show n - 1 + 1 = n by omega, show t = l % S by omega, d1]
      | succ r ih =>
        intro t n ht hn
        obtain ⟨n, rfl⟩ : ∃ n', n = n' + 1 := ⟨n - 1, by omega⟩
        obtain ⟨n', e⟩ := ih (t + 1) n (by omega) (by omega)
        refine ⟨n', ?_⟩
        rw [← e]
        show f_X12_fetch_b35 N shM (f_X12_fetch_l35 N shM n) 1 (k : Int) (l : Int) (nS S : Int) (bsD (nS S) : Int) ((bsD (nS S) ^ t : Nat) : Int) (t : Int) M = _
        unfold f_X12_fetch_b35
        have hp : bsD (nS S) ^ (t + 1) ≤ 625 := by
          have := Nat.pow_le_pow_right (n := bsD (nS S)) (by omega) (show t + 1 ≤ l % S by omega)
          rw [← d1] at this
          have h2 : sd (LK S) (l % S) * 1 ≤ sd (LK S) (l % S) * bsD (nS S) := Nat.mul_le_mul_left _ d6
          rw [Nat.mul_comm (sd (LK S) (l % S)) (bsD (nS S)), Nat.mul_one] at h2
          omega
        have ep : ((bsD (nS S) ^ t : Nat) : Int) * (bsD (nS S) : Int) = ((bsD (nS S) ^ (t + 1) : Nat) : Int) := by rw [Nat.pow_succ]; omega
        rw [jck_ok sM1, Option.bind_some, sM_setOf hF1 hs1 hS, Option.bind_some, if_pos (by omega), ep, jw_nat (by omega), jw_succ (by omega)]
    obtain ⟨n', e⟩ := up (l % S) 0 N (by omega) (by omega)
    rw [Nat.pow_zero] at e
    refine Eq.trans e ?_
    show f_X12_fetch_b35 N shM (f_X12_fetch_l35 N shM n') 1 (k : Int) (l : Int) (nS S : Int) (bsD (nS S) : Int) ((sd (LK S) (l % S) : Nat) : Int) ((l % S : Nat) : Int) M = _
    unfold f_X12_fetch_b35
    have hkn := KN_le hS
    have hpos := d3
    rw [jck_ok sM1, Option.bind_some, sM_setOf hF1 hs1 hS, Option.bind_some, if_neg (by omega), if_neg (by omega), if_neg (by omega), Option.bind_some, Option.bind_some, Option.bind_some, sM_roomOf (by omega) hF1 hs1 hT l2, Option.bind_some, jrf_ok sM1, Option.bind_some, hF1.t0, jra_ok sM2 (by decide) (by decide), Option.bind_some, show (0 : Int).toNat = 0 from rfl, hs1.1, if_neg (by omega), Option.bind_some, jdiv_nat (by omega), jrem_nat, jdiv_nat (by omega)]
    have hb : k / sd (LK S) (l % S) % bsD (nS S) < bsD (nS S) := Nat.mod_lt _ (by omega)
    have hX := xy_spec hS.n hb
    have hdg := dg_spec (r := rmS S w h (l % S)) hS.n (rm_le hw2) l1 hb
    have hfK : fK S w h k l = k - k / sd (LK S) (l % S) % bsD (nS S) * sd (LK S) (l % S) + dgD (nS S) (rmS S w h (l % S)) (l / S) (k / sd (LK S) (l % S) % bsD (nS S)) * sd (LK S) (l % S) := by
      unfold fK
      rw [if_neg c, d4]
    have htK : tK S h k l = htD (nS S) (l / S) (k / sd (LK S) (l % S) % bsD (nS S)) := by
      unfold tK
      rw [d4]
      simp [c]
    have own_le : k / sd (LK S) (l % S) % bsD (nS S) * sd (LK S) (l % S) ≤ k := by
      have h1 : k / sd (LK S) (l % S) % bsD (nS S) ≤ k / sd (LK S) (l % S) := Nat.mod_le _ _
      have h2 := Nat.mul_le_mul_right (sd (LK S) (l % S)) h1
      have h3 := Nat.div_mul_le_self k (sd (LK S) (l % S))
      omega
    rw [hfK, htK]
    generalize k / sd (LK S) (l % S) % bsD (nS S) = own at *
    generalize hby : sd (LK S) (l % S) = by' at *
    generalize hat : l / S = at' at *
    rw [sM_newest hS.n hb, Option.bind_some, Option.bind_some, sM_older hS.n hb, Option.bind_some]
    -- the end: then, own, by
    have fin : ∀ (th : Nat) (v : Int), th < bsD (nS S) → f_X12_fetch_b182 N shM (k : Int) (by' : Int) (own : Int) (th : Int) (jm_up m 1 10 v) = some (((k - own * by' + th * by' : Nat) : Int), jm_up m 1 10 v) := by
      intro th v hth
      unfold f_X12_fetch_b182
      have h1 : th * by' ≤ 625 := by
        have := Nat.mul_le_mul_right by' (show th ≤ bsD (nS S) by omega)
        omega
      have h2 : own * by' ≤ 625 := by omega
      have h3 : ((th : Int) - (own : Int)) * (by' : Int) = ((th * by' : Nat) : Int) - ((own * by' : Nat) : Int) := by rw [Int.sub_mul]; omega
      rw [jw_eq (x := (th : Int) - (own : Int)) (by omega) (by omega), h3, jw_eq (x := ((th * by' : Nat) : Int) - ((own * by' : Nat) : Int)) (by omega) (by omega), jw_eq (by omega) (by omega)]
      congr 2
      omega
    have last : ∀ (v : Int), v = 0 ∨ v = 1 → f_X12_fetch_b126 N shM (k : Int) (nS S : Int) (by' : Int) (own : Int) (rmS S w h (l % S) : Int) (at' : Int) (if nwD (nS S) own = 0 then -6 else (nwD (nS S) own : Int) - 1) 1 v M = some (((k - own * by' + dgD (nS S) (rmS S w h (l % S)) (at') own * by' : Nat) : Int), jm_up m 1 10 v) := by
      intro v hv
      have hz : jzb v = some v := by unfold jzb; rw [if_pos hv]
      have hr2 := rm_le (S := S) (h := h) (s := l % S) hw2
      have f1 : f_X12_fetch_b150 N shM (k : Int) (by' : Int) (own : Int) (at' : Int) (jm_up m 1 10 v) = some (((k - own * by' + (1 + at') * by' : Nat) : Int), jm_up m 1 10 v) := by
        unfold f_X12_fetch_b150
        rw [jw_eq (by omega) (by omega), show 1 + (at' : Int) = ((1 + at' : Nat) : Int) by omega]
        refine fin _ _ ?_
        have := hle.2.2.2
        unfold bsD
        omega
      unfold f_X12_fetch_b126
      rw [hz, Option.bind_some, jwf_ok sM1, Option.bind_some, ← hM, up_up]
      by_cases r1 : rmS S w h (l % S) = 1
      · rw [if_pos (by omega), f1]
        unfold dgD
        rw [if_pos (Or.inl r1)]
      · rw [if_neg (by omega)]
        by_cases r2 : rmS S w h (l % S) = 2
        · rw [if_pos (by omega)]
          by_cases x0 : nwD (nS S) own = 0
          · rw [if_pos x0, if_pos (by decide), f1]
            unfold dgD
            rw [if_pos (Or.inr ⟨r2, x0⟩)]
          · rw [if_neg x0, if_neg (by omega)]
            unfold f_X12_fetch_b159
            rw [if_pos (by omega)]
            by_cases xe : nwD (nS S) own = at' + 1
            · rw [if_pos (by omega), fin _ _ hb]
              have : dgD (nS S) (rmS S w h (l % S)) (at') own = own := by
                unfold dgD
                rw [if_neg (by omega), if_neg (by omega)]
              rw [this]
            · rw [if_neg (by omega), show (nwD (nS S) own : Int) - 1 = ((nwD (nS S) own - 1 : Nat) : Int) by omega, sM_pair hS.n l1 (by have := hX.1; omega) (by omega), Option.bind_some]
              have : dgD (nS S) (rmS S w h (l % S)) (at') own = prD (nS S) (at') (nwD (nS S) own - 1) := by
                unfold dgD
                rw [if_neg (by omega), if_pos ⟨r2, xe⟩]
              rw [← this]
              exact fin _ _ hdg.2.2
        · rw [if_neg (by omega)]
          unfold f_X12_fetch_b159
          rw [if_neg (by omega), fin _ _ hb]
          have : dgD (nS S) (rmS S w h (l % S)) (at') own = own := by
            unfold dgD
            rw [if_neg (by omega), if_neg (by omega)]
          rw [this]
    have htd : htD (nS S) (at') own = (decide (nwD (nS S) own = at' + 1) || decide (odD (nS S) own = at' + 1)) := rfl
    by_cases h1 : nwD (nS S) own = at' + 1
    · rw [if_pos (by rw [if_neg (by omega)]; omega)]
      unfold f_X12_fetch_b121
      rw [last 1 (Or.inr rfl), htd, decide_eq_true h1]
      rfl
    · rw [if_neg (by split <;> omega)]
      by_cases h2 : odD (nS S) own = at' + 1
      · rw [if_pos (by rw [if_neg (by omega)]; omega)]
        unfold f_X12_fetch_b121
        rw [last 1 (Or.inr rfl), htd, decide_eq_true h2, Bool.or_true]
        rfl
      · rw [if_neg (by split <;> omega), last 0 (Or.inl rfl), htd, decide_eq_false h1, decide_eq_false h2]
        rfl
