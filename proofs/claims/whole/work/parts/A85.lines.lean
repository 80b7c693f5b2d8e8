/-! the lines that lie there -/
def pb (S s x : Nat) : Nat := if x = 0 then 0 else 2 ^ ((x - 1) * S + s)
def lnR (S h : Nat) (e : Nat → Nat) : Nat → Nat
  | 0 => h
  | s + 1 => lnR S h e s ||| pb S s (nwD (nS S) (e s)) ||| pb S s (odD (nS S) (e s))
def lnQ (S h cr k : Nat) : Nat → Nat
  | 0 => h
  | l + 1 => lnQ S h cr k l ||| (if hb cr l && tK S h k l then 2 ^ l else 0)
theorem idx_lt {S s a : Nat} (hS : isS S) (hs : s < S) (ha : a < nS S) : a * S + s < 8 := by
  have h1 := hS.le
  have h2 : (a + 1) * S ≤ nS S * S := Nat.mul_le_mul_right _ ha
  rw [Nat.add_mul, Nat.one_mul, Nat.mul_comm (nS S)] at h2
  omega
theorem pb_lt {S s x : Nat} (hS : isS S) (hs : s < S) (hx : x ≤ nS S) : pb S s x < 256 := by
  unfold pb
  split
  · decide
  · have := idx_lt hS hs (show x - 1 < nS S by omega)
    calc 2 ^ ((x - 1) * S + s) ≤ 2 ^ 7 := Nat.pow_le_pow_right (by decide) (by omega)
      _ < 256 := by decide
theorem lnR_lt {S h : Nat} {e : Nat → Nat} (hS : isS S) (hh : h < 256) (he : ∀ s, s < S → e s < bsD (nS S)) : ∀ s, s ≤ S → lnR S h e s < 256 := by
  intro s
  induction s with
  | zero => intro _; exact hh
  | succ s ih =>
    intro hs
    have hx := xy_spec hS.n (he s (by omega))
    exact Nat.or_lt_two_pow (n := 8) (Nat.or_lt_two_pow (n := 8) (ih (by omega)) (pb_lt hS (by omega) hx.1)) (pb_lt hS (by omega) hx.2.1)
theorem lnQ_lt {S h cr k : Nat} (hh : h < 256) : ∀ l, l ≤ 8 → lnQ S h cr k l < 256 := by
  intro l
  induction l with
  | zero => intro _; exact hh
  | succ l ih =>
    intro hl
    refine Nat.or_lt_two_pow (n := 8) (ih (by omega)) ?_
    split
    · calc 2 ^ l ≤ 2 ^ 7 := Nat.pow_le_pow_right (by decide) (by omega)
        _ < 256 := by decide
    · decide
theorem pb_bit {S s x j : Nat} : (pb S s x).testBit j = (decide (x ≠ 0) && decide (j = (x - 1) * S + s)) := by
  unfold pb
  by_cases c : x = 0
  · rw [if_pos c, Nat.zero_testBit]
    simp [c]
  · rw [if_neg c, Nat.testBit_two_pow]
    by_cases d : (x - 1) * S + s = j
    · simp [c, d]
    · have : ¬ j = (x - 1) * S + s := fun q => d q.symm
      simp [c, d, this]
theorem lnR_bit {S h : Nat} {e : Nat → Nat} (hS : isS S) {j : Nat} (hj : j < 8) : ∀ s, s ≤ S → (lnR S h e s).testBit j = (hb h j || (decide (j % S < s) && htD (nS S) (j / S) (e (j % S)))) := by
  obtain ⟨j1, j2, j3⟩ := line_S hS hj
  intro s
  induction s with
  | zero => intro _; show h.testBit j = _; simp [hb]
  | succ s ih =>
    intro hs
    show (lnR S h e s ||| pb S s (nwD (nS S) (e s)) ||| pb S s (odD (nS S) (e s))).testBit j = _
    rw [Nat.testBit_or, Nat.testBit_or, ih (by omega), pb_bit, pb_bit]
    have key : ∀ x : Nat, (decide (x ≠ 0) && decide (j = (x - 1) * S + s)) = (decide (j % S = s) && decide (x = j / S + 1)) := by
      intro x
      rw [← Bool.decide_and, ← Bool.decide_and]
      refine decide_eq_decide.mpr ⟨fun ⟨a, b⟩ => ?_, fun ⟨a, b⟩ => ?_⟩
      · have hm : j % S = s := by rw [b, Nat.mul_comm, Nat.mul_add_mod, Nat.mod_eq_of_lt (by omega)]
        have hd : j / S = x - 1 := by
          have hS0 : 0 < S := by have := hS.le; omega
          rw [b, Nat.mul_comm, Nat.mul_add_div hS0, Nat.div_eq_of_lt (by omega), Nat.add_zero]
        exact ⟨hm, by omega⟩
      · exact ⟨by rw [b]; exact Nat.succ_ne_zero _, by rw [b, Nat.add_sub_cancel, ← a]; exact j3.symm⟩
    rw [key, key]
    unfold htD
    by_cases c : j % S = s
    · rw [c]
      simp
      have : decide (s < s + 1) = true := by simp
      cases hb h j <;> simp
    · have e1 : decide (j % S = s) = false := decide_eq_false c
      have e2 : decide (j % S < s + 1) = decide (j % S < s) := decide_eq_decide.mpr ⟨fun _ => by omega, fun _ => by omega⟩
      rw [e1, e2]
      simp
theorem lnQ_bit {S h cr k : Nat} {j : Nat} : ∀ l, (lnQ S h cr k l).testBit j = (hb h j || (decide (j < l) && (hb cr j && tK S h k j))) := by
  intro l
  induction l with
  | zero => show h.testBit j = _; simp [hb]
  | succ l ih =>
    show (lnQ S h cr k l ||| (if hb cr l && tK S h k l then 2 ^ l else 0)).testBit j = _
    rw [Nat.testBit_or, ih]
    by_cases c : j = l
    · subst c
      have e1 : decide (j < j) = false := decide_eq_false (by omega)
      have e2 : decide (j < j + 1) = true := decide_eq_true (by omega)
      rw [e1, e2]
      cases q : (hb cr j && tK S h k j) with
      | true => rw [if_pos rfl, Nat.testBit_two_pow_self]; simp
      | false => rw [if_neg (by decide), Nat.zero_testBit]; simp
    · have e2 : decide (j < l + 1) = decide (j < l) := decide_eq_decide.mpr ⟨fun _ => by omega, fun _ => by omega⟩
      rw [e2]
      have : (if (hb cr l && tK S h k l) = true then 2 ^ l else 0).testBit j = false := by
        split
        · rw [Nat.testBit_two_pow]; exact decide_eq_false (fun q => c q.symm)
        · exact Nat.zero_testBit j
      rw [this, Bool.or_false]
theorem lines_eq {S w h cr k c : Nat} {e : Nat → Nat} (hT : ST S w h) (v : ∀ s, s < 4 → VD S w h cr s (e s)) (hk : k = enc (LK S) e) : lnR S h e S = lnQ S h cr k 8 := by
  obtain ⟨hS, ⟨hw1, hw2⟩, hh, hm⟩ := id hT
  have he : ∀ s, s < S → e s < bsD (nS S) := fun s hs => by
    have := hS.le
    have a := v s (by omega)
    unfold VD at a
    rw [if_pos hs] at a
    exact a.1
  have l1 := lnR_lt hS hh he S (Nat.le_refl _)
  have l2 := lnQ_lt (S := S) (cr := cr) (k := k) hh 8 (Nat.le_refl _)
  refine Nat.eq_of_testBit_eq fun j => ?_
  by_cases hj : j < 8
  · obtain ⟨j1, j2, j3⟩ := line_S hS hj
    have hle := hS.le
    rw [lnR_bit hS hj S (Nat.le_refl _), lnQ_bit, decide_eq_true j2, decide_eq_true hj, Bool.true_and, Bool.true_and]
    have dk : k / sd (LK S) (j % S) % LK S (j % S) = e (j % S) := by rw [hk]; exact enc_dig (fun s hs => (v s hs).ltK) (by omega)
    unfold tK
    rw [dk]
    cases q1 : hb h j with
    | true => rfl
    | false =>
      rw [Bool.false_or, Bool.false_or]
      cases q2 : htD (nS S) (j / S) (e (j % S)) with
      | false => simp
      | true =>
        have a := v (j % S) (by omega)
        unfold VD at a
        rw [if_pos j2] at a
        obtain ⟨-, -, -, h3, h4, -, -⟩ := a
        have hf : mbS S h cr (j % S) (j / S) = true := by
          unfold htD at q2
          rw [Bool.or_eq_true, decide_eq_true_eq, decide_eq_true_eq] at q2
          rcases q2 with q | q
          · have := h3 (by rw [q]; exact Nat.succ_ne_zero _)
            rw [q] at this
            exact this
          · have := (h4 (by rw [q]; exact Nat.succ_ne_zero _)).1
            rw [q] at this
            exact this
        unfold mbS at hf
        rw [j3, q1] at hf
        simp at hf
        rw [hf]
        rfl
  · have p : 2 ^ 8 ≤ 2 ^ j := Nat.pow_le_pow_right (by decide) (by omega)
    rw [Nat.testBit_lt_two_pow (by omega), Nat.testBit_lt_two_pow (by omega)]
theorem s_linesOn {N S w h cr k c : Nat} {m : jm_M} (hN : 20 ≤ N) (hF : CF m) (hT : ST S w h) (hcr : cr < 256) (hI : LD3 m S w h cr) (hR : Rk S w h cr k c) : f_X7_linesOn N shC 65 (c : Int) m = some (lnQ S h cr k 8 : Int) := by
  obtain ⟨hS, ⟨hw1, hw2⟩, hh, hm⟩ := id hT
  have hlt := hR.lt hw2
  have hcn := CN_le (w := w) (h := h) (cr := cr) hS
  have key : ∀ (r l n : Nat), l + r = 8 → r < n → f_X7_linesOn_l7 N shC n 65 (c : Int) (lnQ S h cr k l : Int) (l : Int) m = some (lnQ S h cr k 8 : Int) := by
    intro r
    induction r with
    | zero =>
      intro l n hl hn
      obtain ⟨n, rfl⟩ : ∃ n', n = n' + 1 := ⟨n - 1, by omega⟩
      show f_X7_linesOn_b7 N shC (fun a0 x1 x2 x3 => f_X7_linesOn_l7 N shC n a0 x1 x2 x3 m) 65 (c : Int) (lnQ S h cr k l : Int) (l : Int) m = _
      unfold f_X7_linesOn_b7
      rw [if_neg (by omega), show l = 8 by omega]
    | succ r ih =>
      intro l n hl hn
      obtain ⟨n, rfl⟩ : ∃ n', n = n' + 1 := ⟨n - 1, by omega⟩
      show f_X7_linesOn_b7 N shC (fun a0 x1 x2 x3 => f_X7_linesOn_l7 N shC n a0 x1 x2 x3 m) 65 (c : Int) (lnQ S h cr k l : Int) (l : Int) m = _
      have hl8 : l < 8 := by omega
      have hq := lnQ_lt (S := S) (cr := cr) (k := k) hh l (by omega)
      unfold f_X7_linesOn_b7
      rw [if_pos (by omega), jrf_ok sC65, Option.bind_some, hI.1.1.2.1, s_isIn hcr hl8, Option.bind_some, ifb]
      unfold f_X7_linesOn_b42
      rw [jw_succ (by omega)]
      by_cases c1 : hb cr l = true
      · obtain ⟨r1, r2⟩ := hR.fetch hS hw2 hl8 c1
        have hf := fC_lt hT hl8 c1 hlt.2
        rw [if_pos c1, jck_ok sC65, Option.bind_some, s_stepOf hF hT hI hl8 c1 hlt.2, Option.bind_some, ← r2]
        have hp : 2 ^ l < 256 := by
          calc 2 ^ l ≤ 2 ^ 7 := Nat.pow_le_pow_right (by decide) (by omega)
            _ < 256 := by decide
        cases ht : tK S h k l with
        | true =>
          have hs := (step_half (c := fC S w h cr c l) (b := 1) (by omega) (by decide)).1
          rw [(show (2 * fC S w h cr c l + (if true = true then 1 else 0)) = 2 * fC S w h cr c l + 1 from rfl), hs, if_pos (show ((1 : Nat) : Int) = 1 from rfl), (show jshl 1 (l : Int) = ((2 ^ l : Nat) : Int) from jshl_one ⟨l, hl8⟩), jor_nat (by omega) (by omega)]
          have e : lnQ S h cr k (l + 1) = lnQ S h cr k l ||| 2 ^ l := by
            show lnQ S h cr k l ||| (if hb cr l && tK S h k l then 2 ^ l else 0) = _
            rw [c1, ht]; rfl
          rw [← e]
          exact ih (l + 1) n (by omega) (by omega)
        | false =>
          have hs := (step_half (c := fC S w h cr c l) (b := 0) (by omega) (by decide)).1
          rw [(show (2 * fC S w h cr c l + (if false = true then 1 else 0)) = 2 * fC S w h cr c l + 0 from rfl), hs, if_neg (show ¬ ((0 : Nat) : Int) = 1 by decide)]
          have e : lnQ S h cr k (l + 1) = lnQ S h cr k l := by
            show lnQ S h cr k l ||| (if hb cr l && tK S h k l then 2 ^ l else 0) = _
            rw [c1, ht]; exact Nat.or_zero _
          rw [← e]
          exact ih (l + 1) n (by omega) (by omega)
      · rw [if_neg c1]
        have e : lnQ S h cr k (l + 1) = lnQ S h cr k l := by
          show lnQ S h cr k l ||| (if hb cr l && tK S h k l then 2 ^ l else 0) = _
          have : hb cr l = false := by simpa using c1
          rw [this]; exact Nat.or_zero _
        rw [← e]
        exact ih (l + 1) n (by omega) (by omega)
  unfold f_X7_linesOn
  rw [jrf_ok sC65, Option.bind_some, hI.1.1.1]
  exact key 8 0 N (by omega) (by omega)
theorem sM_linesIn {N S w h cr k : Nat} {e : Nat → Nat} {m : jm_M} (hN : 20 ≤ N) (hF : MF m) (hT : ST S w h) (hs : SMm m S w h) (v : ∀ s, s < 4 → VD S w h cr s (e s)) (hk : k = enc (LK S) e) : f_X12_linesIn N shM 1 (k : Int) m = some (lnR S h e S : Int) := by
  obtain ⟨hS, ⟨hw1, hw2⟩, hh, hm⟩ := id hT
  have hle := hS.le
  have hkl : k < KN S := by rw [hk]; exact enc_lt fun s hs => (v s hs).ltK
  have hkn := KN_le hS
  have he : ∀ s, s < S → e s < bsD (nS S) := fun s hs => by
    have a := v s (by omega)
    unfold VD at a
    rw [if_pos hs] at a
    exact a.1
  have hbs : 1 ≤ bsD (nS S) := by unfold bsD; omega
  have key : ∀ (r s n : Nat), s + r = S → r < n → f_X12_linesIn_l24 N shM n 1 (nS S : Int) (bsD (nS S) : Int) (lnR S h e s : Int) ((k / bsD (nS S) ^ s : Nat) : Int) (s : Int) m = some (lnR S h e S : Int) := by
    intro r
    induction r with
    | zero =>
      intro s n hsr hn
      obtain ⟨n, rfl⟩ : ∃ n', n = n' + 1 := ⟨n - 1, by omega⟩
      show f_X12_linesIn_b24 N shM (fun a0 x2 x3 x4 x5 x6 => f_X12_linesIn_l24 N shM n a0 x2 x3 x4 x5 x6 m) 1 _ _ _ _ (s : Int) m = _
      unfold f_X12_linesIn_b24
      rw [jrf_ok sM1, Option.bind_some, hF.t0, jra_ok sM2 (by decide) (by decide), Option.bind_some, show (0 : Int).toNat = 0 from rfl, hs.1, if_neg (by omega), show s = S by omega]
    | succ r ih =>
      intro s n hsr hn
      obtain ⟨n, rfl⟩ : ∃ n', n = n' + 1 := ⟨n - 1, by omega⟩
      have hsS : s < S := by omega
      have hs4 : s < 4 := by omega
      obtain ⟨d1, d2, d3, d4, d5, d6⟩ := sd_LK hS hsS
      have dk : k / bsD (nS S) ^ s % bsD (nS S) = e s := by
        have : k / sd (LK S) s % LK S s = e s := by rw [hk]; exact enc_dig (fun s hs => (v s hs).ltK) hs4
        rw [d1, d4] at this
        exact this
      have hdle : k / bsD (nS S) ^ s ≤ k := Nat.div_le_self _ _
      have hx := xy_spec hS.n (he s hsS)
      have hl := lnR_lt hS hh he s (by omega)
      have b1 := pb_lt hS hsS hx.1
      have b2 := pb_lt hS hsS hx.2.1
      have hl2 : lnR S h e s ||| pb S s (nwD (nS S) (e s)) < 256 := Nat.or_lt_two_pow (n := 8) hl b1
      have next : k / bsD (nS S) ^ s / bsD (nS S) = k / bsD (nS S) ^ (s + 1) := by rw [Nat.div_div_eq_div_mul, Nat.pow_succ]
      have ih' := ih (s + 1) n (by omega) (by omega)
      show f_X12_linesIn_b24 N shM (fun a0 x2 x3 x4 x5 x6 => f_X12_linesIn_l24 N shM n a0 x2 x3 x4 x5 x6 m) 1 _ _ _ _ (s : Int) m = _
      unfold f_X12_linesIn_b24
      rw [jrf_ok sM1, Option.bind_some, hF.t0, jra_ok sM2 (by decide) (by decide), Option.bind_some, show (0 : Int).toNat = 0 from rfl, hs.1, if_pos (by omega), if_neg (by omega), jck_ok sM1, Option.bind_some, jrem_nat, dk, sM_newest hS.n (he s hsS), Option.bind_some, if_neg (by omega), Option.bind_some, sM_older hS.n (he s hsS), Option.bind_some]
      have bitv : ∀ x : Nat, x ≤ nS S → x ≠ 0 → jshl 1 (jw (jw (((x : Int) - 1) * (S : Int)) + (s : Int))) = (pb S s x : Int) := by
        intro x hx1 hx0
        have hi := idx_lt hS hsS (show x - 1 < nS S by omega)
        have e1 : ((x : Int) - 1) * (S : Int) = (((x - 1) * S : Nat) : Int) := by
          rw [show (x : Int) - 1 = ((x - 1 : Nat) : Int) by omega]; omega
        have hj := jshl_one ⟨(x - 1) * S + s, hi⟩
        rw [e1, jw_nat (by omega), jw_eq (by omega) (by omega), show (((x - 1) * S : Nat) : Int) + (s : Int) = (((x - 1) * S + s : Nat) : Int) by omega]
        unfold pb
        rw [if_neg hx0]
        exact hj
      have h82 : f_X12_linesIn_b82 N shM (fun a0 x2 x3 x4 x5 x6 => f_X12_linesIn_l24 N shM n a0 x2 x3 x4 x5 x6 m) 1 (nS S : Int) (bsD (nS S) : Int) ((k / bsD (nS S) ^ s : Nat) : Int) (s : Int) (if odD (nS S) (e s) = 0 then -6 else (odD (nS S) (e s) : Int) - 1) (lnR S h e s : Int) (pb S s (nwD (nS S) (e s)) : Int) m = some (lnR S h e S : Int) := by
        unfold f_X12_linesIn_b82
        rw [jor_nat (by omega) (by omega)]
        have h110 : ∀ z : Int, z = (pb S s (odD (nS S) (e s)) : Int) → f_X12_linesIn_b110 N shM (fun a0 x2 x3 x4 x5 x6 => f_X12_linesIn_l24 N shM n a0 x2 x3 x4 x5 x6 m) 1 (nS S : Int) (bsD (nS S) : Int) ((k / bsD (nS S) ^ s : Nat) : Int) (s : Int) ((lnR S h e s ||| pb S s (nwD (nS S) (e s)) : Nat) : Int) z m = some (lnR S h e S : Int) := by
          intro z hz
          unfold f_X12_linesIn_b110
          rw [if_neg (by omega), hz, jor_nat (by omega) (by omega), jdiv_nat (by omega), next, jw_succ (by omega)]
          exact ih'
        by_cases c : odD (nS S) (e s) = 0
        · rw [if_pos c, if_pos (by decide)]
          refine h110 _ ?_
          unfold pb
          rw [if_pos c]; rfl
        · rw [if_neg c, if_neg (by omega), jrf_ok sM1, Option.bind_some, hF.t0, jra_ok sM2 (by decide) (by decide), Option.bind_some, show (0 : Int).toNat = 0 from rfl, hs.1]
          exact h110 _ (bitv _ hx.2.1 c)
      by_cases c : nwD (nS S) (e s) = 0
      · rw [if_pos c, if_pos (by decide)]
        have : (0 : Int) = (pb S s (nwD (nS S) (e s)) : Int) := by unfold pb; rw [if_pos c]; rfl
        rw [this]
        exact h82
      · rw [if_neg c, if_neg (by omega), Option.bind_some, hF.t0, jra_ok sM2 (by decide) (by decide), Option.bind_some, show (0 : Int).toNat = 0 from rfl, hs.1, bitv _ hx.1 c]
        exact h82
  unfold f_X12_linesIn
  rw [jck_ok sM1, Option.bind_some, sM_linesInSet hF hs hS, Option.bind_some, Option.bind_some, sM_statesOfSet hF hs hS, Option.bind_some, jrf_ok sM1, Option.bind_some, hF.t0, jra_ok sM2 (by decide) (by decide), Option.bind_some, show (3 : Int).toNat = 3 from rfl, hs.2.2]
  have k0 := key S 0 N (by omega) (by omega)
  rw [Nat.pow_zero, Nat.div_one] at k0
  exact k0
