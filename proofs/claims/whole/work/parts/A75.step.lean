theorem enc_surj {L : Nat → Nat} {c : Nat} (h : c < L 0 * (L 1 * (L 2 * L 3))) (hp : ∀ s, s < 4 → 1 ≤ L s) : enc L (fun s => c / sd L s % L s) = c := by
  have p0 := hp 0 (by decide)
  have p1 := hp 1 (by decide)
  have p2 := hp 2 (by decide)
  have p3 := hp 3 (by decide)
  show c / 1 % L 0 + L 0 * (c / L 0 % L 1 + L 1 * (c / (L 0 * L 1) % L 2 + L 2 * (c / (L 0 * L 1 * L 2) % L 3))) = c
  rw [Nat.div_one, ← Nat.div_div_eq_div_mul, ← Nat.div_div_eq_div_mul, ← Nat.div_div_eq_div_mul]
  have l3 : c / L 0 / L 1 / L 2 < L 3 := Nat.div_lt_of_lt_mul (Nat.div_lt_of_lt_mul (Nat.div_lt_of_lt_mul h))
  rw [Nat.mod_eq_of_lt l3, Nat.mod_add_div, Nat.mod_add_div, Nat.mod_add_div]
theorem fC_lt {S w h cr c l : Nat} (hT : ST S w h) (hl : l < 8) (hcr : hb cr l = true) (hc : c < CN S w h cr) : fC S w h cr c l < CN S w h cr ∧ c / sd (LC S w h cr) (l % S) % LC S w h cr (l % S) * sd (LC S w h cr) (l % S) ≤ c := by
  obtain ⟨hS, ⟨hw1, hw2⟩, hh2, hm⟩ := id hT
  obtain ⟨l1, l2, l3⟩ := line_S hS hl
  have hs4 : l % S < 4 := by have := hS.le; omega
  have hpos : ∀ s, s < 4 → 1 ≤ LC S w h cr s := fun s _ => (LC_le65 hS).2
  have e := enc_surj hc hpos
  have dl : ∀ s, s < 4 → c / sd (LC S w h cr) s % LC S w h cr s < LC S w h cr s := fun s hs => Nat.mod_lt _ (hpos s hs)
  have le := enc_le (LC S w h cr) (fun s => c / sd (LC S w h cr) s % LC S w h cr s) hs4
  rw [e] at le
  refine ⟨?_, le⟩
  unfold fC
  split
  · exact hc
  · rename_i hh
    obtain ⟨hf, hrk⟩ := mem_line hS hl hcr hh
    have hlc : LC S w h cr (l % S) = lkD (rmS S w h (l % S)) (cnt (mbS S h cr (l % S)) (nS S)) := if_pos l2
    have hnl := nl_lt (rm_le (S := S) (h := h) (s := l % S) hw2) hrk (by rw [← hlc]; exact dl _ hs4)
    rw [← hlc] at hnl
    have eu := enc_upd (LC S w h cr) (fun s => c / sd (LC S w h cr) s % LC S w h cr s) (nlD (cnt (mbS S h cr (l % S)) (nS S)) (rmS S w h (l % S)) (cnt (mbS S h cr (l % S)) (l / S)) (c / sd (LC S w h cr) (l % S) % LC S w h cr (l % S))) hs4
    rw [e] at eu
    have lt := enc_lt (L := LC S w h cr) (d := udd (fun s => c / sd (LC S w h cr) s % LC S w h cr s) (l % S) (nlD (cnt (mbS S h cr (l % S)) (nS S)) (rmS S w h (l % S)) (cnt (mbS S h cr (l % S)) (l / S)) (c / sd (LC S w h cr) (l % S) % LC S w h cr (l % S)))) (fun s hs => by
      unfold udd
      split
      · rename_i q; subst q; exact hnl
      · exact dl s hs)
    have lt : _ < CN S w h cr := lt
    omega
theorem s_stepOf {S w h cr c l : Nat} {m : jm_M} (hF : CF m) (hT : ST S w h) (hI : LD3 m S w h cr) (hl : l < 8) (hcr : hb cr l = true) (hc : c < CN S w h cr) :
    f_X7_stepOf shC 65 (l : Int) (c : Int) m = some ((2 * fC S w h cr c l + (if tC' S w h cr c l then 1 else 0) : Nat) : Int) := by
  obtain ⟨hS, ⟨hw1, hw2⟩, hh2, hm⟩ := id hT
  obtain ⟨l1, l2, l3⟩ := line_S hS hl
  have hle := hS.le
  have hs4 : l % S < 4 := by omega
  obtain ⟨⟨⟨i1, i2, i3, i4⟩, i5, i6⟩, i7⟩ := hI
  have e66 := (i3 l hl).1
  have p1 := (LC_le65 (w := w) (h := h) (cr := cr) (s := l % S) hS)
  have hsd : 1 ≤ sd (LC S w h cr) (l % S) := by
    have hp : ∀ s, 1 ≤ LC S w h cr s := fun s => (LC_le65 hS).2
    have : ∀ k, 1 ≤ ppL (LC S w h cr) k := fun k => by
      induction k with
      | zero => exact Nat.le_refl 1
      | succ k ih => exact Nat.mul_le_mul ih (hp k)
    rw [← pp_sd _ hs4]; exact this _
  have hlt := fC_lt hT hl hcr hc
  have hcn := CN_le (w := w) (h := h) (cr := cr) hS
  obtain ⟨q1, q2, q3⟩ := mv_row hF hl
  have hlk : c / sd (LC S w h cr) (l % S) % LC S w h cr (l % S) < LC S w h cr (l % S) := Nat.mod_lt _ (by omega)
  have hmv := i7 l hl hcr _ hlk
  unfold f_X7_stepOf
  rw [if_neg (by omega), if_pos (by omega), jrf_ok sC65, Option.bind_some, jrf_ok sC65, Option.bind_some, hF.t65_3, hF.t65_8, jra_ok sC66 (by omega) (by omega), Option.bind_some, Int.toNat_natCast, e66, jra_ok sC71 (by omega) (by omega), Option.bind_some, Int.toNat_natCast, (i6 _ hs4).2, jrf_ok sC65, Option.bind_some, Option.bind_some, hF.t65_7, hF.t65_3, jra_ok sC66 (by omega) (by omega), Option.bind_some, Int.toNat_natCast, e66, jra_ok sC70 (by omega) (by omega), Option.bind_some, Int.toNat_natCast, (i6 _ hs4).1, if_pos (by omega), if_pos (by omega), if_neg (by omega), if_neg (by omega), jdiv_nat (by omega), jrem_nat]
  unfold f_X7_stepOf_b58
  have hfin : 2 * (c : Int) + mvI S w h cr l (c / sd (LC S w h cr) (l % S) % LC S w h cr (l % S)) = ((2 * fC S w h cr c l + (if tC' S w h cr c l then 1 else 0) : Nat) : Int) := by
    unfold mvI fC tC'
    by_cases cc : hb h l = true
    · rw [if_pos cc, if_pos cc, cc]
      simp
    · rw [if_neg cc, if_neg cc]
      have hf : hb h l = false := by simpa using cc
      rw [hf, Bool.false_or]
      have hle2 := hlt.2
      generalize c / sd (LC S w h cr) (l % S) % LC S w h cr (l % S) = lk at *
      generalize nlD (cnt (mbS S h cr (l % S)) (nS S)) (rmS S w h (l % S)) (cnt (mbS S h cr (l % S)) (l / S)) lk = nl at *
      generalize sd (LC S w h cr) (l % S) = st at *
      have e : ((nl : Int) - (lk : Int)) * (st : Int) = ((nl * st : Nat) : Int) - ((lk * st : Nat) : Int) := by rw [Int.sub_mul]; omega
      rw [e]
      split <;> omega
  rw [if_neg (by omega), if_pos (by omega), jrf_ok sC65, Option.bind_some, hF.t65_9, jra_ok sC72 (by omega) (by omega), Option.bind_some, Int.toNat_natCast, q1, jra_ok q2 (by omega) (by omega), Option.bind_some, Int.toNat_natCast, hmv, jw_eq (x := 2 * (c : Int)) (by omega) (by omega), hfin, jw_nat (by split <;> omega)]
theorem s_lay {N S w h cr : Nat} {m : jm_M} (hN : 200 ≤ N) (hF : CF m) (hT : ST S w h) (hcr : cr < 256) (h0 : m 3 0 = (S : Int)) (h1 : m 3 1 = (w : Int)) :
    ∃ M, f_X7_lay N shC 65 2 (h : Int) (cr : Int) m = some M ∧ LD3 M S w h cr ∧ CF M ∧ (∀ a, a < 65 ∨ 80 < a → ∀ j, M a j = m a j) := by
  obtain ⟨hS, ⟨hw1, hw2⟩, hh2, hm⟩ := id hT
  obtain ⟨r66, r67, r68, r69, r70, r71, n0, n1, n2, -⟩ := rC_sh
  have hle := hS.le
  let ma : jm_M := jm_up (jm_up m 65 1 (h : Int)) 65 2 (cr : Int)
  have hFa : CF ma := (hF.up n1).up n2
  have ka : ∀ a, a ≠ 65 → ∀ j, ma a j = m a j := fun a ha j => by show jm_up _ _ _ _ _ _ = _; rw [up_ne ha, up_ne ha]
  have ka1 : ma 65 1 = (h : Int) := by show jm_up _ _ _ _ _ _ = _; rw [up_nk (by decide), up_eq]
  have ka2 : ma 65 2 = (cr : Int) := up_eq
  have rd : ∀ {M : jm_M} (i : Nat) (v : Int), CF M → (∀ j, M 3 j = m 3 j) → m 3 i = v → i < 4 → f_X1_setting shC 2 (i : Int) M = some v := fun i v hC hs hv hi => by rw [s_setting hC two_bL (by omega) (by omega), Int.toNat_natCast, hs, hv]
  -- rooms and members
  obtain ⟨m1, g1, e1, i1, i2, i3, i4⟩ := loopN (fun g x m => f_X7_lay_l13 N shC g 65 2 (cr : Int) x m) 4 (fun k M => CF M ∧ (∀ s, s < k → M 68 s = (w : Int) ∧ M 69 s = 0) ∧ (∀ a, a ≠ 68 → a ≠ 69 → ∀ j, M a j = ma a j) ∧ True) (by
    intro n k M hk ⟨g1, g2, g3, _⟩
    have hFu : CF (jm_up M 68 k (w : Int)) := g1.up (nC_of r68 _)
    refine ⟨jm_up (jm_up M 68 k (w : Int)) 69 k 0, ?_, hFu.up (nC_of r69 _), fun s hs => ?_, fun a h1 h2 j => by rw [up_ne h2, up_ne h1]; exact g3 a h1 h2 j, trivial⟩
    · show f_X7_lay_b13 N shC (f_X7_lay_l13 N shC n) 65 2 (cr : Int) k M = _
      unfold f_X7_lay_b13
      rw [if_pos (by omega), jrf_ok sC65, Option.bind_some, g1.t65_5, jck_ok sC2, Option.bind_some, (show f_X1_setting shC 2 1 M = some (w : Int) from rd 1 (w : Int) g1 (fun j => by rw [g3 3 (by decide) (by decide), ka 3 (by decide)]) h1 (by decide)), Option.bind_some, jwa_ok sC68 (by omega) (by omega), Option.bind_some, Int.toNat_natCast, jrf_ok sC65, Option.bind_some, hFu.t65_6, jwa_ok sC69 (by omega) (by omega), Option.bind_some, Int.toNat_natCast, jw_succ (by omega)]
    · rw [up_ne (show (68 : Nat) ≠ 69 by decide), up_row, up_row]
      by_cases e : s = k
      · rw [if_pos e, if_pos e]; exact ⟨rfl, rfl⟩
      · rw [if_neg e, if_neg e, up_ne (by decide)]; exact g2 s (by omega)) 0 N ma (by omega) (by omega) ⟨hFa, fun i hi => absurd hi (Nat.not_lt_zero i), fun _ _ _ _ => rfl, trivial⟩
  have hL0 : LD1 m1 S w h cr 0 := by
    refine ⟨by rw [i3 65 (by decide) (by decide)]; exact ka1, by rw [i3 65 (by decide) (by decide)]; exact ka2, fun l hl => absurd hl (Nat.not_lt_zero l), fun s hs => ?_⟩
    rw [(i2 s hs).1, (i2 s hs).2]
    unfold roomL membL
    rw [ix_0 hS]
    constructor
    · split <;> rfl
    · split <;> rfl
  -- lines
  obtain ⟨m2, g2, e2, j1, j2, j3⟩ := loopN (fun g x m => f_X7_lay_l48 N shC g 65 2 (cr : Int) x m) 8 (fun k M => LD1 M S w h cr k ∧ CF M ∧ (∀ a, a < 66 ∨ 69 < a → ∀ j, M a j = m1 a j)) (by
    intro n k M hk ⟨g1, g2, g3⟩
    obtain ⟨M', e, a1, a2, a3⟩ := s_enrol g2 hT hcr hk g1
    refine ⟨M', ?_, a1, a2, fun a ha j => (a3 a ha j).trans (g3 a ha j)⟩
    show f_X7_lay_b48 N shC (f_X7_lay_l48 N shC n) 65 2 (cr : Int) k M = _
    unfold f_X7_lay_b48
    rw [if_pos (by omega), jck_ok sC2, Option.bind_some, (show f_X1_setting shC 2 0 M = some (S : Int) from rd 0 (S : Int) g2 (fun j => by rw [g3 3 (by decide), i3 3 (by decide) (by decide), ka 3 (by decide)]) h0 (by decide)), Option.bind_some, s_setOf hS hk, Option.bind_some, jck_ok sC65, Option.bind_some, e, Option.bind_some, jw_succ (by omega)]) 0 N m1 (by omega) (by omega) ⟨hL0, i1, fun _ _ _ => rfl⟩
  have hFb : CF (jm_up m2 65 0 1) := j2.up n0
  have hL8 : LD1 (jm_up m2 65 0 1) S w h cr 8 := j1.same (up_nk (by decide)) (up_nk (by decide)) (fun a h1 h2 j => up_ne (by omega))
  -- numbers
  obtain ⟨m3, g3, e3, p1, p2, p3, p4, p5⟩ := loopN (fun g x m => f_X7_lay_l85 N shC g 65 (cr : Int) x m) 4 (fun k M => CF M ∧ LD1 M S w h cr 8 ∧ M 65 0 = (ppL (LC S w h cr) k : Int) ∧ (∀ s, s < k → M 70 s = (LC S w h cr s : Int) ∧ M 71 s = (ppL (LC S w h cr) s : Int)) ∧ (∀ a, a < 65 ∨ 71 < a → ∀ j, M a j = m2 a j)) (by
    intro n k M hk ⟨g1, g2, g3, g4, g5⟩
    have u1 : CF (jm_up M 71 k (ppL (LC S w h cr) k : Int)) := g1.up (nC_of r71 _)
    have u2 : CF (jm_up (jm_up M 71 k (ppL (LC S w h cr) k : Int)) 70 k (LC S w h cr k : Int)) := u1.up (nC_of r70 _)
    have b1 := pp_le (L := LC S w h cr) (fun s => (LC_le65 hS).1) (k + 1)
    have b2 : 65 ^ (k + 1) ≤ 65 ^ 4 := Nat.pow_le_pow_right (by decide) (by omega)
    have b1 : ppL (LC S w h cr) k * LC S w h cr k ≤ 65 ^ (k + 1) := b1
    have hlo := s_looksOf (cr := cr) (s := k) hT
    refine ⟨jm_up (jm_up (jm_up M 71 k (ppL (LC S w h cr) k : Int)) 70 k (LC S w h cr k : Int)) 65 0 (ppL (LC S w h cr) (k + 1) : Int), ?_, u2.up n0, g2.same (by rw [up_nk (by decide), up_ne (by decide), up_ne (by decide)]) (by rw [up_nk (by decide), up_ne (by decide), up_ne (by decide)]) (fun a h1 h2 j => by rw [up_ne (by omega), up_ne (by omega), up_ne (by omega)]), up_eq, fun s hs => ?_, fun a ha j => by rw [up_ne (by omega), up_ne (by omega), up_ne (by omega)]; exact g5 a ha j⟩
    · show f_X7_lay_b85 N shC (f_X7_lay_l85 N shC n) 65 (cr : Int) k M = _
      unfold f_X7_lay_b85
      rw [if_pos (by omega), jrf_ok sC65, Option.bind_some, jrf_ok sC65, Option.bind_some, g1.t65_8, g3, jwa_ok sC71 (by omega) (by omega), Option.bind_some, Int.toNat_natCast, jrf_ok sC65, Option.bind_some, jrf_ok sC65, Option.bind_some, u1.t65_7, u1.t65_5, jra_ok sC68 (by omega) (by omega), Option.bind_some, Int.toNat_natCast, up_ne (show (68 : Nat) ≠ 71 by decide), (g2.2.2.2 k hk).1, jrf_ok sC65, Option.bind_some, u1.t65_6, jra_ok sC69 (by omega) (by omega), Option.bind_some, Int.toNat_natCast, up_ne (show (69 : Nat) ≠ 71 by decide), (g2.2.2.2 k hk).2, hlo, Option.bind_some, jwa_ok sC70 (by omega) (by omega), Option.bind_some, Int.toNat_natCast, jrf_ok sC65, Option.bind_some, jrf_ok sC65, Option.bind_some, u2.t65_7, jra_ok sC70 (by omega) (by omega), Option.bind_some, Int.toNat_natCast, up_eq, up_ne (show (65 : Nat) ≠ 70 by decide), up_ne (show (65 : Nat) ≠ 71 by decide), g3, show (ppL (LC S w h cr) k : Int) * (LC S w h cr k : Int) = ((ppL (LC S w h cr) k * LC S w h cr k : Nat) : Int) by omega, jw_nat (by omega), jwf_ok sC65, Option.bind_some, jw_succ (by omega)]
      rfl
    · rw [up_ne (show (70 : Nat) ≠ 65 by decide), up_ne (show (71 : Nat) ≠ 65 by decide), up_ne (show (71 : Nat) ≠ 70 by decide), up_row, up_row]
      by_cases e : s = k
      · rw [if_pos e, if_pos e, e]; exact ⟨rfl, rfl⟩
      · rw [if_neg e, if_neg e, up_ne (by decide)]; exact g4 s (by omega)) 0 N (jm_up m2 65 0 1) (by omega) (by omega) ⟨hFb, hL8, up_eq, fun i hi => absurd hi (Nat.not_lt_zero i), fun a ha j => up_ne (by omega)⟩
  have hLD2 : LD2 m3 S w h cr := ⟨p2, by rw [p3, pp_4]; rfl, fun s hs => ⟨(p4 s hs).1, by rw [(p4 s hs).2, pp_sd _ hs]⟩⟩
  -- moves
  obtain ⟨m4, g4, e4, q1, q2, q3, q4⟩ := loopN (fun g x m => f_X7_lay_l151 N shC g 65 (cr : Int) x m) 8 (fun k M => CF M ∧ LD2 M S w h cr ∧ (∀ l, l < k → hb cr l = true → ∀ c, c < LC S w h cr (l % S) → M (73 + l) c = mvI S w h cr l c) ∧ (∀ a, a < 73 ∨ 80 < a → ∀ j, M a j = m3 a j)) (by
    intro n k M hk ⟨g1, g2, g3, g4⟩
    by_cases c : hb cr k = true
    · obtain ⟨M', e, a1, a2, a3⟩ := s_fillMoves hN g1 hT g2 hk c
      refine ⟨M', ?_, a1, g2.same (fun j _ => a3 65 (by omega) j) (fun a h1 h2 => a3 a (by omega)), fun l hl hcl cc hcc => ?_, fun a ha j => (a3 a (by omega) j).trans (g4 a ha j)⟩
      · show f_X7_lay_b151 N shC (f_X7_lay_l151 N shC n) 65 (cr : Int) k M = _
        unfold f_X7_lay_b151 f_X7_lay_b173
        rw [if_pos (by omega), s_isIn hcr hk, Option.bind_some, ifb, if_pos c, jck_ok sC65, Option.bind_some, e, Option.bind_some, jw_succ (by omega)]
      · by_cases q : l = k
        · subst q; exact a2 cc hcc
        · rw [a3 _ (by omega)]; exact g3 l (by omega) hcl cc hcc
    · refine ⟨M, ?_, g1, g2, fun l hl hcl cc hcc => ?_, g4⟩
      · show f_X7_lay_b151 N shC (f_X7_lay_l151 N shC n) 65 (cr : Int) k M = _
        unfold f_X7_lay_b151 f_X7_lay_b173
        rw [if_pos (by omega), s_isIn hcr hk, Option.bind_some, ifb, if_neg c, jw_succ (by omega)]
      · by_cases q : l = k
        · subst q; exact absurd hcl c
        · exact g3 l (by omega) hcl cc hcc) 0 N m3 (by omega) (by omega) ⟨p1, hLD2, fun i hi => absurd hi (Nat.not_lt_zero i), fun _ _ _ => rfl⟩
  refine ⟨m4, ?_, ⟨q2, q3⟩, q1, fun a ha j => ?_⟩
  · unfold f_X7_lay
    rw [jwf_ok sC65, Option.bind_some, jwf_ok sC65, Option.bind_some]
    show f_X7_lay_l13 N shC N 65 2 (cr : Int) ((0 : Nat) : Int) ma = _
    rw [e1]
    show f_X7_lay_b13 N shC (f_X7_lay_l13 N shC g1) 65 2 (cr : Int) ((4 : Nat) : Int) m1 = _
    unfold f_X7_lay_b13
    rw [if_neg (by omega)]
    show f_X7_lay_l48 N shC N 65 2 (cr : Int) ((0 : Nat) : Int) m1 = _
    rw [e2]
    show f_X7_lay_b48 N shC (f_X7_lay_l48 N shC g2) 65 2 (cr : Int) ((8 : Nat) : Int) m2 = _
    unfold f_X7_lay_b48
    rw [if_neg (by omega), jwf_ok sC65, Option.bind_some]
    show f_X7_lay_l85 N shC N 65 (cr : Int) ((0 : Nat) : Int) _ = _
    rw [e3]
    show f_X7_lay_b85 N shC (f_X7_lay_l85 N shC g3) 65 (cr : Int) ((4 : Nat) : Int) m3 = _
    unfold f_X7_lay_b85
    rw [if_neg (by omega)]
    show f_X7_lay_l151 N shC N 65 (cr : Int) ((0 : Nat) : Int) _ = _
    rw [e4]
    show f_X7_lay_b151 N shC (f_X7_lay_l151 N shC g4) 65 (cr : Int) ((8 : Nat) : Int) m4 = _
    unfold f_X7_lay_b151
    rw [if_neg (by omega)]
  · rw [q4 a (by omega), p5 a (by omega), j3 a (by omega), i3 a (by omega) (by omega), ka a (by omega)]
