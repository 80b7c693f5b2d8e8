theorem BD.sub {d ms : Nat} {q q' : RS} (h : BD (d + 1) ms q) (h1 : q'.2.1 ≤ q.2.1 + 3 * ((ms + 1) * 4 ^ d)) (h2 : q'.2.2.1 ≤ q.2.2.1 + 3 * 4 ^ d) (h3 : q'.2.2.2.1 ≤ q.2.2.2.1 + 3 * 4 ^ d) (h4 : q'.2.2.2.2 ≤ q.2.2.2.2 + 1 + 3 * 5 ^ d) : BD d ms q' := by
  obtain ⟨a1, a2, a3, a4⟩ := h
  have p2 : 1 ≤ 5 ^ d := Nat.pow_pos (by decide)
  have e1 : 4 ^ (d + 1) = 4 * 4 ^ d := by rw [Nat.pow_succ, Nat.mul_comm]
  have e2 : 5 ^ (d + 1) = 5 * 5 ^ d := by rw [Nat.pow_succ, Nat.mul_comm]
  have e3 : (ms + 1) * 4 ^ (d + 1) = 4 * ((ms + 1) * 4 ^ d) := by rw [e1, Nat.mul_left_comm]
  rw [e3] at a1
  rw [e1] at a2 a3
  rw [e2] at a4
  exact ⟨by omega, by omega, by omega, by omega⟩
theorem BD.ex1 {d ms : Nat} {q q' : RS} (h : BD (d + 1) ms q) (hl : leq d ms q q') : BD d ms q' := by
  obtain ⟨b1, b2, b3, b4⟩ := hl
  exact h.sub (by omega) (by omega) (by omega) (by omega)
theorem BD.same {d ms : Nat} {q : RS} (h : BD (d + 1) ms q) : BD d ms q := h.sub (by omega) (by omega) (by omega) (by omega)
theorem BD.tk1 {d ms : Nat} {q : RS} (h : BD (d + 1) ms q) : BD d ms (tkd q) := h.sub (show q.2.1 ≤ _ by omega) (show q.2.2.1 ≤ _ by omega) (show q.2.2.2.1 ≤ _ by omega) (show q.2.2.2.2 + 1 ≤ _ by omega)
theorem BD.it1 {d ms : Nat} {f : RS → RS} (hf : ∀ q, leq d ms q (f q)) {n : Nat} {q : RS} (hn : n ≤ 3) (h : BD (d + 1) ms q) : BD d ms (itr f n (tkd q)) := by
  obtain ⟨a1, a2, a3, a4⟩ := itr_leq hf n (tkd q)
  have n1 : n * ((ms + 1) * 4 ^ d) ≤ 3 * ((ms + 1) * 4 ^ d) := Nat.mul_le_mul_right _ hn
  have n2 : n * 4 ^ d ≤ 3 * 4 ^ d := Nat.mul_le_mul_right _ hn
  have n3 : n * 5 ^ d ≤ 3 * 5 ^ d := Nat.mul_le_mul_right _ hn
  have t1 : (tkd q).2.1 = q.2.1 := rfl
  have t2 : (tkd q).2.2.1 = q.2.2.1 := rfl
  have t3 : (tkd q).2.2.2.1 = q.2.2.2.1 := rfl
  have t4 : (tkd q).2.2.2.2 = q.2.2.2.2 + 1 := rfl
  exact h.sub (by omega) (by omega) (by omega) (by omega)
def dgO (q : jBd) (j : Nat) : Nat := if j < q.2.2.2.2.1 then (q.2.2.2.2.2 j).toNat else 0
theorem dgO_eq {q : jBd} (hV : VB q) (i : Nat) : (dgO q i : Int) = if i < q.2.2.2.2.1 then q.2.2.2.2.2 i else 0 := by
  unfold dgO
  by_cases c : i < q.2.2.2.2.1
  · have hd := hV.2.2.2.2 i c
    rw [if_pos c, if_pos c]
    exact Int.toNat_of_nonneg hd.1
  · rw [if_neg c, if_neg c]
    exact Int.natCast_zero
theorem s_digit {m : jm_M} (hF : CF m) {b : Nat} (hbb : b ∈ bL) {q : jBd} (hV : VB q) (h : CB m b q) {i : Nat} : f_X1_digitAt shC b (i : Int) m = some (dgO q i : Int) := by
  rw [dgO_eq hV]
  by_cases c : i < 20
  · exact s_digitAt hF hbb h hV.2.2.2.1 c
  · obtain ⟨b1, -⟩ := bC hF b hbb
    have hq := hV.2.2.2.1
    have e0 : m b 0 = (q.2.2.2.2.1 : Int) := h.2.2.2.1
    rw [if_neg (show ¬ i < q.2.2.2.2.1 by omega)]
    unfold f_X1_digitAt
    rw [if_neg (by omega), jrf_ok b1, Option.bind_some, e0, if_neg (by omega)]
/-- what stands while the class goes through a text -/
def GX (m : jm_M) (t cn : Nat) (sg : Nat → Int) (S w h ms cr : Nat) (bd : jBd) : Prop := CF m ∧ CT m t cn sg ∧ LD3 m S w h cr ∧ CB m 2 bd ∧ m 81 5 = (t : Int) ∧ m 3 2 = (ms : Int)
theorem GX.fr {m m' : jm_M} {t cn : Nat} {sg : Nat → Int} {S w h ms cr : Nat} {bd : jBd} (hG : GX m t cn sg S w h ms cr bd) (ht : t ∈ tL) (hF : CF m') (hs : ∀ a, a ≠ 81 → ∀ j, m' a j = m a j) (h5 : m' 81 5 = m 81 5) : GX m' t cn sg S w h ms cr bd := by
  have htl := tL_lt t ht
  obtain ⟨g1, g2, g3, g4, g5, g6⟩ := hG
  exact ⟨hF, g2.same (fun a h1 h2 => hs a (by omega)), g3.same (fun a h1 h2 => hs a (by omega)), g4.same (fun a h1 h2 => hs a (by omega)) (hs 2 (by decide) 0), by rw [h5]; exact g5, by rw [hs 3 (by decide)]; exact g6⟩
def QC (m : jm_M) (S w h cr : Nat) (q : RS) : Prop := m 81 0 = (q.2.1 : Int) ∧ m 81 1 = (q.2.2.1 : Int) ∧ m 81 2 = (q.2.2.2.1 : Int) ∧ m 81 3 = (q.2.2.2.2 : Int) ∧ ∃ c : Nat, Rk S w h cr q.1 c ∧ m 81 4 = (c : Int)
theorem n81 : nC 81 0 = true ∧ nC 81 1 = true ∧ nC 81 2 = true ∧ nC 81 3 = true ∧ nC 81 4 = true ∧ nC 81 5 = true := by decide
theorem step_half {c b : Nat} (hc : c < 625) (hb : b ≤ 1) : jand ((2 * c + b : Nat) : Int) 1 = (b : Int) ∧ jshr ((2 * c + b : Nat) : Int) 1 = (c : Int) := by
  have e1 : (2 * c + b) % 2 = b := by omega
  have e2 : (2 * c + b) / 2 = c := by omega
  have hlt : 2 * c + b < 1300 := by omega
  constructor
  · rw [jand_1 (by omega), e1]
  · have h := jshr_half ⟨2 * c + b, hlt⟩
    have h : jshr ((2 * c + b : Nat) : Int) 1 = (((2 * c + b) / 2 : Nat) : Int) := h
    rw [e2] at h
    exact h
theorem s_rfetch {S w h ms cr t cn : Nat} {sg : Nat → Int} {bd : jBd} {m : jm_M} {q : RS} {s : Int} (ht : t ∈ tL) (hT : ST S w h) (hms : ms ≤ 20) (hG : GX m t cn sg S w h ms cr bd) (hQ : QC m S w h cr q) (hB : BD 0 ms q) (hs : 48 ≤ s ∧ s ≤ 55) (hcr : hb cr (lnO s) = true) :
    ∃ M, f_X6_fetch shC 81 (lnO s : Int) m = some M ∧ QC M S w h cr (exL S w h ms s q) ∧ GX M t cn sg S w h ms cr bd ∧ (∀ a, a ≠ 81 → ∀ j, M a j = m a j) := by
  obtain ⟨g1, g2, g3, g4, g5, g6⟩ := id hG
  obtain ⟨q0, q1, q2, q3, c, q4, q5⟩ := hQ
  obtain ⟨b1, b2, b3, b4⟩ := hB
  obtain ⟨n0, n1, n2, n3, n4, n5⟩ := n81
  have hl := ln_lt hs
  have hR := q4.lt hT.2.1.2
  have hcn := CN_le (w := w) (h := h) (cr := cr) hT.1
  obtain ⟨r1, r2⟩ := q4.fetch hT.1 hT.2.1.2 hl hcr
  have hR2 := r1.lt hT.2.1.2
  have hst := s_stepOf g1 hT g3 hl hcr hR.2
  rw [← r2] at hst
  have eL : exL S w h ms s q = (fK S w h q.1 (lnO s), q.2.1 + (if tK S h q.1 (lnO s) then 1 else ms), q.2.2.1 + 1, q.2.2.2.1 + (if tK S h q.1 (lnO s) then 0 else 1), q.2.2.2.2) := if_pos hs
  rw [eL]
  have key : ∀ (b v u : Nat), b ≤ 1 → v ≤ 20 → u ≤ 1 → f_X7_stepOf shC 65 (lnO s : Int) (c : Int) m = some ((2 * fC S w h cr c (lnO s) + b : Nat) : Int) → (b = 1 → v = 1 ∧ u = 0) → (b = 0 → v = ms ∧ u = 1) → f_X6_fetch shC 81 (lnO s : Int) m = some (jm_up (jm_up (jm_up (jm_up m 81 1 ((q.2.2.1 + 1 : Nat) : Int)) 81 2 ((q.2.2.2.1 + u : Nat) : Int)) 81 0 ((q.2.1 + v : Nat) : Int)) 81 4 (fC S w h cr c (lnO s) : Int)) := by
    intro b v u hb1 hv hu hst hb hb0
    have hF1 : CF (jm_up m 81 1 ((q.2.2.1 + 1 : Nat) : Int)) := g1.up n1
    have hF2 : CF (jm_up (jm_up m 81 1 ((q.2.2.1 + 1 : Nat) : Int)) 81 2 ((q.2.2.2.1 + u : Nat) : Int)) := hF1.up n2
    have hh := step_half (c := fC S w h cr c (lnO s)) (by omega) hb1
    unfold f_X6_fetch
    rw [jrf_ok sC81, Option.bind_some, jrf_ok sC81, Option.bind_some, g1.t81_7, jck_ok sC65, Option.bind_some, q5, hst, Option.bind_some, hh.1]
    have h25 : ∀ x : Int, x = (b : Int) → f_X6_fetch_b25 shC 81 ((2 * fC S w h cr c (lnO s) + b : Nat) : Int) x m = some (jm_up (jm_up (jm_up (jm_up m 81 1 ((q.2.2.1 + 1 : Nat) : Int)) 81 2 ((q.2.2.2.1 + u : Nat) : Int)) 81 0 ((q.2.1 + v : Nat) : Int)) 81 4 (fC S w h cr c (lnO s) : Int)) := by
      intro x hx
      unfold f_X6_fetch_b25
      rw [jrf_ok sC81, Option.bind_some, q1, jw_succ (by omega), jwf_ok sC81, Option.bind_some, jrf_ok sC81, Option.bind_some, up_nk (show (2 : Nat) ≠ 1 by decide), q2]
      have h50 : ∀ y : Int, y = (u : Int) → f_X6_fetch_b50 shC 81 ((2 * fC S w h cr c (lnO s) + b : Nat) : Int) x 81 (q.2.2.2.1 : Int) y (jm_up m 81 1 ((q.2.2.1 + 1 : Nat) : Int)) = some (jm_up (jm_up (jm_up (jm_up m 81 1 ((q.2.2.1 + 1 : Nat) : Int)) 81 2 ((q.2.2.2.1 + u : Nat) : Int)) 81 0 ((q.2.1 + v : Nat) : Int)) 81 4 (fC S w h cr c (lnO s) : Int)) := by
        intro y hy
        unfold f_X6_fetch_b50
        rw [hy, jw_eq (x := (q.2.2.2.1 : Int) + (u : Int)) (by omega) (by omega), show (q.2.2.2.1 : Int) + (u : Int) = ((q.2.2.2.1 + u : Nat) : Int) by omega, jwf_ok sC81, Option.bind_some, jrf_ok sC81, Option.bind_some, up_nk (show (0 : Nat) ≠ 2 by decide), up_nk (show (0 : Nat) ≠ 1 by decide), q0]
        have h75 : ∀ z : Int, z = (v : Int) → f_X6_fetch_b75 shC 81 ((2 * fC S w h cr c (lnO s) + b : Nat) : Int) 81 (q.2.1 : Int) z (jm_up (jm_up m 81 1 ((q.2.2.1 + 1 : Nat) : Int)) 81 2 ((q.2.2.2.1 + u : Nat) : Int)) = some (jm_up (jm_up (jm_up (jm_up m 81 1 ((q.2.2.1 + 1 : Nat) : Int)) 81 2 ((q.2.2.2.1 + u : Nat) : Int)) 81 0 ((q.2.1 + v : Nat) : Int)) 81 4 (fC S w h cr c (lnO s) : Int)) := by
          intro z hz
          unfold f_X6_fetch_b75
          rw [hz, jw_eq (x := (q.2.1 : Int) + (v : Int)) (by omega) (by omega), show (q.2.1 : Int) + (v : Int) = ((q.2.1 + v : Nat) : Int) by omega, jwf_ok sC81, Option.bind_some, hh.2, jwf_ok sC81, Option.bind_some]
        by_cases cb : b = 0
        · rw [if_pos (by omega), jrf_ok sC81, Option.bind_some, hF2.t81_6, jck_ok sC2, Option.bind_some, s_setting hF2 two_bL (by decide) (by decide), Option.bind_some]
          refine h75 _ ?_
          show jm_up _ _ _ _ 3 2 = _
          rw [up_ne (by decide), up_ne (by decide), g6, (hb0 cb).1]
        · rw [if_neg (by omega)]
          refine h75 _ ?_
          rw [(hb (by omega)).1]; rfl
      by_cases cb : b = 0
      · rw [if_pos (by omega)]
        refine h50 _ ?_
        rw [(hb0 cb).2]; rfl
      · rw [if_neg (by omega)]
        refine h50 _ ?_
        rw [(hb (by omega)).2]; rfl
    by_cases cb : b = 0
    · rw [if_neg (by omega)]
      exact h25 _ (by omega)
    · rw [if_pos (by omega)]
      exact h25 _ (by omega)
  have fin : ∀ v u : Nat, QC (jm_up (jm_up (jm_up (jm_up m 81 1 ((q.2.2.1 + 1 : Nat) : Int)) 81 2 ((q.2.2.2.1 + u : Nat) : Int)) 81 0 ((q.2.1 + v : Nat) : Int)) 81 4 (fC S w h cr c (lnO s) : Int)) S w h cr (fK S w h q.1 (lnO s), q.2.1 + v, q.2.2.1 + 1, q.2.2.2.1 + u, q.2.2.2.2) ∧ GX (jm_up (jm_up (jm_up (jm_up m 81 1 ((q.2.2.1 + 1 : Nat) : Int)) 81 2 ((q.2.2.2.1 + u : Nat) : Int)) 81 0 ((q.2.1 + v : Nat) : Int)) 81 4 (fC S w h cr c (lnO s) : Int)) t cn sg S w h ms cr bd := by
    intro v u
    refine ⟨⟨?_, ?_, ?_, ?_, _, r1, up_eq⟩, hG.fr ht ((((g1.up n1).up n2).up n0).up n4) (fun a ha j => by rw [up_ne ha, up_ne ha, up_ne ha, up_ne ha]) (by rw [up_nk (by decide), up_nk (by decide), up_nk (by decide), up_nk (by decide)])⟩
    · rw [up_nk (by decide), up_eq]
    · rw [up_nk (by decide), up_nk (by decide), up_nk (by decide), up_eq]
    · rw [up_nk (by decide), up_nk (by decide), up_eq]
    · rw [up_nk (by decide), up_nk (by decide), up_nk (by decide), up_nk (by decide)]; exact q3
  cases ht2 : tK S h q.1 (lnO s) with
  | true =>
    rw [ht2, if_pos rfl] at hst
    exact ⟨_, key 1 1 0 (by decide) (by decide) (by decide) hst (fun _ => ⟨rfl, rfl⟩) (fun h => by cases h), (fin 1 0).1, (fin 1 0).2, fun a ha j => by rw [up_ne ha, up_ne ha, up_ne ha, up_ne ha]⟩
  | false =>
    rw [ht2, if_neg (by decide)] at hst
    exact ⟨_, key 0 ms 1 (by decide) hms (by decide) hst (fun h => by cases h) (fun _ => ⟨rfl, rfl⟩), (fin ms 1).1, (fin ms 1).2, fun a ha j => by rw [up_ne ha, up_ne ha, up_ne ha, up_ne ha]⟩
theorem s_nextDigit {S w h ms cr t cn : Nat} {sg : Nat → Int} {bd : jBd} {m : jm_M} {q : RS} (ht : t ∈ tL) (hV : VB bd) (hG : GX m t cn sg S w h ms cr bd) (hQ : QC m S w h cr q) (hB : q.2.2.2.2 ≤ 100000) :
    ∃ M, f_X6_nextDigit shC 81 m = some ((dgO bd q.2.2.2.2 : Int), M) ∧ QC M S w h cr (tkd q) ∧ GX M t cn sg S w h ms cr bd ∧ (∀ a, a ≠ 81 → ∀ j, M a j = m a j) := by
  obtain ⟨g1, g2, g3, g4, g5, g6⟩ := id hG
  obtain ⟨q0, q1, q2, q3, c, q4, q5⟩ := hQ
  obtain ⟨n0, n1, n2, n3, n4, n5⟩ := n81
  refine ⟨jm_up m 81 3 ((q.2.2.2.2 + 1 : Nat) : Int), ?_, ⟨?_, ?_, ?_, up_eq, c, q4, ?_⟩, hG.fr ht (g1.up n3) (fun a ha j => up_ne ha) (up_nk (by decide)), fun a ha j => up_ne ha⟩
  · unfold f_X6_nextDigit
    rw [jrf_ok sC81, Option.bind_some, jrf_ok sC81, Option.bind_some, g1.t81_6, jck_ok sC2, Option.bind_some, q3, s_digit g1 two_bL hV g4, Option.bind_some, Option.bind_some, jw_succ (by omega), jwf_ok sC81, Option.bind_some]
  · rw [up_nk (by decide)]; exact q0
  · rw [up_nk (by decide)]; exact q1
  · rw [up_nk (by decide)]; exact q2
  · rw [up_nk (by decide)]; exact q5
