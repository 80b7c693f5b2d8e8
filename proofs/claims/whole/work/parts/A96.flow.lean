theorem rr_far {a b : Nat} (ha : a ∈ rrL) (hb : b ∈ rrL) (h : a ≠ b) : a + 4 ≤ b ∨ b + 4 ≤ a := by
  simp only [rrL, List.mem_cons, List.not_mem_nil, or_false] at ha hb
  omega
theorem s_shelfAt {m : jm_M} (hF : CF m) {r : Nat} (hr : r ∈ rrL) {i : Nat} (hi : i < 625) : f_X4_shelfAt shC r (i : Int) m = some (m (r + 1) i) ∧ f_X4_costAt shC r (i : Int) m = some (m (r + 2) i) := by
  obtain ⟨s0, s1, s2, s3, p1, p2, p3⟩ := rr_sh hF r hr
  constructor
  · unfold f_X4_shelfAt
    rw [if_neg (by omega), if_pos (by omega), jrf_ok s0, Option.bind_some, p1, Int.toNat_natCast, jra_ok s1 (by omega) (by omega), Option.bind_some, Int.toNat_natCast]
  · unfold f_X4_costAt
    rw [if_neg (by omega), if_pos (by omega), jrf_ok s0, Option.bind_some, p2, Int.toNat_natCast, jra_ok s2 (by omega) (by omega), Option.bind_some, Int.toNat_natCast]
/-- entries of a row -/
def En (m : jm_M) (r : Nat) (S w h cr : Nat) (j : Nat) : SX := fun k v => ∃ i c : Nat, i < j ∧ m (r + 1) i = (c : Int) ∧ Rk S w h cr k c ∧ m (r + 2) i = (v : Int)
theorem s_addAll {N to fr n n2 : Nat} {m : jm_M} {S w h cr B : Nat} {W : Bool} {A A2 : SX} (hN : 1000 ≤ N) (ht : to ∈ rrL) (hfr : fr ∈ rrL) (hne : to ≠ fr) (hF : CF m) (hT : ST S w h) (hB : RB m to n S w h cr W A) (hB2 : RB m fr n2 S w h cr W A2) (hb : ∀ k v, A2 k v → v ≤ B) (hb2 : B ≤ 1000000) :
    ∃ M n', f_X4_addAll N shC to fr (if W then 1 else 0) m = some M ∧ RB M to n' S w h cr W (uni A A2) ∧ FrR m M to := by
  have far := rr_far ht hfr hne
  have hn2 := hB2.1.1
  obtain ⟨s0, -⟩ := rr_sh hF fr hfr
  have st0 := (rr_sh hF to ht).1
  obtain ⟨M, g1, e1, ⟨n', i1⟩, i2⟩ := loopN (fun g x m => f_X4_addAll_l2 N shC g to fr (if W then 1 else 0) x m) n2 (fun j M => (∃ n', RB M to n' S w h cr W (uni A (En m fr S w h cr j))) ∧ FrR m M to) (by
    intro g j M hj ⟨⟨n', g1⟩, g2⟩
    have hFM := g2.CF ht hF
    obtain ⟨k, v, c, d1, d2, d3, d4, d5⟩ := hB2.2.1 j hj
    have r1 : M (fr + 1) j = (c : Int) := by rw [g2.1 _ (by omega)]; exact d1
    have r2 : M (fr + 2) j = (v : Int) := by rw [g2.1 _ (by omega)]; exact d3
    have hat := s_shelfAt hFM hfr (show j < 625 by omega)
    obtain ⟨M', n'', a1, a2, a3⟩ := s_addR (v := v) ht hFM hT g1 d2 (by have := hb k v d4; omega)
    refine ⟨M', ?_, ⟨n'', a2.ext fun k' v' => ⟨?_, ?_⟩⟩, g2.tr a3⟩
    · show f_X4_addAll_b2 N shC (f_X4_addAll_l2 N shC g) to fr (if W then 1 else 0) j M = _
      unfold f_X4_addAll_b2
      rw [jrf_ok s0, Option.bind_some, g2.1 fr (by omega), hB2.1.2.1, if_pos (by omega), jck_ok s0, Option.bind_some, hat.1, Option.bind_some, Option.bind_some, hat.2, Option.bind_some, jck_ok st0, Option.bind_some, r1, r2, a1, Option.bind_some, jw_succ (by omega)]
    · rintro ((q | ⟨i, c', f1, f2, f3, f4⟩) | ⟨q1, q2⟩)
      · exact Or.inl q
      · exact Or.inr ⟨i, c', by omega, f2, f3, f4⟩
      · exact Or.inr ⟨j, c, by omega, d1, by rw [q1]; exact d2, by rw [q2]; exact d3⟩
    · rintro (q | ⟨i, c', f1, f2, f3, f4⟩)
      · exact Or.inl (Or.inl q)
      · by_cases ci : i = j
        · subst ci
          refine Or.inr ?_
          rw [d1] at f2
          rw [d3] at f4
          have ec : c' = c := by omega
          subst ec
          exact ⟨Rk.c_inj hT.1 hT.2.1.2 f3 d2, by omega⟩
        · exact Or.inl (Or.inr ⟨i, c', by omega, f2, f3, f4⟩)) 0 N m (Nat.zero_le _) (by omega) ⟨⟨n, hB.ext fun k v => ⟨fun q => Or.inl q, fun q => q.elim id (fun ⟨i, c, hi, _⟩ => absurd hi (Nat.not_lt_zero _))⟩⟩, FrR.rf m to⟩
  refine ⟨M, n', ?_, i1.dom (fun k v q => ?_) (fun k v q => ?_), i2⟩
  · show f_X4_addAll_l2 N shC N to fr (if W then 1 else 0) ((0 : Nat) : Int) m = _
    rw [e1]
    show f_X4_addAll_b2 N shC (f_X4_addAll_l2 N shC g1) to fr (if W then 1 else 0) (n2 : Int) M = _
    unfold f_X4_addAll_b2
    rw [jrf_ok s0, Option.bind_some, i2.1 fr (by omega), hB2.1.2.1, if_neg (by omega)]
  · rcases q with q | ⟨i, c, f1, f2, f3, f4⟩
    · exact Or.inl q
    · obtain ⟨k1, v1, c1, d1, d2, d3, d4, d5⟩ := hB2.2.1 i f1
      rw [d1] at f2
      have ec : c1 = c := by omega
      subst ec
      have ek : k = k1 := Rk.c_inj hT.1 hT.2.1.2 f3 d2
      subst ek
      rw [d3] at f4
      have ev : v1 = v := by omega
      subst ev
      exact Or.inr d4
  · rcases q with q | q
    · exact ⟨v, Or.inl q, gd_refl⟩
    · obtain ⟨i, c, f1, f2, f3⟩ := hB2.2.2 k v q
      obtain ⟨k1, v1, c1, d1, d2, d3, d4, d5⟩ := hB2.2.1 i f1
      rw [d1] at f2
      have ec : c1 = c := by omega
      subst ec
      have ek : k1 = k := Rk.c_inj hT.1 hT.2.1.2 d2 f3
      subst ek
      exact ⟨v1, Or.inr ⟨i, c1, f1, d1, d2, d3⟩, d5 v q⟩
/-- what stands while shelves flow through a text -/
def GF (m : jm_M) (t cn : Nat) (sg : Nat → Int) (S w h ms cr : Nat) (W : Bool) : Prop := CF m ∧ CT m t cn sg ∧ LD3 m S w h cr ∧ m 82 4 = (t : Int) ∧ m 82 3 = (ms : Int) ∧ m 82 2 = (if W then 1 else 0) ∧ ∀ r ∈ rrL, RR m r
theorem GF.fr {m M : jm_M} {t cn : Nat} {sg : Nat → Int} {S w h ms cr : Nat} {W : Bool} (hG : GF m t cn sg S w h ms cr W) (ht : t ∈ tL) (hF : CF M) (hs : ∀ a, a ≤ 82 → ∀ j, M a j = m a j) (hR : ∀ r ∈ rrL, RR M r) : GF M t cn sg S w h ms cr W := by
  have htl := tL_lt t ht
  obtain ⟨g1, g2, g3, g4, g5, g6, g7⟩ := hG
  exact ⟨hF, g2.same (fun a h1 h2 => hs a (by omega)), g3.same (fun a h1 h2 => hs a (by omega)), by rw [hs 82 (by decide)]; exact g4, by rw [hs 82 (by decide)]; exact g5, by rw [hs 82 (by decide)]; exact g6, hR⟩
theorem GF.r {m M : jm_M} {t cn r n : Nat} {sg : Nat → Int} {S w h ms cr : Nat} {W : Bool} {A : SX} (hG : GF m t cn sg S w h ms cr W) (ht : t ∈ tL) (hr : r ∈ rrL) (hf : FrR m M r) (hB : RB M r n S w h cr W A) : GF M t cn sg S w h ms cr W := by
  have hge := rr_ge r hr
  refine hG.fr ht (hf.CF hr hG.1) (fun a ha j => hf.1 a (by omega) j) (fun r' hr' => ?_)
  by_cases c : r' = r
  · rw [c]; exact hB.1.RR
  · have far := rr_far hr' hr c
    exact (hG.2.2.2.2.2.2 r' hr').same (fun a h1 h2 j => hf.1 a (by omega) j)
theorem s_ffetch {N to fr n n2 l t cn : Nat} {sg : Nat → Int} {m : jm_M} {S w h ms cr B : Nat} {W : Bool} {A2 : SX} (hN : 1000 ≤ N) (htt : t ∈ tL) (ht : to ∈ rrL) (hfr : fr ∈ rrL) (hne : to ≠ fr) (hG : GF m t cn sg S w h ms cr W) (hT : ST S w h) (hms : ms ≤ 20) (hl : l < 8) (hcr : hb cr l = true) (hB : RB m to n S w h cr W (fun _ _ => False)) (hB2 : RB m fr n2 S w h cr W A2) (hb : ∀ k v, A2 k v → v ≤ B) (hb2 : B ≤ 100000) :
    ∃ M n', f_X8_fetch N shC 82 (l : Int) fr to m = some M ∧ RB M to n' S w h cr W (fun k' v' => ∃ k v, A2 k v ∧ k' = fK S w h k l ∧ v' = v + cs S h ms k l) ∧ FrR m M to := by
  have far := rr_far ht hfr hne
  have hge := rr_ge to ht
  have hn2 := hB2.1.1
  obtain ⟨hF, g2, g3, g4, g5, g6, g7⟩ := id hG
  obtain ⟨s0, -⟩ := rr_sh hF fr hfr
  have st0 := (rr_sh hF to ht).1
  obtain ⟨M, g1, e1, ⟨n', i1⟩, i2⟩ := loopN (fun g x m => f_X8_fetch_l3 N shC g 82 (l : Int) fr to x m) n2 (fun j M => (∃ n', RB M to n' S w h cr W (fun k' v' => ∃ k v, En m fr S w h cr j k v ∧ k' = fK S w h k l ∧ v' = v + cs S h ms k l)) ∧ FrR m M to) (by
    intro g j M hj ⟨⟨n', g1⟩, gf⟩
    have hFM := gf.CF ht hF
    obtain ⟨k, v, c, d1, d2, d3, d4, d5⟩ := hB2.2.1 j hj
    have r1 : M (fr + 1) j = (c : Int) := by rw [gf.1 _ (by omega)]; exact d1
    have r2 : M (fr + 2) j = (v : Int) := by rw [gf.1 _ (by omega)]; exact d3
    have hLD : LD3 M S w h cr := g3.same (fun a h1 h2 => gf.1 a (by omega))
    have hat := s_shelfAt hFM hfr (show j < 625 by omega)
    have hlt := d2.lt hT.2.1.2
    obtain ⟨q1, q2⟩ := d2.fetch hT.1 hT.2.1.2 hl hcr
    have hlt2 := q1.lt hT.2.1.2
    have hcn := CN_le (w := w) (h := h) (cr := cr) hT.1
    have hst := s_stepOf hFM hT hLD hl hcr hlt.2
    rw [← q2] at hst
    have hvb := hb k v d4
    have hcs : cs S h ms k l ≤ 20 := by unfold cs; split <;> omega
    obtain ⟨M', n'', a1, a2, a3⟩ := s_addR (v := v + cs S h ms k l) ht hFM hT g1 q1 (by omega)
    refine ⟨M', ?_, ⟨n'', a2.ext fun k' v' => ⟨?_, ?_⟩⟩, gf.tr a3⟩
    · show f_X8_fetch_b3 N shC (f_X8_fetch_l3 N shC g) 82 (l : Int) fr to j M = _
      have h44 : ∀ (b u : Nat), b ≤ 1 → u = cs S h ms k l → f_X8_fetch_b44 N shC (f_X8_fetch_l3 N shC g) 82 (l : Int) fr to (j : Int) ((2 * fC S w h cr c l + b : Nat) : Int) (u : Int) M = f_X8_fetch_l3 N shC g 82 (l : Int) fr to ((j + 1 : Nat) : Int) M' := by
        intro b u hb1 hu
        unfold f_X8_fetch_b44
        rw [jck_ok s0, Option.bind_some, hat.2, Option.bind_some, jrf_ok sC82, Option.bind_some, jck_ok st0, Option.bind_some, gf.1 82 (by omega), g6, r2, (step_half (c := fC S w h cr c l) (by omega) hb1).2, hu, jw_eq (by omega) (by omega), show (v : Int) + (cs S h ms k l : Int) = ((v + cs S h ms k l : Nat) : Int) by omega, a1, Option.bind_some, jw_succ (by omega)]
      unfold f_X8_fetch_b3
      rw [jrf_ok s0, Option.bind_some, gf.1 fr (by omega), hB2.1.2.1, if_pos (by omega), jrf_ok sC82, Option.bind_some, hFM.t82_6, jck_ok s0, Option.bind_some, hat.1, Option.bind_some, jck_ok sC65, Option.bind_some, r1, hst, Option.bind_some]
      cases htk : tK S h k l with
      | true =>
        have ecs : 1 = cs S h ms k l := by unfold cs; rw [htk]; rfl
        rw [(show (2 * fC S w h cr c l + (if true = true then 1 else 0)) = 2 * fC S w h cr c l + 1 from rfl), (step_half (c := fC S w h cr c l) (b := 1) (by omega) (by decide)).1, if_pos (show ((1 : Nat) : Int) = 1 from rfl)]
        exact h44 1 1 (by decide) ecs
      | false =>
        have ecs : ms = cs S h ms k l := by unfold cs; rw [htk]; rfl
        rw [(show (2 * fC S w h cr c l + (if false = true then 1 else 0)) = 2 * fC S w h cr c l + 0 from rfl), (step_half (c := fC S w h cr c l) (b := 0) (by omega) (by decide)).1, if_neg (show ¬ ((0 : Nat) : Int) = 1 by decide), jrf_ok sC82, Option.bind_some, gf.1 82 (by omega), g5]
        exact h44 0 ms (by decide) ecs
    · rintro (⟨k1, v1, ⟨i, c', f1, f2, f3, f4⟩, z1, z2⟩ | ⟨z1, z2⟩)
      · exact ⟨k1, v1, ⟨i, c', by omega, f2, f3, f4⟩, z1, z2⟩
      · exact ⟨k, v, ⟨j, c, by omega, d1, d2, d3⟩, z1, z2⟩
    · rintro ⟨k1, v1, ⟨i, c', f1, f2, f3, f4⟩, z1, z2⟩
      by_cases ci : i = j
      · subst ci
        refine Or.inr ?_
        rw [d1] at f2
        rw [d3] at f4
        have ec : c' = c := by omega
        subst ec
        have ek : k1 = k := Rk.c_inj hT.1 hT.2.1.2 f3 d2
        subst ek
        have ev : v1 = v := by omega
        subst ev
        exact ⟨z1, z2⟩
      · exact Or.inl ⟨k1, v1, ⟨i, c', by omega, f2, f3, f4⟩, z1, z2⟩) 0 N m (Nat.zero_le _) (by omega) ⟨⟨n, hB.ext fun k v => ⟨fun q => q.elim, fun ⟨_, _, ⟨i, c, hi, _⟩, _⟩ => absurd hi (Nat.not_lt_zero _)⟩⟩, FrR.rf m to⟩
  refine ⟨M, n', ?_, i1.dom (fun k v q => ?_) (fun k v q => ?_), i2⟩
  · show f_X8_fetch_l3 N shC N 82 (l : Int) fr to ((0 : Nat) : Int) m = _
    rw [e1]
    show f_X8_fetch_b3 N shC (f_X8_fetch_l3 N shC g1) 82 (l : Int) fr to (n2 : Int) M = _
    unfold f_X8_fetch_b3
    rw [jrf_ok s0, Option.bind_some, i2.1 fr (by omega), hB2.1.2.1, if_neg (by omega)]
  · obtain ⟨k0, v0, ⟨i, c, f1, f2, f3, f4⟩, q1, q2⟩ := q
    obtain ⟨k1, v1, c1, d1, d2, d3, d4, d5⟩ := hB2.2.1 i f1
    rw [d1] at f2
    have ec : c1 = c := by omega
    subst ec
    have ek : k0 = k1 := Rk.c_inj hT.1 hT.2.1.2 f3 d2
    subst ek
    rw [d3] at f4
    have ev : v1 = v0 := by omega
    subst ev
    exact ⟨k0, v1, d4, q1, q2⟩
  · obtain ⟨k0, v0, q, q1, q2⟩ := q
    obtain ⟨i, c, f1, f2, f3⟩ := hB2.2.2 k0 v0 q
    obtain ⟨k1, v1, c1, d1, d2, d3, d4, d5⟩ := hB2.2.1 i f1
    rw [d1] at f2
    have ec : c1 = c := by omega
    subst ec
    have ek : k1 = k0 := Rk.c_inj hT.1 hT.2.1.2 d2 f3
    subst ek
    exact ⟨v1 + cs S h ms k1 l, ⟨k1, v1, ⟨i, c1, f1, d1, d2, d3⟩, q1, rfl⟩, by rw [q2]; exact gd_add (d5 v0 q)⟩
theorem s_between {m : jm_M} (hF : CF m) {x : Nat} (hx : x ≤ 4) : f_X8_betweenAt shC 82 (x : Int) m = some (92 + 4 * x) ∧ 92 + 4 * x ∈ rrL := by
  have h5 : ∀ x : Fin 5, (91, x.val, 92 + 4 * x.val) ∈ rfC ∧ 92 + 4 * x.val ∈ rrL := by decide
  have h := hF _ (h5 ⟨x, by omega⟩).1
  have h : m 91 x = ((92 + 4 * x : Nat) : Int) := h
  refine ⟨?_, (h5 ⟨x, by omega⟩).2⟩
  unfold f_X8_betweenAt f_X8_betweenAt_b23
  rw [if_neg (by omega), jrf_ok sC82, Option.bind_some, hF.t82_9, jlen_ok sC91 (by decide) (by decide) (by decide), Option.bind_some, if_pos (by omega), Option.bind_some, hF.t82_9, jra_ok sC91 (by omega) (by omega), Option.bind_some, Int.toNat_natCast, h, Int.toNat_natCast, if_neg (by omega)]
