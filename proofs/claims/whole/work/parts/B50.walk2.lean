theorem walk_seq {N t cn : Nat} {sg : Nat → Int} {S w h ms cr : Nat} (hN : 1000 ≤ N) (ht : t ∈ tL) (hT : ST S w h) (hms : ms ≤ 20) (hX : TX cn sg) (hcr : cr = lr sg 0 cn) {d i : Nat} (hd : d + 1 ≤ 4) (hs : sg i = 59) (hz : zs sg 4 i = 1 + zs sg 4 (i + 1) + zs sg 4 (nx sg i)) (hw2 : wf sg d (nx sg i) = true) (ih : WlP N t cn sg S w h ms cr d (i + 1)) (ih2 : WlP N t cn sg S w h ms cr d (nx sg i)) : WlP N t cn sg S w h ms cr (d + 1) i := by
  intro D x fr B k β ds m hD hx hfr hfx hi hG hA hAB hB hq
  have hzp := zs_pos sg 4 (i + 1)
  have hzp2 := zs_pos sg 4 (nx sg i)
  have hnx : nx sg i = i + 1 + zs sg 4 (i + 1) := rfl
  have hcn := hX.1
  have hic : i < cn := by omega
  rw [mul4] at hB
  obtain ⟨D, rfl⟩ : ∃ D', D = D' + 1 := ⟨D - 1, by omega⟩
  by_cases c20 : ds.length ≤ 20
  · have hh := walk_head (N := N) (D := D) (x := x) (fr := fr) ht hX (show x ≤ 4 by omega) hic c20 hG hq
    rw [hh, if_neg (by omega), if_pos hs, gr_seq hs]
    have ht1 := (tC hG.1 t ht).1
    obtain ⟨-, hWm⟩ := ah_row hG.1 (show 4 * x + 0 < 20 by omega)
    have hWm : isW (122 + 4 * x + 0) := by unfold isW at *; omega
    obtain ⟨v, ev, hv⟩ := s_second hG.1 ht hX hG.2.1 hic
    obtain rfl := hv (by omega)
    obtain ⟨M1, a1, a2, a3⟩ := look_all (N := N) (ms := ms) hN ht hT hms hX hcr d (by omega) (nx sg i) hw2 8 (x + 1) fr (122 + 4 * x + 0) B β m (by omega) (by omega) hfr hWm (by omega) (by omega) (by omega) (by omega) hG hA hAB (by omega)
    have hG1 := a3.G hG ht hWm (by omega)
    have q1 := a3.Q hWm hq
    have f1 : FrC m M1 x := a3.C (by omega) (by omega)
    have hb2 := lk_B (ms := ms) hT (show d ≤ 4 by omega) hw2 hAB
    obtain ⟨M2, b1, b2, b3⟩ := ih D (x + 1) (122 + 4 * x + 0) (B + (ms + 1) * 4 ^ d) k (lk S w h ms sg d (nx sg i) β) ds M1 (by omega) (by omega) hWm (by omega) (by omega) hG1 a2 hb2 (by omega) q1
    have hG2 := b3.G hG1 ht
    have hA2 : TBc M2 S w h cr fr β := hA.same (fun j => by rw [b3.1 fr (by unfold isW at hfr; omega) (by unfold isW at hfr; omega) (by omega) (by omega), a3 fr (by omega) (by omega)])
    obtain ⟨M3, c1, c2, c3⟩ := ih2 D (x + 1) fr B _ β _ M2 (by omega) (by omega) hfr (by omega) (by omega) hG2 hA2 hAB (by omega) b2
    obtain ⟨v2, ev2, hv2⟩ := s_second hG2.1 ht hX hG2.2.1 hic
    obtain rfl := hv2 (by omega)
    refine ⟨M3, ?_, ?_, (f1.tr b3 (by omega)).tr c3 (by omega)⟩
    · unfold f_X5_walkBoth
      have ea : f_X5_aheadRow shC 112 (x : Int) 0 fr m = some (122 + 4 * x + 0) := s_ahead hG.1 (by omega) (by decide)
      rw [jck_ok sC112, Option.bind_some, ea, Option.bind_some, jrf_ok sC112, Option.bind_some, hG.2.2.2.1, Int.toNat_natCast, jck_ok ht1, Option.bind_some, ev, Option.bind_some, Option.bind_some, jw_succ (by omega), a1, Option.bind_some, jrf_ok sC112, Option.bind_some, hG1.2.2.2.1, Int.toNat_natCast, jck_ok ht1, Option.bind_some, s_first (by omega), Option.bind_some, Option.bind_some, b1, Option.bind_some, jrf_ok sC112, Option.bind_some, hG2.2.2.2.1, Int.toNat_natCast, jck_ok ht1, Option.bind_some, ev2, Option.bind_some, Option.bind_some, c1, Option.bind_some, Option.bind_some]
    · rw [List.append_assoc] at c2
      exact c2
  · exact walk_stop (t := t) (cn := cn) (by omega) (by omega) hq
theorem walk_cho {N t cn : Nat} {sg : Nat → Int} {S w h ms cr : Nat} (hN : 1000 ≤ N) (ht : t ∈ tL) (hT : ST S w h) (hms : ms ≤ 20) (hX : TX cn sg) (hcr : cr = lr sg 0 cn) {d i : Nat} (hd : d + 1 ≤ 4) (hs : sg i = 63) (hz : zs sg 4 i = 1 + zs sg 4 (i + 1) + zs sg 4 (nx sg i)) (hw : wf sg d (i + 1) = true) (hw2 : wf sg d (nx sg i) = true) (ih : WlP N t cn sg S w h ms cr d (i + 1)) (ih2 : WlP N t cn sg S w h ms cr d (nx sg i)) : WlP N t cn sg S w h ms cr (d + 1) i := by
  intro D x fr B k β ds m hD hx hfr hfx hi hG hA hAB hB hq
  have hzp := zs_pos sg 4 (i + 1)
  have hzp2 := zs_pos sg 4 (nx sg i)
  have hnx : nx sg i = i + 1 + zs sg 4 (i + 1) := rfl
  have hcn := hX.1
  have hic : i < cn := by omega
  rw [mul4] at hB
  obtain ⟨D, rfl⟩ : ∃ D', D = D' + 1 := ⟨D - 1, by omega⟩
  by_cases c20 : ds.length ≤ 20
  · have hh := walk_head (N := N) (D := D) (x := x) (fr := fr) ht hX (show x ≤ 4 by omega) hic c20 hG hq
    rw [hh, if_neg (by omega), if_neg (by omega), if_pos hs, gr_cho hs]
    have ht1 := (tC hG.1 t ht).1
    have hW0 : isW (122 + 4 * x + 0) := by unfold isW; omega
    have hW1 : isW (122 + 4 * x + 1) := by unfold isW; omega
    have ea : f_X5_aheadRow shC 112 (x : Int) 0 fr m = some (122 + 4 * x + 0) := s_ahead hG.1 (by omega) (by decide)
    have ea1 : f_X5_aheadRow shC 112 (x : Int) 1 fr m = some (122 + 4 * x + 1) := s_ahead hG.1 (by omega) (by decide)
    obtain ⟨M1, a1, a2, a3⟩ := look_all (N := N) (ms := ms) hN ht hT hms hX hcr d (by omega) (i + 1) hw 8 (x + 1) fr (122 + 4 * x + 0) B β m (by omega) (by omega) hfr hW0 (by omega) (by omega) (by omega) (by omega) hG hA hAB (by omega)
    have hG1 := a3.G hG ht hW0 (by omega)
    have hA1 : TBc M1 S w h cr fr β := hA.same (fun j => a3 fr (by omega) (by omega) j)
    obtain ⟨v, ev, hv⟩ := s_second hG1.1 ht hX hG1.2.1 hic
    obtain rfl := hv (by omega)
    obtain ⟨M2, b1, b2, b3⟩ := look_all (N := N) (ms := ms) hN ht hT hms hX hcr d (by omega) (nx sg i) hw2 8 (x + 1) fr (122 + 4 * x + 1) B β M1 (by omega) (by omega) hfr hW1 (by omega) (by omega) (by omega) (by omega) hG1 hA1 hAB (by omega)
    have hG2 := b3.G hG1 ht hW1 (by omega)
    have hA2 : TBc M2 S w h cr fr β := hA1.same (fun j => b3 fr (by omega) (by omega) j)
    have a2' : TBc M2 S w h cr (122 + 4 * x + 0) (lk S w h ms sg d (i + 1) β) := a2.same (fun j => b3 _ (by omega) (by omega) j)
    have f2 : FrC m M2 x := (a3.C (x := x) (by omega) (by omega)).tr (b3.C (x := x) (by omega) (by omega)) (Nat.le_refl _)
    have q2 := b3.Q hW1 (a3.Q hW0 hq)
    obtain ⟨⟨c, rk, e1⟩, -, -⟩ := q2.1 c20
    have h1 := s_here hT hW0 a2' rk e1
    have h2 := s_here hT hW1 b2 rk e1
    have hd0 : f_X5_walkOne N shC (f_X5_walk N shC D) 112 (i : Int) (x : Int) fr m = (if (lk S w h ms sg d (i + 1) β k : Int) < (lk S w h ms sg d (nx sg i) β k : Int) then f_X5_walkOne_b74 N shC (f_X5_walk N shC D) 112 (i : Int) (x : Int) fr 0 M2 else f_X5_walkOne_b74 N shC (f_X5_walk N shC D) 112 (i : Int) (x : Int) fr 1 M2) := by
      unfold f_X5_walkOne
      rw [jck_ok sC112, Option.bind_some, ea, Option.bind_some, Option.bind_some, ea1, Option.bind_some, jrf_ok sC112, Option.bind_some, hG.2.2.2.1, Int.toNat_natCast, jck_ok ht1, Option.bind_some, s_first (by omega), Option.bind_some, Option.bind_some, jw_succ (by omega), a1, Option.bind_some, jrf_ok sC112, Option.bind_some, hG1.2.2.2.1, Int.toNat_natCast, jck_ok ht1, Option.bind_some, ev, Option.bind_some, Option.bind_some, b1, Option.bind_some, Option.bind_some, h1, Option.bind_some, Option.bind_some, h2, Option.bind_some]
    rw [hd0]
    by_cases cc : lk S w h ms sg d (i + 1) β k < lk S w h ms sg d (nx sg i) β k
    · have eg : gCh (lk S w h ms sg d (i + 1)) (lk S w h ms sg d (nx sg i)) (gr S w h ms sg d (i + 1)) (gr S w h ms sg d (nx sg i)) β k = ((gr S w h ms sg d (nx sg i) β k).1, 1 :: (gr S w h ms sg d (nx sg i) β k).2) := if_pos cc
      obtain ⟨M3, p1, p2, p3, -⟩ := s_put (d := 1) (x := x) hG2.1 c20 q2
      have hG3 := p3.G hG2 ht
      have hA3 : TBc M3 S w h cr fr β := hA2.same (fun j => p3.1 fr (by unfold isW at hfr; omega) (by unfold isW at hfr; omega) (by omega) (by omega) j)
      obtain ⟨M4, c1, c2, c3⟩ := ih2 D (x + 1) fr B k β _ M3 (by omega) (by omega) hfr (by omega) (by omega) hG3 hA3 hAB (by omega) p2
      obtain ⟨v2, ev2, hv2⟩ := s_second hG3.1 ht hX hG3.2.1 hic
      obtain rfl := hv2 (by omega)
      rw [if_pos (by omega), eg]
      refine ⟨M4, ?_, ?_, (f2.tr p3 (Nat.le_refl _)).tr c3 (by omega)⟩
      · have p1 : f_X5_put shC 112 1 M2 = some M3 := p1
        unfold f_X5_walkOne_b74 f_X5_walkOne_b87 f_X5_walkOne_b115
        rw [if_pos rfl, jck_ok sC112, Option.bind_some, p1, Option.bind_some, if_pos rfl, jrf_ok sC112, Option.bind_some, hG3.2.2.2.1, Int.toNat_natCast, jck_ok ht1, Option.bind_some, ev2, Option.bind_some, Option.bind_some, jw_succ (by omega), c1, Option.bind_some, Option.bind_some]
      · rw [List.append_assoc] at c2
        exact c2
    · have eg : gCh (lk S w h ms sg d (i + 1)) (lk S w h ms sg d (nx sg i)) (gr S w h ms sg d (i + 1)) (gr S w h ms sg d (nx sg i)) β k = ((gr S w h ms sg d (i + 1) β k).1, 0 :: (gr S w h ms sg d (i + 1) β k).2) := if_neg cc
      obtain ⟨M3, p1, p2, p3, -⟩ := s_put (d := 0) (x := x) hG2.1 c20 q2
      have hG3 := p3.G hG2 ht
      have hA3 : TBc M3 S w h cr fr β := hA2.same (fun j => p3.1 fr (by unfold isW at hfr; omega) (by unfold isW at hfr; omega) (by omega) (by omega) j)
      obtain ⟨M4, c1, c2, c3⟩ := ih D (x + 1) fr B k β _ M3 (by omega) (by omega) hfr (by omega) (by omega) hG3 hA3 hAB (by omega) p2
      rw [if_neg (by omega), eg]
      refine ⟨M4, ?_, ?_, (f2.tr p3 (Nat.le_refl _)).tr c3 (by omega)⟩
      · have p1 : f_X5_put shC 112 0 M2 = some M3 := p1
        unfold f_X5_walkOne_b74 f_X5_walkOne_b87 f_X5_walkOne_b115
        rw [if_neg (by decide), jck_ok sC112, Option.bind_some, p1, Option.bind_some, if_neg (by decide), jrf_ok sC112, Option.bind_some, hG3.2.2.2.1, Int.toNat_natCast, jck_ok ht1, Option.bind_some, s_first (by omega), Option.bind_some, Option.bind_some, jw_succ (by omega), c1, Option.bind_some, Option.bind_some]
      · rw [List.append_assoc] at c2
        exact c2
  · exact walk_stop (t := t) (cn := cn) (by omega) (by omega) hq
