theorem mul4 {ms d : Nat} : (ms + 1) * 4 ^ (d + 1) = 4 * ((ms + 1) * 4 ^ d) := by
  have e1 : 4 ^ (d + 1) = 4 * 4 ^ d := by rw [Nat.pow_succ, Nat.mul_comm]
  rw [e1, Nat.mul_left_comm]
theorem jn_congr {W : Bool} {T U T' U' : Tb} {k : Nat} (h1 : T k = T' k) (h2 : U k = U' k) : jn W T U k = jn W T' U' k := by
  unfold jn
  simp only [h1, h2]
theorem FrK.k25 {m M : jm_M} {pl : Nat} (h : FrK m M pl) (j : Nat) (hj : j = 18 ∨ j = 19) : M 1 j = m 1 j := h.2.1 j (by omega) (by omega) (by omega) (by omega) (by omega)
theorem wk_choM {N p cn : Nat} {sg : Nat → Int} {S w h ms : Nat} {W : Bool} (hN : 1000 ≤ N) (hp : p < 4) (hX : TX cn sg) (hS : isS S) {d i : Nat} (hs : sg i = 63) (hz : zs sg 4 i = 1 + zs sg 4 (i + 1) + zs sg 4 (nx sg i)) (hd4 : d ≤ 4) (hwf : wf sg d (i + 1) = true) (ih : WkP N p cn sg S w h ms W d (i + 1)) (ih2 : WkP N p cn sg S w h ms W d (nx sg i)) : WkP N p cn sg S w h ms W (d + 1) i := by
  intro pl n B q m hpl hi hok hB hB2 hG hWT h12 h25 hn
  have hcn := hX.1
  have hzp := zs_pos sg 4 (i + 1)
  have hzp2 := zs_pos sg 4 (nx sg i)
  have hnx : nx sg i = i + 1 + zs sg 4 (i + 1) := rfl
  have hic : i < cn := by omega
  have hn : 6 + 5 * stp d < n := hn
  rw [mul4] at hB2
  have hK6 := (KN_le hS).1
  obtain ⟨n, rfl⟩ : ∃ n', n = n' + 1 := ⟨n - 1, by omega⟩
  obtain ⟨g1, g2, g3, g4, g5, g6⟩ := id hG
  rw [wl_begin h25, wk_cho hs]
  have hF0 : MF (jm_up m 1 25 (-6)) := g1.up n1M.2.2.2.2.2.2.2.2
  have hfr0 : FrK m (jm_up m 1 25 (-6)) pl := (FrK.rf m pl).f1 (by omega)
  have hWT0 : WT (jm_up m 1 25 (-6)) S q := hWT.f1 (by decide)
  have e12 : jm_up m 1 25 (-6) 1 12 = (pl : Int) := by rw [up_nk (by decide)]; exact h12
  have hhead : f_X12_begin N shM 1 m = Option.bind (f_X12_digit shM 1 2 (jm_up m 1 25 (-6))) (fun q39 => if q39.1 < 0 then f_X12_begin_b86 N shM 1 ((30 * p + i : Nat) : Int) q39.1 1 ((30 * p + i : Nat) : Int) 0 q39.2 else f_X12_begin_b86 N shM 1 ((30 * p + i : Nat) : Int) q39.1 1 ((30 * p + i : Nat) : Int) 5 q39.2) := by
    unfold f_X12_begin
    rw [jrf_ok sM1, Option.bind_some, jrf_ok sM1, Option.bind_some, g1.t4, h25, jra_ok sM5 (by omega) (by omega), Option.bind_some, Int.toNat_natCast, (g4 i hic).1, jwf_ok sM1, Option.bind_some, sM_in, Option.bind_some, ifb, if_neg (by omega), if_neg (by omega), if_pos hs, jck_ok sM1, Option.bind_some]
  obtain ⟨T, fs, fm⟩ := q
  cases fs with
  | nil =>
    rw [hhead, sM_digit0 hWT0, Option.bind_some]
    dsimp only
    rw [if_pos (by decide)]
    generalize hD : jm_up (jm_up m 1 25 (-6)) 1 23 (dgF 2 fm) = D
    have hFD : MF D := by rw [← hD]; exact hF0.up n1M.2.2.2.2.2.2.2.1
    have hfrD : FrK m D pl := by rw [← hD]; exact hfr0.f1 (by omega)
    have hWTD : WT D S (T, [], dgF 2 fm) := by
      rw [← hD]
      obtain ⟨a, b, t, c, dd, e, f⟩ := hWT0
      exact ⟨fun k hk => (up_ne (by decide)).trans (a k hk), up_eq, t, (up_nk (by decide)).trans c, (up_nk (by decide)).trans dd, trivial, f⟩
    have eD12 : D 1 12 = (pl : Int) := by rw [← hD, up_nk (by decide)]; exact e12
    generalize hP : piM D pl ((30 * p + i : Nat) : Int) 0 0 = P
    have hPi := piM_at (m := D) (pl := pl) (at' := ((30 * p + i : Nat) : Int)) (st := 0) (lf := 0)
    rw [hP] at hPi
    have hfrP : FrK m P pl := by rw [← hP]; exact hfrD.tr FrK.pi (Nat.le_refl _)
    have hWTP : WT P S (T, [], dgF 2 fm) := by rw [← hP]; exact hWTD.pi
    have hGP := hG.fr hfrP
    obtain ⟨Q, k1, k2, k3, k4, k5⟩ := sM_keep (N := N) (K := KN S) (a1 := 14) (f := pl) hN hGP.1 hGP.2.2.2.2.1 hK6 (Or.inl rfl) (by omega)
    have hfrQ : FrK P Q pl := FrK.ko (Or.inl rfl) k4 (fun j hj => k5 j (Or.inl hj))
    have hWTQ : WT Q S (T, [], dgF 2 fm) := hWTP.same (fun k _ => k4 10 (by decide) k) (fun j _ => k4 1 (by decide) j) (k4 16 (by decide))
    have hb86 : f_X12_begin_b86 N shM 1 ((30 * p + i : Nat) : Int) (-6) 1 ((30 * p + i : Nat) : Int) 0 D = some (jm_up Q 1 25 ((30 * p + (i + 1) : Nat) : Int)) := by
      unfold f_X12_begin_b86
      rw [jck_ok sM1, Option.bind_some, sM_pile hFD eD12 (by omega), Option.bind_some, hP, if_pos (by decide), jrf_ok sM1, Option.bind_some, jrf_ok sM1, Option.bind_some, hGP.1.t16, hPi.2.2.2.1, Option.bind_some, jw_eq (x := ((pl + 1 : Nat) : Int) - 1) (by omega) (by omega), show ((pl + 1 : Nat) : Int) - 1 = (pl : Int) by omega, k1, Option.bind_some]
      unfold f_X12_begin_b108 f_X12_begin_b132
      rw [if_neg (by decide), jw_eq (by omega) (by omega), show ((30 * p + i : Nat) : Int) + 1 = ((30 * p + (i + 1) : Nat) : Int) by omega, jwf_ok sM1, Option.bind_some]
    rw [hb86, Option.bind_some]
    have hfr1 : FrK m (jm_up Q 1 25 ((30 * p + (i + 1) : Nat) : Int)) pl := (hfrP.tr hfrQ (Nat.le_refl _)).f1 (by omega)
    obtain ⟨M1, n1, r1, r2, r3, r4, r5, r6, r7⟩ := ih (pl + 1) n B (T, [], dgF 2 fm) (jm_up Q 1 25 ((30 * p + (i + 1) : Nat) : Int)) (by omega) (by omega) okF_nil hB (by omega) (hG.fr hfr1) (hWTQ.f1 (by decide)) (by rw [up_nk (by decide), k4 1 (by decide)]; exact hPi.2.2.2.1) up_eq (by omega)
    obtain ⟨n1, rfl⟩ : ∃ n', n1 = n' + 1 := ⟨n1 - 1, by omega⟩
    have hE1 : PE M1 pl (30 * p + i) 0 := ⟨by rw [(r7.2.2.1 pl (by omega)).1, up_ne (by decide), k4 11 (by decide)]; exact hPi.1, by rw [(r7.2.2.1 pl (by omega)).2.1, up_ne (by decide), k4 12 (by decide)]; exact hPi.2.1, r5⟩
    have hkept : ∀ k, k < KN S → M1 14 (625 * pl + k) = T k := fun k hk => by rw [(r7.2.2.2 (625 * pl + k) (by omega)).1, up_ne (by decide), k3 k hk, hWTP.1 k hk]
    -- come: the second text
    obtain ⟨Q1, o1, o2, o3, o4, o5⟩ := sM_keep (N := N) (K := KN S) (a1 := 15) (f := pl) hN r3.1 r3.2.2.2.2.1 hK6 (Or.inr rfl) (by omega)
    have hfrQ1 : FrK M1 Q1 pl := FrK.ko (Or.inr rfl) o4 (fun j hj => o5 j (Or.inl hj))
    obtain ⟨Q2, c1, c2, c3, c4⟩ := sM_copyT (N := N) (K := KN S) (a1 := 14) (f := pl) (m := Q1) hN o2 (by rw [o4 1 (by decide)]; exact r3.2.2.2.2.1) hK6 (Or.inl rfl) (by omega)
    have hfrQ2 : FrK Q1 Q2 pl := FrK.r10 c4
    have hGQ2 := (r3.fr hfrQ1).fr hfrQ2
    have hcome : f_X12_come N shM 1 M1 = some (jm_up (jm_up Q2 12 pl 1) 1 25 ((30 * p + nx sg i : Nat) : Int)) := by
      rw [come_top r3 hp hcn hic (by omega) hE1, if_neg (by omega)]
      unfold f_X12_come_b36
      rw [if_pos hs, jrf_ok sM1, Option.bind_some, r3.1.t14, jra_ok sM12 (by omega) (by omega), Option.bind_some, Int.toNat_natCast, hE1.2.1, if_pos rfl]
      unfold f_X12_come_b51
      rw [if_pos hs, jrf_ok sM1, Option.bind_some, r3.1.t17, jck_ok sM1, Option.bind_some, o1, Option.bind_some, jrf_ok sM1, Option.bind_some, o2.t16, Option.bind_some, c1, Option.bind_some, come_b75 hGQ2 hp hX (by omega) (by omega)]
    rw [r1, wl_come r6 r5, hcome, Option.bind_some]
    have hWT2 : WT Q2 S (T, (wk W S w h ms sg d (i + 1) (T, [], dgF 2 fm)).2) := r4.tab (fun k hk => by rw [c3 k hk, o4 14 (by decide)]; exact hkept k hk) (fun j _ => by rw [c4 1 (by decide), o4 1 (by decide)]) (fun j => by rw [c4 16 (by decide), o4 16 (by decide)])
    have hfr2 : FrK Q2 (jm_up (jm_up Q2 12 pl 1) 1 25 ((30 * p + nx sg i : Nat) : Int)) pl := ((FrK.rf Q2 pl).fr (by omega) (Nat.le_refl _)).f1 (by omega)
    have hbd := wk_bd (W := W) (S := S) (w := w) (h := h) (ms := ms) d hd4 (i + 1) hwf B (T, [], dgF 2 fm) okF_nil hB
    obtain ⟨M2, n2, t1, t2, t3, t4, t5, t6, t7⟩ := ih2 (pl + 1) n1 B (T, (wk W S w h ms sg d (i + 1) (T, [], dgF 2 fm)).2) (jm_up (jm_up Q2 12 pl 1) 1 25 ((30 * p + nx sg i : Nat) : Int)) (by omega) (by omega) hbd.2.1 hB (by omega) (hGQ2.fr hfr2) ((hWT2.row (by decide)).f1 (by decide)) (by rw [up_nk (by decide), up_ne (by decide), c4 1 (by decide), o4 1 (by decide)]; exact r5) up_eq (by omega)
    obtain ⟨n2, rfl⟩ : ∃ n', n2 = n' + 1 := ⟨n2 - 1, by omega⟩
    have hE2 : PE M2 pl (30 * p + i) 1 := ⟨by rw [(t7.2.2.1 pl (by omega)).1, up_ne (by decide), up_ne (by decide), c4 11 (by decide), o4 11 (by decide)]; exact hE1.1, by rw [(t7.2.2.1 pl (by omega)).2.1, up_ne (by decide), up_eq], t5⟩
    have hoth : ∀ k, k < KN S → M2 15 (625 * pl + k) = (wk W S w h ms sg d (i + 1) (T, [], dgF 2 fm)).1 k := fun k hk => by rw [(t7.2.2.2 (625 * pl + k) (by omega)).2, up_ne (by decide), up_ne (by decide), c4 15 (by decide), o3 k hk, r4.1 k hk]
    obtain ⟨Q3, j1, j2, j3, j4⟩ := sM_joinT (N := N) (K := KN S) (a1 := 15) (f := pl) (m := M2) (W := W) hN t3.1 t3.2.2.2.2.1 t3.2.2.2.2.2 hK6 (Or.inr rfl) (by omega)
    have hfrQ3 : FrK M2 Q3 pl := FrK.r10 j4
    have hc2 : f_X12_come N shM 1 M2 = some (jm_up Q3 1 12 (pl : Int)) := by
      rw [come_top t3 hp hcn hic (by omega) hE2, if_neg (by omega)]
      unfold f_X12_come_b36
      rw [if_pos hs, jrf_ok sM1, Option.bind_some, t3.1.t14, jra_ok sM12 (by omega) (by omega), Option.bind_some, Int.toNat_natCast, hE2.2.1, if_neg (by decide)]
      unfold f_X12_come_b99 f_X12_come_b124
      rw [if_pos hs, jrf_ok sM1, Option.bind_some, t3.1.t14, jra_ok sM12 (by omega) (by omega), Option.bind_some, Int.toNat_natCast, hE2.2.1, if_pos rfl, jrf_ok sM1, Option.bind_some, t3.1.t17, jck_ok sM1, Option.bind_some, j1, Option.bind_some, sM_isLoop, Option.bind_some, ifb, if_neg (by omega), come_b220 (by rw [j4 1 (by decide)]; exact t5) (by omega)]
    rw [t1, wl_come t6 t5, hc2, Option.bind_some]
    have hfr3 : FrK Q3 (jm_up Q3 1 12 (pl : Int)) pl := (FrK.rf Q3 pl).f1 (by omega)
    have hWT3 : WT Q3 S (jn W (wk W S w h ms sg d (nx sg i) (T, (wk W S w h ms sg d (i + 1) (T, [], dgF 2 fm)).2)).1 (wk W S w h ms sg d (i + 1) (T, [], dgF 2 fm)).1, (wk W S w h ms sg d (nx sg i) (T, (wk W S w h ms sg d (i + 1) (T, [], dgF 2 fm)).2)).2) := t4.tab (fun k hk => (j3 k hk).trans (jn_congr (t4.1 k hk) (hoth k hk))) (fun j _ => j4 1 (by decide) j) (j4 16 (by decide))
    refine ⟨_, n2, rfl, by show n + 1 ≤ n2 + (6 + 5 * stp d); omega, (t3.fr hfrQ3).fr hfr3, hWT3.f1 (by decide), up_eq, by rw [up_nk (by decide), j4 1 (by decide)]; exact t6, ?_⟩
    exact (((((((hfr1.tr r7 (by omega)).tr hfrQ1 (by omega)).tr hfrQ2 (by omega)).tr hfr2 (by omega)).tr t7 (by omega)).tr hfrQ3 (by omega)).tr hfr3 (by omega))
  | cons x r =>
    obtain ⟨D, dg1, hWTD, vD, eD⟩ := sM_digit1 (may := 2) hF0 hWT0
    rw [hhead, dg1, Option.bind_some]
    dsimp only
    rw [if_neg (by omega)]
    have hfrD : FrK m D pl := by rw [eD]; exact hfr0.f1 (by omega)
    have hFD : MF D := hfrD.MF g1
    have eD12 : D 1 12 = (pl : Int) := by rw [eD, up_nk (by decide)]; exact e12
    generalize hP : piM D pl ((30 * p + i : Nat) : Int) 5 0 = P
    have hPi := piM_at (m := D) (pl := pl) (at' := ((30 * p + i : Nat) : Int)) (st := 5) (lf := 0)
    rw [hP] at hPi
    have hfrP : FrK m P pl := by rw [← hP]; exact hfrD.tr FrK.pi (Nat.le_refl _)
    have hWTP : WT P S (T, r, fm) := by rw [← hP]; exact hWTD.pi
    have hGP := hG.fr hfrP
    have hz1 := (hX.node (show i + 1 < cn by omega)).2
    have hb86 : f_X12_begin_b86 N shM 1 ((30 * p + i : Nat) : Int) (x : Int) 1 ((30 * p + i : Nat) : Int) 5 D = some (jm_up P 1 25 ((30 * p + (if x = 1 then nx sg i else i + 1) : Nat) : Int)) := by
      unfold f_X12_begin_b86
      rw [jck_ok sM1, Option.bind_some, sM_pile hFD eD12 (by omega), Option.bind_some, hP, if_neg (by omega)]
      unfold f_X12_begin_b108 f_X12_begin_b132
      by_cases c : x = 1
      · rw [if_pos (by omega), if_pos c, jrf_ok sM1, Option.bind_some, hGP.1.t5, jw_eq (x := ((30 * p + i : Nat) : Int) + 1) (by omega) (by omega), show ((30 * p + i : Nat) : Int) + 1 = ((30 * p + (i + 1) : Nat) : Int) by omega, jra_ok sM6 (by omega) (by omega), Option.bind_some, Int.toNat_natCast, (hGP.2.2.2.1 (i + 1) (by omega)).2, jw_eq (by omega) (by omega), show ((30 * p + (i + 1) : Nat) : Int) + (zs sg 4 (i + 1) : Int) = ((30 * p + nx sg i : Nat) : Int) by omega, jwf_ok sM1, Option.bind_some]
      · rw [if_neg (by omega), if_neg c, jw_eq (by omega) (by omega), show ((30 * p + i : Nat) : Int) + 1 = ((30 * p + (i + 1) : Nat) : Int) by omega, jwf_ok sM1, Option.bind_some]
    rw [hb86, Option.bind_some]
    have hfr1 : FrK m (jm_up P 1 25 ((30 * p + (if x = 1 then nx sg i else i + 1) : Nat) : Int)) pl := hfrP.f1 (by omega)
    have hmid : ∃ M1 n1, wl N n (jm_up P 1 25 ((30 * p + (if x = 1 then nx sg i else i + 1) : Nat) : Int)) = wl N n1 M1 ∧ n ≤ n1 + stp d ∧ GW M1 p cn sg S w h ms W ∧ WT M1 S (if x = 1 then wk W S w h ms sg d (nx sg i) (T, r, fm) else wk W S w h ms sg d (i + 1) (T, r, fm)) ∧ M1 1 12 = ((pl + 1 : Nat) : Int) ∧ M1 1 25 = -6 ∧ FrK (jm_up P 1 25 ((30 * p + (if x = 1 then nx sg i else i + 1) : Nat) : Int)) M1 (pl + 1) := by
      by_cases c : x = 1
      · rw [if_pos c, if_pos c]
        rw [if_pos c] at hfr1
        exact ih2 (pl + 1) n B (T, r, fm) _ (by omega) (by omega) (okF.tl hok) hB (by omega) (hG.fr hfr1) (hWTP.f1 (by decide)) (by rw [up_nk (by decide)]; exact hPi.2.2.2.1) up_eq (by omega)
      · rw [if_neg c, if_neg c]
        rw [if_neg c] at hfr1
        exact ih (pl + 1) n B (T, r, fm) _ (by omega) (by omega) (okF.tl hok) hB (by omega) (hG.fr hfr1) (hWTP.f1 (by decide)) (by rw [up_nk (by decide)]; exact hPi.2.2.2.1) up_eq (by omega)
    obtain ⟨M1, n1, r1, r2, r3, r4, r5, r6, r7⟩ := hmid
    obtain ⟨n1, rfl⟩ : ∃ n', n1 = n' + 1 := ⟨n1 - 1, by omega⟩
    have hE1 : PE M1 pl (30 * p + i) 5 := ⟨by rw [(r7.2.2.1 pl (by omega)).1, up_ne (by decide)]; exact hPi.1, by rw [(r7.2.2.1 pl (by omega)).2.1, up_ne (by decide)]; exact hPi.2.1, r5⟩
    have hc2 : f_X12_come N shM 1 M1 = some (jm_up M1 1 12 (pl : Int)) := by
      rw [come_top r3 hp hcn hic (by omega) hE1, if_neg (by omega)]
      unfold f_X12_come_b36
      rw [if_pos hs, jrf_ok sM1, Option.bind_some, r3.1.t14, jra_ok sM12 (by omega) (by omega), Option.bind_some, Int.toNat_natCast, hE1.2.1, if_neg (by decide)]
      unfold f_X12_come_b99 f_X12_come_b124
      rw [if_pos hs, jrf_ok sM1, Option.bind_some, r3.1.t14, jra_ok sM12 (by omega) (by omega), Option.bind_some, Int.toNat_natCast, hE1.2.1, if_neg (by decide), sM_isLoop, Option.bind_some, ifb, if_neg (by omega), come_b220 r5 (by omega)]
    rw [r1, wl_come r6 r5, hc2, Option.bind_some]
    have hfr3 : FrK M1 (jm_up M1 1 12 (pl : Int)) pl := (FrK.rf M1 pl).f1 (by omega)
    exact ⟨_, n1, rfl, by show n + 1 ≤ n1 + (6 + 5 * stp d); omega, r3.fr hfr3, r4.f1 (by decide), up_eq, by rw [up_nk (by decide)]; exact r6, (hfr1.tr r7 (by omega)).tr hfr3 (by omega)⟩
