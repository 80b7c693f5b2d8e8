theorem TB.lp {K B : Nat} {T : Tb} (h : TB K B T) (C : Nat) : TB K (B + C) T := h.mono (by omega)
theorem wk_loopM {N p cn : Nat} {sg : Nat → Int} {S w h ms : Nat} {W : Bool} (hN : 1000 ≤ N) (hp : p < 4) (hX : TX cn sg) (hS : isS S) {d i : Nat} (hs : 98 ≤ sg i ∧ sg i ≤ 100) (hz : zs sg 4 i = 1 + zs sg 4 (i + 1)) (hd4 : d ≤ 4) (hwf : wf sg d (i + 1) = true) (ih : WkP N p cn sg S w h ms W d (i + 1)) : WkP N p cn sg S w h ms W (d + 1) i := by
  intro pl n B q m hpl hi hok hB hB2 hG hWT h12 h25 hn
  have hcn := hX.1
  have hzp := zs_pos sg 4 (i + 1)
  have hic : i < cn := by omega
  have hn : 6 + 5 * stp d < n := hn
  rw [mul4] at hB2
  have hK6 := (KN_le hS).1
  have htm := tm_le hs
  have hbdW := wk_bd (W := W) (S := S) (w := w) (h := h) (ms := ms) d hd4 (i + 1) hwf
  obtain ⟨n, rfl⟩ : ∃ n', n = n' + 1 := ⟨n - 1, by omega⟩
  obtain ⟨g1, g2, g3, g4, g5, g6⟩ := id hG
  rw [wl_begin h25, wk_loop hs]
  have hF0 : MF (jm_up m 1 25 (-6)) := g1.up n1M.2.2.2.2.2.2.2.2
  have hfr0 : FrK m (jm_up m 1 25 (-6)) pl := (FrK.rf m pl).f1 (by omega)
  have hWT0 : WT (jm_up m 1 25 (-6)) S q := hWT.f1 (by decide)
  have e12 : jm_up m 1 25 (-6) 1 12 = (pl : Int) := by rw [up_nk (by decide)]; exact h12
  have etm : jw (jw (sg i - 98) + 2) = (tmO (sg i) : Int) := by rw [jw_eq (x := sg i - 98) (by omega) (by omega), jw_eq (by omega) (by omega)]; unfold tmO; omega
  have hhead : f_X12_begin N shM 1 m = Option.bind (f_X12_digit shM 1 ((tmO (sg i) + 1 : Nat) : Int) (jm_up m 1 25 (-6))) (fun q48 => if q48.1 = 0 then some q48.2 else if q48.1 < 0 then f_X12_begin_b176 N shM 1 ((30 * p + i : Nat) : Int) (tmO (sg i) : Int) q48.1 1 ((30 * p + i : Nat) : Int) 0 q48.2 else f_X12_begin_b176 N shM 1 ((30 * p + i : Nat) : Int) (tmO (sg i) : Int) q48.1 1 ((30 * p + i : Nat) : Int) 5 q48.2) := by
    unfold f_X12_begin
    rw [jrf_ok sM1, Option.bind_some, jrf_ok sM1, Option.bind_some, g1.t4, h25, jra_ok sM5 (by omega) (by omega), Option.bind_some, Int.toNat_natCast, (g4 i hic).1, jwf_ok sM1, Option.bind_some, sM_in, Option.bind_some, ifb, if_neg (by omega), if_neg (by omega), if_neg (by omega), sM_isLoop, Option.bind_some, ifb, if_pos hs]
    unfold f_X12_timesOf
    rw [Option.bind_some, jck_ok sM1, Option.bind_some, etm, jw_succ (by omega)]
  -- a loop on top of the pile: its text is done once more
  have comeL : ∀ (M : jm_M) (st : Int) (lf : Nat), GW M p cn sg S w h ms W → PE M pl (30 * p + i) st → M 13 pl = ((lf + 1 : Nat) : Int) → lf ≤ 4 → f_X12_come N shM 1 M = f_X12_come_b155 N shM 1 (pl : Int) ((30 * p + i : Nat) : Int) (if st = 0 then 1 else 0) (jm_up M 13 pl (lf : Int)) := by
    intro M st lf hGM hE h13 hlf
    have u1 : MF (jm_up M 13 pl (lf : Int)) := hGM.1.upr rM_rows.2.2.2.2.2.2.2.2.2.2.2.1
    rw [come_top hGM hp hcn hic (by omega) hE, if_neg (by omega)]
    unfold f_X12_come_b36 f_X12_come_b99 f_X12_come_b124
    rw [if_neg (by omega), if_neg (by omega), sM_isLoop, Option.bind_some, ifb, if_pos hs, jrf_ok sM1, Option.bind_some, hGM.1.t15, jra_ok sM13 (by omega) (by omega), Option.bind_some, Int.toNat_natCast, h13, jw_eq (x := ((lf + 1 : Nat) : Int) - 1) (by omega) (by omega), show ((lf + 1 : Nat) : Int) - 1 = (lf : Int) by omega, jwa_ok sM13 (by omega) (by omega), Option.bind_some, Int.toNat_natCast, jrf_ok sM1, Option.bind_some, u1.t14, jra_ok sM12 (by omega) (by omega), Option.bind_some, Int.toNat_natCast, up_ne (by decide), hE.2.1]
    by_cases c : st = 0
    · rw [if_pos c, if_pos c]
    · rw [if_neg c, if_neg c]
  obtain ⟨T, fs, fm⟩ := q
  cases fs with
  | nil =>
    rw [hhead, sM_digit0 hWT0, Option.bind_some]
    dsimp only
    rw [if_neg (by decide), if_pos (by decide)]
    generalize hfm : dgF ((tmO (sg i) + 1 : Nat) : Int) fm = fm1
    generalize hD : jm_up (jm_up m 1 25 (-6)) 1 23 fm1 = D
    have hFD : MF D := by rw [← hD]; exact hF0.up n1M.2.2.2.2.2.2.2.1
    have hfrD : FrK m D pl := by rw [← hD]; exact hfr0.f1 (by omega)
    have hWTD : WT D S (T, [], fm1) := by
      rw [← hD]
      obtain ⟨a, b, t, c, dd, e, f⟩ := hWT0
      exact ⟨fun k hk => (up_ne (by decide)).trans (a k hk), up_eq, t, (up_nk (by decide)).trans c, (up_nk (by decide)).trans dd, trivial, f⟩
    have eD12 : D 1 12 = (pl : Int) := by rw [← hD, up_nk (by decide)]; exact e12
    generalize hP : piM D pl ((30 * p + i : Nat) : Int) 0 (tmO (sg i) : Int) = P
    have hPi := piM_at (m := D) (pl := pl) (at' := ((30 * p + i : Nat) : Int)) (st := 0) (lf := (tmO (sg i) : Int))
    rw [hP] at hPi
    have hfrP : FrK m P pl := by rw [← hP]; exact hfrD.tr FrK.pi (Nat.le_refl _)
    have hWTP : WT P S (T, [], fm1) := by rw [← hP]; exact hWTD.pi
    have hGP := hG.fr hfrP
    obtain ⟨Q, k1, k2, k3, k4, k5⟩ := sM_keep (N := N) (K := KN S) (a1 := 14) (f := pl) hN hGP.1 hGP.2.2.2.2.1 hK6 (Or.inl rfl) (by omega)
    have hfrQ : FrK P Q pl := FrK.ko (Or.inl rfl) k4 (fun j hj => k5 j (Or.inl hj))
    have hWTQ : WT Q S (T, [], fm1) := hWTP.same (fun k _ => k4 10 (by decide) k) (fun j _ => k4 1 (by decide) j) (k4 16 (by decide))
    have hb176 : f_X12_begin_b176 N shM 1 ((30 * p + i : Nat) : Int) (tmO (sg i) : Int) (-6) 1 ((30 * p + i : Nat) : Int) 0 D = some (jm_up Q 1 25 ((30 * p + (i + 1) : Nat) : Int)) := by
      unfold f_X12_begin_b176 f_X12_begin_b187
      rw [if_pos (by decide), jck_ok sM1, Option.bind_some, sM_pile hFD eD12 (by omega), Option.bind_some, hP, if_pos (by decide), jrf_ok sM1, Option.bind_some, jrf_ok sM1, Option.bind_some, hGP.1.t16, hPi.2.2.2.1, Option.bind_some, jw_eq (x := ((pl + 1 : Nat) : Int) - 1) (by omega) (by omega), show ((pl + 1 : Nat) : Int) - 1 = (pl : Int) by omega, k1, Option.bind_some]
      unfold f_X12_begin_b209
      rw [jw_eq (by omega) (by omega), show ((30 * p + i : Nat) : Int) + 1 = ((30 * p + (i + 1) : Nat) : Int) by omega, jwf_ok sM1, Option.bind_some]
    rw [hb176, Option.bind_some]
    have hfr1 : FrK m (jm_up Q 1 25 ((30 * p + (i + 1) : Nat) : Int)) pl := (hfrP.tr hfrQ (Nat.le_refl _)).f1 (by omega)
    -- lf more times
    have loop : ∀ (lf n B' : Nat) (s : WS) (Kp : Tb) (M : jm_M), lf ≤ 3 → (lf + 1) * (stp d + 1) < n → okF s.2.1 → TB (KN S) B' s.1 → TB (KN S) B' Kp → B' + (lf + 1) * ((ms + 1) * 4 ^ d) ≤ 100000 → GW M p cn sg S w h ms W → WT M S s → PE M pl (30 * p + i) 0 → M 13 pl = ((lf + 1 : Nat) : Int) → M 1 25 = ((30 * p + (i + 1) : Nat) : Int) → (∀ k, k < KN S → M 14 (625 * pl + k) = Kp k) → FrK m M pl →
        ∃ M' n', wl N n M = wl N n' M' ∧ n ≤ n' + (lf + 1) * (stp d + 1) ∧ GW M' p cn sg S w h ms W ∧ WT M' S (lpw W (wk W S w h ms sg d (i + 1)) (lf + 1) s Kp) ∧ M' 1 12 = (pl : Int) ∧ M' 1 25 = -6 ∧ FrK m M' pl := by
      intro lf
      induction lf with
      | zero =>
        intro n B' s Kp M hlf hn hok hBs hBK hB2 hGM hWM hE h13 h25 hkp hfM
        obtain ⟨M1, n1, r1, r2, r3, r4, r5, r6, r7⟩ := ih (pl + 1) n B' s M (by omega) (by omega) hok hBs (by omega) hGM hWM hE.2.2 h25 (by omega)
        obtain ⟨n1, rfl⟩ : ∃ n', n1 = n' + 1 := ⟨n1 - 1, by omega⟩
        have hE1 : PE M1 pl (30 * p + i) 0 := ⟨by rw [(r7.2.2.1 pl (by omega)).1]; exact hE.1, by rw [(r7.2.2.1 pl (by omega)).2.1]; exact hE.2.1, r5⟩
        have h13' : M1 13 pl = ((0 + 1 : Nat) : Int) := by rw [(r7.2.2.1 pl (by omega)).2.2]; exact h13
        have hkp1 : ∀ k, k < KN S → M1 14 (625 * pl + k) = Kp k := fun k hk => by rw [(r7.2.2.2 _ (by omega)).1]; exact hkp k hk
        generalize hL : jm_up M1 13 pl ((0 : Nat) : Int) = L1
        have hfrL : FrK M1 L1 pl := by rw [← hL]; exact (FrK.rf M1 pl).fr (by omega) (Nat.le_refl _)
        have hGL := r3.fr hfrL
        have hWL : WT L1 S (wk W S w h ms sg d (i + 1) s) := by rw [← hL]; exact r4.row (by decide)
        have L10 : ∀ a, a ≠ 13 → ∀ j, L1 a j = M1 a j := fun a ha j => by rw [← hL]; exact up_ne ha
        have hL13 : L1 13 pl = ((0 : Nat) : Int) := by rw [← hL]; exact up_eq
        obtain ⟨Q1, o1, o2, o3, o4, o5⟩ := sM_keep (N := N) (K := KN S) (a1 := 15) (f := pl) hN hGL.1 hGL.2.2.2.2.1 hK6 (Or.inr rfl) (by omega)
        have hfrQ1 : FrK L1 Q1 pl := FrK.ko (Or.inr rfl) o4 (fun j hj => o5 j (Or.inl hj))
        have hGQ1 := hGL.fr hfrQ1
        obtain ⟨Q2, j1, j2, j3, j4⟩ := sM_joinT (N := N) (K := KN S) (a1 := 14) (f := pl) (m := Q1) (W := W) hN hGQ1.1 hGQ1.2.2.2.2.1 hGQ1.2.2.2.2.2 hK6 (Or.inl rfl) (by omega)
        have hfrQ2 : FrK Q1 Q2 pl := FrK.r10 j4
        have hGQ2 := hGQ1.fr hfrQ2
        obtain ⟨Q3, l1, l2, l3, l4, l5⟩ := sM_keep (N := N) (K := KN S) (a1 := 14) (f := pl) (m := Q2) hN hGQ2.1 hGQ2.2.2.2.2.1 hK6 (Or.inl rfl) (by omega)
        have hfrQ3 : FrK Q2 Q3 pl := FrK.ko (Or.inl rfl) l4 (fun j hj => l5 j (Or.inl hj))
        have hGQ3 := hGQ2.fr hfrQ3
        have hnow : ∀ k, k < KN S → Q2 10 k = jn W (wk W S w h ms sg d (i + 1) s).1 Kp k := fun k hk => by
          refine (j3 k hk).trans (jn_congr ?_ ?_)
          · show Q1 10 k = _; rw [o4 10 (by decide)]; exact hWL.1 k hk
          · show Q1 14 (625 * pl + k) = _; rw [o4 14 (by decide), L10 14 (by decide)]; exact hkp1 k hk
        have hcome : f_X12_come N shM 1 M1 = some (jm_up Q3 1 12 (pl : Int)) := by
          rw [comeL M1 0 0 r3 hE1 h13' (by decide), hL, if_pos rfl]
          unfold f_X12_come_b155 f_X12_come_b189
          rw [if_neg (by decide), jrf_ok sM1, Option.bind_some, hGL.1.t17, jck_ok sM1, Option.bind_some, o1, Option.bind_some, jrf_ok sM1, Option.bind_some, o2.t16, Option.bind_some, j1, Option.bind_some, jrf_ok sM1, Option.bind_some, j2.t16, Option.bind_some, l1, Option.bind_some, jrf_ok sM1, Option.bind_some, l2.t15, jra_ok sM13 (by omega) (by omega), Option.bind_some, Int.toNat_natCast, l4 13 (by decide), j4 13 (by decide), o4 13 (by decide), hL13, if_neg (by decide), come_b220 (by rw [l4 1 (by decide), j4 1 (by decide), o4 1 (by decide), L10 1 (by decide)]; exact r5) (by omega)]
        have hfr3 : FrK Q3 (jm_up Q3 1 12 (pl : Int)) pl := (FrK.rf Q3 pl).f1 (by omega)
        have hWT3 : WT Q3 S (lpw W (wk W S w h ms sg d (i + 1)) (0 + 1) s Kp) := hWL.tab (fun k hk => by rw [l4 10 (by decide)]; exact hnow k hk) (fun j _ => by rw [l4 1 (by decide), j4 1 (by decide), o4 1 (by decide)]) (fun j => by rw [l4 16 (by decide), j4 16 (by decide), o4 16 (by decide)])
        refine ⟨jm_up Q3 1 12 (pl : Int), n1, ?_, by omega, hGQ3.fr hfr3, hWT3.f1 (by decide), up_eq, ?_, ?_⟩
        · rw [r1, wl_come r6 r5, hcome, Option.bind_some]
        · rw [up_nk (by decide), l4 1 (by decide), j4 1 (by decide), o4 1 (by decide), L10 1 (by decide)]; exact r6
        · exact ((((((hfM.tr r7 (by omega)).tr hfrL (by omega)).tr hfrQ1 (by omega)).tr hfrQ2 (by omega)).tr hfrQ3 (by omega)).tr hfr3 (by omega))
      | succ lf ihl =>
        intro n B' s Kp M hlf hn hok hBs hBK hB2 hGM hWM hE h13 h25 hkp hfM
        have sm1 : (lf + 1 + 1) * (stp d + 1) = (lf + 1) * (stp d + 1) + (stp d + 1) := Nat.succ_mul _ _
        have sm2 : (lf + 1 + 1) * ((ms + 1) * 4 ^ d) = (lf + 1) * ((ms + 1) * 4 ^ d) + (ms + 1) * 4 ^ d := Nat.succ_mul _ _
        have hst := stp_pos d
        have hlfp : stp d + 1 ≤ (lf + 1) * (stp d + 1) := Nat.le_mul_of_pos_left _ (by omega)
        obtain ⟨M1, n1, r1, r2, r3, r4, r5, r6, r7⟩ := ih (pl + 1) n B' s M (by omega) (by omega) hok hBs (by omega) hGM hWM hE.2.2 h25 (by omega)
        obtain ⟨n1, rfl⟩ : ∃ n', n1 = n' + 1 := ⟨n1 - 1, by omega⟩
        have hE1 : PE M1 pl (30 * p + i) 0 := ⟨by rw [(r7.2.2.1 pl (by omega)).1]; exact hE.1, by rw [(r7.2.2.1 pl (by omega)).2.1]; exact hE.2.1, r5⟩
        have h13' : M1 13 pl = ((lf + 1 + 1 : Nat) : Int) := by rw [(r7.2.2.1 pl (by omega)).2.2]; exact h13
        have hkp1 : ∀ k, k < KN S → M1 14 (625 * pl + k) = Kp k := fun k hk => by rw [(r7.2.2.2 _ (by omega)).1]; exact hkp k hk
        generalize hL : jm_up M1 13 pl ((lf + 1 : Nat) : Int) = L1
        have hfrL : FrK M1 L1 pl := by rw [← hL]; exact (FrK.rf M1 pl).fr (by omega) (Nat.le_refl _)
        have hGL := r3.fr hfrL
        have hWL : WT L1 S (wk W S w h ms sg d (i + 1) s) := by rw [← hL]; exact r4.row (by decide)
        have L10 : ∀ a, a ≠ 13 → ∀ j, L1 a j = M1 a j := fun a ha j => by rw [← hL]; exact up_ne ha
        have hL13 : L1 13 pl = ((lf + 1 : Nat) : Int) := by rw [← hL]; exact up_eq
        obtain ⟨Q1, o1, o2, o3, o4, o5⟩ := sM_keep (N := N) (K := KN S) (a1 := 15) (f := pl) hN hGL.1 hGL.2.2.2.2.1 hK6 (Or.inr rfl) (by omega)
        have hfrQ1 : FrK L1 Q1 pl := FrK.ko (Or.inr rfl) o4 (fun j hj => o5 j (Or.inl hj))
        have hGQ1 := hGL.fr hfrQ1
        obtain ⟨Q2, j1, j2, j3, j4⟩ := sM_joinT (N := N) (K := KN S) (a1 := 14) (f := pl) (m := Q1) (W := W) hN hGQ1.1 hGQ1.2.2.2.2.1 hGQ1.2.2.2.2.2 hK6 (Or.inl rfl) (by omega)
        have hfrQ2 : FrK Q1 Q2 pl := FrK.r10 j4
        have hGQ2 := hGQ1.fr hfrQ2
        obtain ⟨Q3, l1, l2, l3, l4, l5⟩ := sM_keep (N := N) (K := KN S) (a1 := 14) (f := pl) (m := Q2) hN hGQ2.1 hGQ2.2.2.2.2.1 hK6 (Or.inl rfl) (by omega)
        have hfrQ3 : FrK Q2 Q3 pl := FrK.ko (Or.inl rfl) l4 (fun j hj => l5 j (Or.inl hj))
        have hGQ3 := hGQ2.fr hfrQ3
        have hnow : ∀ k, k < KN S → Q2 10 k = jn W (wk W S w h ms sg d (i + 1) s).1 Kp k := fun k hk => by
          refine (j3 k hk).trans (jn_congr ?_ ?_)
          · show Q1 10 k = _; rw [o4 10 (by decide)]; exact hWL.1 k hk
          · show Q1 14 (625 * pl + k) = _; rw [o4 14 (by decide), L10 14 (by decide)]; exact hkp1 k hk
        obtain ⟨Q4, c1, c2, c3, c4⟩ := sM_copyT (N := N) (K := KN S) (a1 := 15) (f := pl) (m := Q3) hN hGQ3.1 hGQ3.2.2.2.2.1 hK6 (Or.inr rfl) (by omega)
        have hfrQ4 : FrK Q3 Q4 pl := FrK.r10 c4
        have hcome : f_X12_come N shM 1 M1 = some (jm_up Q4 1 25 ((30 * p + (i + 1) : Nat) : Int)) := by
          rw [comeL M1 0 (lf + 1) r3 hE1 h13' (by omega), hL, if_pos rfl]
          unfold f_X12_come_b155 f_X12_come_b189
          rw [if_neg (by decide), jrf_ok sM1, Option.bind_some, hGL.1.t17, jck_ok sM1, Option.bind_some, o1, Option.bind_some, jrf_ok sM1, Option.bind_some, o2.t16, Option.bind_some, j1, Option.bind_some, jrf_ok sM1, Option.bind_some, j2.t16, Option.bind_some, l1, Option.bind_some, jrf_ok sM1, Option.bind_some, l2.t15, jra_ok sM13 (by omega) (by omega), Option.bind_some, Int.toNat_natCast, l4 13 (by decide), j4 13 (by decide), o4 13 (by decide), hL13, if_pos (by omega), if_neg (by decide), jrf_ok sM1, Option.bind_some, l2.t17, Option.bind_some, c1, Option.bind_some]
          unfold f_X12_come_b212
          rw [jw_eq (by omega) (by omega), show ((30 * p + i : Nat) : Int) + 1 = ((30 * p + (i + 1) : Nat) : Int) by omega, jwf_ok sM1, Option.bind_some]
        have hfr3 : FrK Q4 (jm_up Q4 1 25 ((30 * p + (i + 1) : Nat) : Int)) pl := (FrK.rf Q4 pl).f1 (by omega)
        have hWT4 : WT Q4 S (wk W S w h ms sg d (i + 1) s) := hWL.same (fun k hk => by rw [c3 k hk, l4 15 (by decide), j4 15 (by decide), o3 k hk]) (fun j _ => by rw [c4 1 (by decide), l4 1 (by decide), j4 1 (by decide), o4 1 (by decide)]) (fun j => by rw [c4 16 (by decide), l4 16 (by decide), j4 16 (by decide), o4 16 (by decide)])
        have bd := hbdW B' s hok hBs
        have hE4 : PE (jm_up Q4 1 25 ((30 * p + (i + 1) : Nat) : Int)) pl (30 * p + i) 0 := ⟨by rw [up_ne (by decide), c4 11 (by decide), l4 11 (by decide), j4 11 (by decide), o4 11 (by decide), L10 11 (by decide)]; exact hE1.1, by rw [up_ne (by decide), c4 12 (by decide), l4 12 (by decide), j4 12 (by decide), o4 12 (by decide), L10 12 (by decide)]; exact hE1.2.1, by rw [up_nk (by decide), c4 1 (by decide), l4 1 (by decide), j4 1 (by decide), o4 1 (by decide), L10 1 (by decide)]; exact r5⟩
        obtain ⟨M', n', t1, t2, t3⟩ := ihl n1 (B' + (ms + 1) * 4 ^ d) (wk W S w h ms sg d (i + 1) s) (jn W (wk W S w h ms sg d (i + 1) s).1 Kp) (jm_up Q4 1 25 ((30 * p + (i + 1) : Nat) : Int)) (by omega) (by omega) bd.2.1 bd.1 (bd.1.jn (hBK.mono (by omega))) (by omega) ((hGQ3.fr hfrQ4).fr hfr3) (hWT4.f1 (by decide)) hE4 (by rw [up_ne (by decide), c4 13 (by decide), l4 13 (by decide), j4 13 (by decide), o4 13 (by decide)]; exact hL13) up_eq (fun k hk => by rw [up_ne (by decide), c4 14 (by decide), l3 k hk]; exact hnow k hk) (((((((hfM.tr r7 (by omega)).tr hfrL (by omega)).tr hfrQ1 (by omega)).tr hfrQ2 (by omega)).tr hfrQ3 (by omega)).tr hfrQ4 (by omega)).tr hfr3 (by omega))
        refine ⟨M', n', ?_, by omega, t3⟩
        rw [r1, wl_come r6 r5, hcome, Option.bind_some]
        exact t1
    obtain ⟨t', ht'⟩ : ∃ t', tmO (sg i) = t' + 1 := ⟨tmO (sg i) - 1, by omega⟩
    have m1 : (t' + 1) * (stp d + 1) ≤ 4 * (stp d + 1) := Nat.mul_le_mul_right _ (by omega)
    have m2 : (t' + 1) * ((ms + 1) * 4 ^ d) ≤ 4 * ((ms + 1) * 4 ^ d) := Nat.mul_le_mul_right _ (by omega)
    obtain ⟨M', n', t1, t2, t3⟩ := loop t' n B (T, [], fm1) T (jm_up Q 1 25 ((30 * p + (i + 1) : Nat) : Int)) (by omega) (by omega) okF_nil hB hB (by omega) (hG.fr hfr1) (hWTQ.f1 (by decide)) ⟨by rw [up_ne (by decide), k4 11 (by decide)]; exact hPi.1, by rw [up_ne (by decide), k4 12 (by decide)]; exact hPi.2.1, by rw [up_nk (by decide), k4 1 (by decide)]; exact hPi.2.2.2.1⟩ (by rw [up_ne (by decide), k4 13 (by decide), ← ht']; exact hPi.2.2.1) up_eq (fun k hk => by rw [up_ne (by decide), k3 k hk]; exact hWTP.1 k hk) hfr1
    refine ⟨M', n', t1, by show n + 1 ≤ n' + (6 + 5 * stp d); omega, ?_⟩
    rw [← ht', ← hfm] at t3
    exact t3
  | cons x r =>
    obtain ⟨D, dg1, hWTD, vD, eD⟩ := sM_digit1 (may := ((tmO (sg i) + 1 : Nat) : Int)) hF0 hWT0
    rw [hhead, dg1, Option.bind_some]
    dsimp only
    have hfrD : FrK m D pl := by rw [eD]; exact hfr0.f1 (by omega)
    have hFD : MF D := hfrD.MF g1
    have eD12 : D 1 12 = (pl : Int) := by rw [eD, up_nk (by decide)]; exact e12
    have hx4 : x ≤ 4 := hok x List.mem_cons_self
    by_cases cx : x = 0
    · subst cx
      rw [if_pos (show ((0 : Nat) : Int) = 0 from rfl), Option.bind_some]
      exact ⟨D, n, rfl, by show n + 1 ≤ n + (6 + 5 * stp d); omega, hG.fr hfrD, hWTD, eD12, by rw [eD, up_nk (by decide), up_eq], hfrD⟩
    · rw [if_neg (by omega), if_neg (by omega)]
      generalize hP : piM D pl ((30 * p + i : Nat) : Int) 5 (x : Int) = P
      have hPi := piM_at (m := D) (pl := pl) (at' := ((30 * p + i : Nat) : Int)) (st := 5) (lf := (x : Int))
      rw [hP] at hPi
      have hfrP : FrK m P pl := by rw [← hP]; exact hfrD.tr FrK.pi (Nat.le_refl _)
      have hWTP : WT P S (T, r, fm) := by rw [← hP]; exact hWTD.pi
      have hb176 : f_X12_begin_b176 N shM 1 ((30 * p + i : Nat) : Int) (tmO (sg i) : Int) (x : Int) 1 ((30 * p + i : Nat) : Int) 5 D = some (jm_up P 1 25 ((30 * p + (i + 1) : Nat) : Int)) := by
        unfold f_X12_begin_b176 f_X12_begin_b187
        rw [if_neg (by omega), jck_ok sM1, Option.bind_some, sM_pile hFD eD12 (by omega), Option.bind_some, hP, if_neg (by omega)]
        unfold f_X12_begin_b209
        rw [jw_eq (by omega) (by omega), show ((30 * p + i : Nat) : Int) + 1 = ((30 * p + (i + 1) : Nat) : Int) by omega, jwf_ok sM1, Option.bind_some]
      rw [hb176, Option.bind_some]
      have hfr1 : FrK m (jm_up P 1 25 ((30 * p + (i + 1) : Nat) : Int)) pl := hfrP.f1 (by omega)
      have loop : ∀ (lf n B' : Nat) (s : WS) (M : jm_M), lf ≤ 3 → (lf + 1) * (stp d + 1) < n → okF s.2.1 → TB (KN S) B' s.1 → B' + (lf + 1) * ((ms + 1) * 4 ^ d) ≤ 100000 → GW M p cn sg S w h ms W → WT M S s → PE M pl (30 * p + i) 5 → M 13 pl = ((lf + 1 : Nat) : Int) → M 1 25 = ((30 * p + (i + 1) : Nat) : Int) → FrK m M pl →
          ∃ M' n', wl N n M = wl N n' M' ∧ n ≤ n' + (lf + 1) * (stp d + 1) ∧ GW M' p cn sg S w h ms W ∧ WT M' S (itw (wk W S w h ms sg d (i + 1)) (lf + 1) s) ∧ M' 1 12 = (pl : Int) ∧ M' 1 25 = -6 ∧ FrK m M' pl := by
        intro lf
        induction lf with
        | zero =>
          intro n B' s M hlf hn hok hBs hB2 hGM hWM hE h13 h25 hfM
          obtain ⟨M1, n1, r1, r2, r3, r4, r5, r6, r7⟩ := ih (pl + 1) n B' s M (by omega) (by omega) hok hBs (by omega) hGM hWM hE.2.2 h25 (by omega)
          obtain ⟨n1, rfl⟩ : ∃ n', n1 = n' + 1 := ⟨n1 - 1, by omega⟩
          have hE1 : PE M1 pl (30 * p + i) 5 := ⟨by rw [(r7.2.2.1 pl (by omega)).1]; exact hE.1, by rw [(r7.2.2.1 pl (by omega)).2.1]; exact hE.2.1, r5⟩
          have h13' : M1 13 pl = ((0 + 1 : Nat) : Int) := by rw [(r7.2.2.1 pl (by omega)).2.2]; exact h13
          have hfrL : FrK M1 (jm_up M1 13 pl ((0 : Nat) : Int)) pl := (FrK.rf M1 pl).fr (by omega) (Nat.le_refl _)
          have hFL := hfrL.MF r3.1
          have hcome : f_X12_come N shM 1 M1 = some (jm_up (jm_up M1 13 pl ((0 : Nat) : Int)) 1 12 (pl : Int)) := by
            rw [comeL M1 5 0 r3 hE1 h13' (by decide), if_neg (by decide)]
            unfold f_X12_come_b155 f_X12_come_b189
            rw [if_pos rfl, jrf_ok sM1, Option.bind_some, hFL.t15, jra_ok sM13 (by omega) (by omega), Option.bind_some, Int.toNat_natCast, up_eq, if_neg (by decide), come_b220 (by rw [up_ne (by decide)]; exact r5) (by omega)]
          have hfr3 : FrK (jm_up M1 13 pl ((0 : Nat) : Int)) (jm_up (jm_up M1 13 pl ((0 : Nat) : Int)) 1 12 (pl : Int)) pl := (FrK.rf _ pl).f1 (by omega)
          refine ⟨_, n1, ?_, by omega, (r3.fr hfrL).fr hfr3, ((r4.row (by decide)).f1 (by decide)), up_eq, ?_, ((hfM.tr r7 (by omega)).tr hfrL (by omega)).tr hfr3 (by omega)⟩
          · rw [r1, wl_come r6 r5, hcome, Option.bind_some]
          · rw [up_nk (by decide), up_ne (by decide)]; exact r6
        | succ lf ihl =>
          intro n B' s M hlf hn hok hBs hB2 hGM hWM hE h13 h25 hfM
          have sm1 : (lf + 1 + 1) * (stp d + 1) = (lf + 1) * (stp d + 1) + (stp d + 1) := Nat.succ_mul _ _
          have sm2 : (lf + 1 + 1) * ((ms + 1) * 4 ^ d) = (lf + 1) * ((ms + 1) * 4 ^ d) + (ms + 1) * 4 ^ d := Nat.succ_mul _ _
          have hst := stp_pos d
          have hlfp : stp d + 1 ≤ (lf + 1) * (stp d + 1) := Nat.le_mul_of_pos_left _ (by omega)
          obtain ⟨M1, n1, r1, r2, r3, r4, r5, r6, r7⟩ := ih (pl + 1) n B' s M (by omega) (by omega) hok hBs (by omega) hGM hWM hE.2.2 h25 (by omega)
          obtain ⟨n1, rfl⟩ : ∃ n', n1 = n' + 1 := ⟨n1 - 1, by omega⟩
          have hE1 : PE M1 pl (30 * p + i) 5 := ⟨by rw [(r7.2.2.1 pl (by omega)).1]; exact hE.1, by rw [(r7.2.2.1 pl (by omega)).2.1]; exact hE.2.1, r5⟩
          have h13' : M1 13 pl = ((lf + 1 + 1 : Nat) : Int) := by rw [(r7.2.2.1 pl (by omega)).2.2]; exact h13
          have hfrL : FrK M1 (jm_up M1 13 pl ((lf + 1 : Nat) : Int)) pl := (FrK.rf M1 pl).fr (by omega) (Nat.le_refl _)
          have hFL := hfrL.MF r3.1
          have hcome : f_X12_come N shM 1 M1 = some (jm_up (jm_up M1 13 pl ((lf + 1 : Nat) : Int)) 1 25 ((30 * p + (i + 1) : Nat) : Int)) := by
            rw [comeL M1 5 (lf + 1) r3 hE1 h13' (by omega), if_neg (by decide)]
            unfold f_X12_come_b155 f_X12_come_b189
            rw [if_pos rfl, jrf_ok sM1, Option.bind_some, hFL.t15, jra_ok sM13 (by omega) (by omega), Option.bind_some, Int.toNat_natCast, up_eq, if_pos (by omega), if_pos rfl]
            unfold f_X12_come_b212
            rw [jw_eq (by omega) (by omega), show ((30 * p + i : Nat) : Int) + 1 = ((30 * p + (i + 1) : Nat) : Int) by omega, jwf_ok sM1, Option.bind_some]
          have hfr3 : FrK (jm_up M1 13 pl ((lf + 1 : Nat) : Int)) (jm_up (jm_up M1 13 pl ((lf + 1 : Nat) : Int)) 1 25 ((30 * p + (i + 1) : Nat) : Int)) pl := (FrK.rf _ pl).f1 (by omega)
          have bd := hbdW B' s hok hBs
          obtain ⟨M', n', t1, t2, t3⟩ := ihl n1 (B' + (ms + 1) * 4 ^ d) (wk W S w h ms sg d (i + 1) s) (jm_up (jm_up M1 13 pl ((lf + 1 : Nat) : Int)) 1 25 ((30 * p + (i + 1) : Nat) : Int)) (by omega) (by omega) bd.2.1 bd.1 (by omega) ((r3.fr hfrL).fr hfr3) ((r4.row (by decide)).f1 (by decide)) ⟨by rw [up_ne (by decide), up_ne (by decide)]; exact hE1.1, by rw [up_ne (by decide), up_ne (by decide)]; exact hE1.2.1, by rw [up_nk (by decide), up_ne (by decide)]; exact r5⟩ (by rw [up_ne (by decide), up_eq]) up_eq (((hfM.tr r7 (by omega)).tr hfrL (by omega)).tr hfr3 (by omega))
          refine ⟨M', n', ?_, by omega, t3⟩
          rw [r1, wl_come r6 r5, hcome, Option.bind_some]
          exact t1
      obtain ⟨t', ht'⟩ : ∃ t', x = t' + 1 := ⟨x - 1, by omega⟩
      have m1 : (t' + 1) * (stp d + 1) ≤ 4 * (stp d + 1) := Nat.mul_le_mul_right _ (by omega)
      have m2 : (t' + 1) * ((ms + 1) * 4 ^ d) ≤ 4 * ((ms + 1) * 4 ^ d) := Nat.mul_le_mul_right _ (by omega)
      obtain ⟨M', n', t1, t2, t3⟩ := loop t' n B (T, r, fm) (jm_up P 1 25 ((30 * p + (i + 1) : Nat) : Int)) (by omega) (by omega) (okF.tl hok) hB (by omega) (hG.fr hfr1) (hWTP.f1 (by decide)) ⟨by rw [up_ne (by decide)]; exact hPi.1, by rw [up_ne (by decide)]; exact hPi.2.1, by rw [up_nk (by decide)]; exact hPi.2.2.2.1⟩ (by rw [up_ne (by decide), ← ht']; exact hPi.2.2.1) up_eq hfr1
      refine ⟨M', n', t1, by show n + 1 ≤ n' + (6 + 5 * stp d); omega, ?_⟩
      rw [← ht'] at t3
      exact t3
theorem work_all {N p cn : Nat} {sg : Nat → Int} {S w h ms : Nat} {W : Bool} (hN : 1000 ≤ N) (hp : p < 4) (hT : ST S w h) (hms : ms ≤ 20) (hX : TX cn sg) : ∀ d, d ≤ 4 → ∀ i, wf sg d i = true → WkP N p cn sg S w h ms W d i := by
  refine wf_ind sg (WkP N p cn sg S w h ms W) ?_ ?_ ?_
  · intro d i hd hl hz
    exact wk_leafM hN hp hT hms hX hl
  · intro d i hd hs hz hw ih
    exact wk_loopM hN hp hX hT.1 hs hz (by omega) hw ih
  · intro d i hd hs hz hw hw2 ih ih2
    rcases hs with hs | hs
    · exact wk_seqM hN hp hX hs hz (by omega) hw ih ih2
    · exact wk_choM hN hp hX hT.1 hs hz (by omega) hw ih ih2
