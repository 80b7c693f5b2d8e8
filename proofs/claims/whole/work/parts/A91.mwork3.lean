/-- the head of a pile entry: where, which stage, how many times -/
def PE (m : jm_M) (pl at' : Nat) (st : Int) : Prop := m 11 pl = (at' : Int) ∧ m 12 pl = st ∧ m 1 12 = ((pl + 1 : Nat) : Int)
/-- come: what is on top, and its sign -/
theorem come_top {N p cn i pl : Nat} {sg : Nat → Int} {S w h ms : Nat} {W : Bool} {m : jm_M} {st : Int} (hG : GW m p cn sg S w h ms W) (hp : p < 4) (hcn : cn ≤ 30) (hi : i < cn) (hpl : pl < 6) (hE : PE m pl (30 * p + i) st) :
    f_X12_come N shM 1 m = (if sg i = 59 then (if st = 0 then f_X12_come_b51 N shM 1 (pl : Int) ((30 * p + i : Nat) : Int) (sg i) m else f_X12_come_b36 N shM 1 (pl : Int) ((30 * p + i : Nat) : Int) (sg i) m) else f_X12_come_b36 N shM 1 (pl : Int) ((30 * p + i : Nat) : Int) (sg i) m) := by
  obtain ⟨g1, g2, g3, g4, g5, g6⟩ := hG
  obtain ⟨e1, e2, e3⟩ := hE
  unfold f_X12_come
  rw [jrf_ok sM1, Option.bind_some, jrf_ok sM1, Option.bind_some, g1.t13, e3, jw_eq (x := ((pl + 1 : Nat) : Int) - 1) (by omega) (by omega), show ((pl + 1 : Nat) : Int) - 1 = (pl : Int) by omega, jra_ok sM11 (by omega) (by omega), Option.bind_some, Int.toNat_natCast, e1, jrf_ok sM1, Option.bind_some, g1.t4, jra_ok sM5 (by omega) (by omega), Option.bind_some, Int.toNat_natCast, (g4 i hi).1]
  by_cases c : sg i = 59
  · rw [if_pos c, if_pos c, jrf_ok sM1, Option.bind_some, g1.t14, jra_ok sM12 (by omega) (by omega), Option.bind_some, Int.toNat_natCast, e2]
  · rw [if_neg c, if_neg c]
theorem come_b75 {N p cn i pl : Nat} {sg : Nat → Int} {S w h ms : Nat} {W : Bool} {m : jm_M} (hG : GW m p cn sg S w h ms W) (hp : p < 4) (hX : TX cn sg) (hi : i + 1 < cn) (hpl : pl < 6) : f_X12_come_b75 N shM 1 (pl : Int) ((30 * p + i : Nat) : Int) m = some (jm_up (jm_up m 12 pl 1) 1 25 ((30 * p + nx sg i : Nat) : Int)) := by
  obtain ⟨g1, g2, g3, g4, g5, g6⟩ := hG
  have hcn := hX.1
  have hz := (hX.node hi).2
  have u1 : MF (jm_up m 12 pl 1) := g1.upr rM_rows.2.2.2.2.2.2.2.2.2.2.1
  unfold f_X12_come_b75
  rw [jrf_ok sM1, Option.bind_some, g1.t14, jwa_ok sM12 (by omega) (by omega), Option.bind_some, Int.toNat_natCast, jrf_ok sM1, Option.bind_some, u1.t5, jw_eq (x := ((30 * p + i : Nat) : Int) + 1) (by omega) (by omega), show ((30 * p + i : Nat) : Int) + 1 = ((30 * p + (i + 1) : Nat) : Int) by omega, jra_ok sM6 (by omega) (by omega), Option.bind_some, Int.toNat_natCast, up_ne (by decide), (g4 _ hi).2, jw_eq (by omega) (by omega), show ((30 * p + (i + 1) : Nat) : Int) + (zs sg 4 (i + 1) : Int) = ((30 * p + nx sg i : Nat) : Int) by unfold nx; omega, jwf_ok sM1, Option.bind_some]
theorem come_b220 {N pl : Nat} {m : jm_M} (h12 : m 1 12 = ((pl + 1 : Nat) : Int)) (hpl : pl < 6) : f_X12_come_b220 N shM 1 m = some (jm_up m 1 12 (pl : Int)) := by
  unfold f_X12_come_b220
  rw [jrf_ok sM1, Option.bind_some, h12, jw_eq (by omega) (by omega), show ((pl + 1 : Nat) : Int) - 1 = (pl : Int) by omega, jwf_ok sM1, Option.bind_some]
theorem sM_isLoop (s : Int) : f_X12_isLoop s = some (if 98 ≤ s ∧ s ≤ 100 then 1 else 0) := by
  unfold f_X12_isLoop
  rw [sM_in, Option.bind_some]
  split <;> rfl
/-- what a text's work does to the memory -/
def WkP (N : Nat) (p cn : Nat) (sg : Nat → Int) (S w h ms : Nat) (W : Bool) (d i : Nat) : Prop := ∀ (pl n B : Nat) (q : WS) (m : jm_M), pl + d ≤ 5 → i + zs sg 4 i ≤ cn → okF q.2.1 → TB (KN S) B q.1 → B + (ms + 1) * 4 ^ d ≤ 100000 → GW m p cn sg S w h ms W → WT m S q → m 1 12 = (pl : Int) → m 1 25 = ((30 * p + i : Nat) : Int) → stp d < n →
    ∃ M n', wl N n m = wl N n' M ∧ n ≤ n' + stp d ∧ GW M p cn sg S w h ms W ∧ WT M S (wk W S w h ms sg d i q) ∧ M 1 12 = (pl : Int) ∧ M 1 25 = -6 ∧ FrK m M pl
theorem wk_leafM {N p cn : Nat} {sg : Nat → Int} {S w h ms : Nat} {W : Bool} (hN : 1000 ≤ N) (hp : p < 4) (hT : ST S w h) (hms : ms ≤ 20) (hX : TX cn sg) {d i : Nat} (hl : isLf (sg i) = true) : WkP N p cn sg S w h ms W d i := by
  intro pl n B q m hpl hi hok hB hB2 hG hWT h12 h25 hn
  have hsp := stp_pos d
  have hcn := hX.1
  have hzp := zs_pos sg 4 i
  have hic : i < cn := by omega
  obtain ⟨n, rfl⟩ : ∃ n', n = n' + 1 := ⟨n - 1, by omega⟩
  obtain ⟨g1, g2, g3, g4, g5, g6⟩ := id hG
  rw [wl_begin h25, wk_leaf hl]
  have hF0 : MF (jm_up m 1 25 (-6)) := g1.up n1M.2.2.2.2.2.2.2.2
  have hfr0 : FrK m (jm_up m 1 25 (-6)) pl := (FrK.rf m pl).f1 (by omega)
  have hG0 := hG.fr hfr0
  have hWT0 : WT (jm_up m 1 25 (-6)) S q := hWT.f1 (by decide)
  unfold f_X12_begin wkL
  rw [jrf_ok sM1, Option.bind_some, jrf_ok sM1, Option.bind_some, g1.t4, h25, jra_ok sM5 (by omega) (by omega), Option.bind_some, Int.toNat_natCast, (g4 i hic).1, jwf_ok sM1, Option.bind_some, sM_in, Option.bind_some, ifb]
  by_cases c : 48 ≤ sg i ∧ sg i ≤ 55
  · have hl8 := ln_lt c
    have eln : jw (sg i - 48) = (lnO (sg i) : Int) := by rw [jw_eq (by omega) (by omega)]; unfold lnO; omega
    obtain ⟨M, e, a1, a2, a3, a4⟩ := sM_fetchAll (B := B) hN hT hms hl8 hG0 (fun k hk => by rw [hWT0.1 k hk]; exact hB k hk) (by omega)
    rw [if_pos c, if_pos c, jck_ok sM1, Option.bind_some, eln, e, Option.bind_some, Option.bind_some]
    have hfr : FrK (jm_up m 1 25 (-6)) M pl := ⟨fun a b1 b2 b3 b4 b5 b6 b7 b8 j => a3 a b1 b2 b8 j, fun j b1 _ _ _ _ => a4 j b1, fun j _ => ⟨a3 11 (by decide) (by decide) (by decide) j, a3 12 (by decide) (by decide) (by decide) j, a3 13 (by decide) (by decide) (by decide) j⟩, fun j _ => ⟨a3 14 (by decide) (by decide) (by decide) j, a3 15 (by decide) (by decide) (by decide) j⟩⟩
    refine ⟨M, n, rfl, by omega, hG0.fr hfr, ?_, by rw [a4 12 (by decide), up_nk (by decide)]; exact h12, by rw [a4 25 (by decide), up_eq], hfr0.tr hfr (Nat.le_refl _)⟩
    refine hWT0.tab (fun k hk => ?_) (fun j hj => a4 j (by omega)) (a3 16 (by decide) (by decide) (by decide))
    rw [a2 k hk]
    have key : ∀ (T U : Tb), (∀ k, k < KN S → T k = U k) → ∀ n, n ≤ KN S → fAn W S w h ms (lnO (sg i)) T n = fAn W S w h ms (lnO (sg i)) U n := by
      intro T U hTU n
      induction n with
      | zero => intro _; rfl
      | succ n ih =>
        intro hn
        show (if T n < 0 then _ else _) = (if U n < 0 then _ else _)
        rw [hTU n (by omega), ih (by omega)]
    rw [key (fun k => jm_up m 1 25 (-6) 10 k) q.1 (fun k hk => hWT0.1 k hk) (KN S) (Nat.le_refl _)]
  · have h45 : sg i = 45 := by rw [isLf_iff] at hl; omega
    rw [if_neg c, if_neg c, if_neg (by omega), if_neg (by omega), sM_isLoop, Option.bind_some, ifb, if_neg (by omega), Option.bind_some]
    exact ⟨jm_up m 1 25 (-6), n, rfl, by omega, hG0, hWT0, by rw [up_nk (by decide)]; exact h12, up_eq, hfr0⟩
theorem wk_seqM {N p cn : Nat} {sg : Nat → Int} {S w h ms : Nat} {W : Bool} (hN : 1000 ≤ N) (hp : p < 4) (hX : TX cn sg) {d i : Nat} (hs : sg i = 59) (hz : zs sg 4 i = 1 + zs sg 4 (i + 1) + zs sg 4 (nx sg i)) (hd4 : d ≤ 4) (hwf : wf sg d (i + 1) = true) (ih : WkP N p cn sg S w h ms W d (i + 1)) (ih2 : WkP N p cn sg S w h ms W d (nx sg i)) : WkP N p cn sg S w h ms W (d + 1) i := by
  intro pl n B q m hpl hi hok hB hB2 hG hWT h12 h25 hn
  have hcn := hX.1
  have hzp := zs_pos sg 4 (i + 1)
  have hzp2 := zs_pos sg 4 (nx sg i)
  have hnx : nx sg i = i + 1 + zs sg 4 (i + 1) := rfl
  have hic : i < cn := by omega
  have hn : 6 + 5 * stp d < n := hn
  have e1 : 4 ^ (d + 1) = 4 * 4 ^ d := by rw [Nat.pow_succ, Nat.mul_comm]
  have e3 : (ms + 1) * 4 ^ (d + 1) = 4 * ((ms + 1) * 4 ^ d) := by rw [e1, Nat.mul_left_comm]
  rw [e3] at hB2
  obtain ⟨n, rfl⟩ : ∃ n', n = n' + 1 := ⟨n - 1, by omega⟩
  obtain ⟨g1, g2, g3, g4, g5, g6⟩ := id hG
  rw [wl_begin h25, wk_seq hs]
  have hF0 : MF (jm_up m 1 25 (-6)) := g1.up n1M.2.2.2.2.2.2.2.2
  have e12 : jm_up m 1 25 (-6) 1 12 = (pl : Int) := by rw [up_nk (by decide)]; exact h12
  -- begin
  generalize hP : piM (jm_up m 1 25 (-6)) pl ((30 * p + i : Nat) : Int) 0 0 = P
  have hPi := piM_at (m := jm_up m 1 25 (-6)) (pl := pl) (at' := ((30 * p + i : Nat) : Int)) (st := 0) (lf := 0)
  rw [hP] at hPi
  have hfrP : FrK m P pl := by rw [← hP]; exact ((FrK.rf m pl).f1 (by omega)).tr FrK.pi (Nat.le_refl _)
  have hWTP : WT P S q := by rw [← hP]; exact (hWT.f1 (by decide)).pi
  have hb : f_X12_begin N shM 1 m = some (jm_up P 1 25 ((30 * p + (i + 1) : Nat) : Int)) := by
    unfold f_X12_begin
    rw [jrf_ok sM1, Option.bind_some, jrf_ok sM1, Option.bind_some, g1.t4, h25, jra_ok sM5 (by omega) (by omega), Option.bind_some, Int.toNat_natCast, (g4 i hic).1, jwf_ok sM1, Option.bind_some, sM_in, Option.bind_some, ifb, if_neg (by omega), if_pos hs, jck_ok sM1, Option.bind_some, sM_pile hF0 e12 (by omega), Option.bind_some, hP, jw_eq (by omega) (by omega), show ((30 * p + i : Nat) : Int) + 1 = ((30 * p + (i + 1) : Nat) : Int) by omega, jwf_ok sM1, Option.bind_some]
  rw [hb, Option.bind_some]
  have hfr1 : FrK m (jm_up P 1 25 ((30 * p + (i + 1) : Nat) : Int)) pl := hfrP.f1 (by omega)
  obtain ⟨M1, n1, r1, r2, r3, r4, r5, r6, r7⟩ := ih (pl + 1) n B q (jm_up P 1 25 ((30 * p + (i + 1) : Nat) : Int)) (by omega) (by omega) hok hB (by omega) (hG.fr hfr1) (hWTP.f1 (by decide)) (by rw [up_nk (by decide)]; exact hPi.2.2.2.1) up_eq (by omega)
  obtain ⟨n1, rfl⟩ : ∃ n', n1 = n' + 1 := ⟨n1 - 1, by omega⟩
  have hE1 : PE M1 pl (30 * p + i) 0 := ⟨by rw [(r7.2.2.1 pl (by omega)).1, up_ne (by decide)]; exact hPi.1, by rw [(r7.2.2.1 pl (by omega)).2.1, up_ne (by decide)]; exact hPi.2.1, r5⟩
  -- come: the second text
  have hc1 : f_X12_come N shM 1 M1 = some (jm_up (jm_up M1 12 pl 1) 1 25 ((30 * p + nx sg i : Nat) : Int)) := by
    rw [come_top r3 hp hcn hic (by omega) hE1, if_pos hs, if_pos rfl]
    unfold f_X12_come_b51
    rw [if_neg (by omega), come_b75 r3 hp hX (by omega) (by omega)]
  rw [r1, wl_come r6 r5, hc1, Option.bind_some]
  have hfr2 : FrK M1 (jm_up (jm_up M1 12 pl 1) 1 25 ((30 * p + nx sg i : Nat) : Int)) pl := ((FrK.rf M1 pl).fr (by omega) (Nat.le_refl _)).f1 (by omega)
  have hbd := wk_bd (W := W) (S := S) (w := w) (h := h) (ms := ms) d hd4 (i + 1) hwf B q hok hB
  obtain ⟨M2, n2, t1, t2, t3, t4, t5, t6, t7⟩ := ih2 (pl + 1) n1 (B + (ms + 1) * 4 ^ d) (wk W S w h ms sg d (i + 1) q) (jm_up (jm_up M1 12 pl 1) 1 25 ((30 * p + nx sg i : Nat) : Int)) (by omega) (by omega) hbd.2.1 hbd.1 (by omega) (r3.fr hfr2) ((r4.row (by decide)).f1 (by decide)) (by rw [up_nk (by decide), up_ne (by decide)]; exact r5) up_eq (by omega)
  obtain ⟨n2, rfl⟩ : ∃ n', n2 = n' + 1 := ⟨n2 - 1, by omega⟩
  have hE2 : PE M2 pl (30 * p + i) 1 := ⟨by rw [(t7.2.2.1 pl (by omega)).1, up_ne (by decide), up_ne (by decide)]; exact hE1.1, by rw [(t7.2.2.1 pl (by omega)).2.1, up_ne (by decide), up_eq], t5⟩
  have hc2 : f_X12_come N shM 1 M2 = some (jm_up M2 1 12 (pl : Int)) := by
    rw [come_top t3 hp hcn hic (by omega) hE2, if_pos hs, if_neg (by decide)]
    unfold f_X12_come_b36 f_X12_come_b99 f_X12_come_b124
    rw [if_neg (by omega), if_neg (by omega), sM_isLoop, Option.bind_some, ifb, if_neg (by omega), come_b220 t5 (by omega)]
  rw [t1, wl_come t6 t5, hc2, Option.bind_some]
  have hfr3 : FrK M2 (jm_up M2 1 12 (pl : Int)) pl := (FrK.rf M2 pl).f1 (by omega)
  exact ⟨_, n2, rfl, by show n + 1 ≤ n2 + (6 + 5 * stp d); omega, t3.fr hfr3, t4.f1 (by decide), up_eq, by rw [up_nk (by decide)]; exact t6, (((hfr1.tr r7 (by omega)).tr hfr2 (by omega)).tr t7 (by omega)).tr hfr3 (by omega)⟩
