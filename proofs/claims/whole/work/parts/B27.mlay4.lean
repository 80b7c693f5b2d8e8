theorem FrG.r1819 {m M : jm_M} {pl : Nat} (hs : ∀ c, c ≠ 18 → c ≠ 19 → ∀ j, M c j = m c j) (h2 : ∀ j, j < 16 * pl → M 19 j = m 19 j) : FrG m M pl := ⟨fun a a1 a2 a3 a4 a5 a6 a7 j => hs a a5 a6 j, fun j _ => hs 1 (by decide) (by decide) j, fun j _ => ⟨hs 11 (by decide) (by decide) j, hs 12 (by decide) (by decide) j, hs 13 (by decide) (by decide) j⟩, h2⟩
theorem ag_choM {N p cn : Nat} {sg : Nat → Int} {S w h : Nat} (hN : 1000 ≤ N) (hp : p < 4) (hT : ST S w h) (hX : TX cn sg) {d i : Nat} (hs : sg i = 63) (hz : zs sg 4 i = 1 + zs sg 4 (i + 1) + zs sg 4 (nx sg i)) (ih : AgP N p cn sg S w h d (i + 1)) (ih2 : AgP N p cn sg S w h d (nx sg i)) : AgP N p cn sg S w h (d + 1) i := by
  intro pl n q m hpl hi hb hG hA h12 hn
  have hp1 := zs_pos sg 4 (i + 1)
  have hp2 := zs_pos sg 4 (nx sg i)
  have hnx : nx sg i = i + 1 + zs sg 4 (i + 1) := rfl
  have hst : stA (d + 1) = 6 + 66 * (stA d + 1) := rfl
  rw [hst] at hn ⊢
  rw [pa_cho hs]
  obtain ⟨n, rfl⟩ : ∃ n', n = n' + 1 := ⟨n - 1, by omega⟩
  obtain ⟨M0, e0, G0, A0, E0, K0, f0⟩ := ag_enter (N := N) (n := n) hN hp hX (show i < cn by omega) (show pl < 6 by omega) (Or.inr (Or.inr hs)) hG hA h12
  obtain ⟨M1, n1, e1, l1, G1, A1, t1, f1⟩ := ih (pl + 1) n q M0 (by omega) (by omega) hb G0 A0 E0.2.2 (by omega)
  obtain ⟨n1, rfl⟩ : ∃ n', n1 = n' + 1 := ⟨n1 - 1, by omega⟩
  have E1 := E0.fr f1 t1
  have K1 := K0.fr f1
  have c1 := ag_come (N := N) (n := n1) hp hX (show i < cn by omega) (show pl < 6 by omega) G1 E1
  generalize hM2 : jm_up M1 12 pl 1 = M2
  have f2 : FrG M1 M2 pl := by rw [← hM2]; exact FrG.st
  have k2 : ∀ a, a ≠ 12 → ∀ j, M2 a j = M1 a j := fun a ha j => by rw [← hM2]; exact up_ne ha
  have G2 := G1.fr f2
  have A2 : AM M2 (pa S w h sg d (i + 1) q) := A1.same (k2 18 (by decide)) (k2 20 (by decide))
  have K2 : KA M2 pl q.1 := fun k hk => by rw [k2 19 (by decide)]; exact K1 k hk
  have E2 : PE M2 pl (30 * p + i) 1 := ⟨by rw [k2 11 (by decide)]; exact E1.1, by rw [← hM2]; exact up_eq, by rw [k2 1 (by decide)]; exact t1⟩
  obtain ⟨M3, e3, r3, K3, s3, s3'⟩ := sM_swapAges (N := N) (f := pl) (by omega) G2.1 (by omega) A2.1 K2
  have f3 : FrG M2 M3 pl := FrG.r1819 s3 s3'
  have G3 := G2.fr f3
  have A3 : AM M3 (q.1, (pa S w h sg d (i + 1) q).2) := ⟨r3, fun j hj a e k hk => by rw [s3 20 (by decide) (by decide)]; exact A2.2 j hj a e k hk⟩
  have E3 : PE M3 pl (30 * p + i) 1 := ⟨by rw [s3 11 (by decide) (by decide)]; exact E2.1, by rw [s3 12 (by decide) (by decide)]; exact E2.2.1, by rw [s3 1 (by decide) (by decide)]; exact E2.2.2⟩
  have st1 : f_X12_layAges_l63 N shM (n1 + 1) 1 (p : Int) (-6) M1 = f_X12_layAges_l63 N shM n1 1 (p : Int) ((30 * p + nx sg i : Nat) : Int) M3 := by
    rw [c1]
    unfold f_X12_layAges_b230
    rw [if_pos (Or.inr hs), if_neg (by decide), jrf_ok sM1, Option.bind_some, G1.1.t14, jra_ok sM12 (by omega) (by omega), Option.bind_some, Int.toNat_natCast, E1.2.1, if_pos rfl, Option.bind_some, G1.1.t14, jwa_ok sM12 (by omega) (by omega), Option.bind_some, Int.toNat_natCast, hM2, if_pos hs, jck_ok sM1, Option.bind_some, e3, Option.bind_some]
    exact ag_second hp hX (by omega) G3
  obtain ⟨M4, n4, e4, l4, G4, A4, t4, f4⟩ := ih2 (pl + 1) n1 (q.1, (pa S w h sg d (i + 1) q).2) M3 (by omega) (by omega) hb G3 A3 E3.2.2 (by omega)
  obtain ⟨n4, rfl⟩ : ∃ n', n4 = n' + 1 := ⟨n4 - 1, by omega⟩
  have E4 := E3.fr f4 t4
  have K4 := K3.fr f4
  have c4 := ag_come (N := N) (n := n4) hp hX (show i < cn by omega) (show pl < 6 by omega) G4 E4
  obtain ⟨M5, e5, r5, s5⟩ := sM_joinAges (N := N) (f := pl) (by omega) G4.1 (by omega) A4.1 K4
  generalize (if sA (jAg (pa S w h sg d (nx sg i) (q.1, (pa S w h sg d (i + 1) q).2)).1 (pa S w h sg d (i + 1) q).1) (pa S w h sg d (i + 1) q).1 = true then (0 : Int) else 1) = z5 at e5
  have f5 : FrG M4 M5 pl := FrG.row s5 (Or.inl rfl)
  have G5 := G4.fr f5
  have st4 : f_X12_layAges_l63 N shM (n4 + 1) 1 (p : Int) (-6) M4 = f_X12_layAges_l63 N shM n4 1 (p : Int) (-6) (jm_up M5 1 12 (pl : Int)) := by
    rw [c4]
    unfold f_X12_layAges_b230
    rw [if_pos (Or.inr hs), if_neg (by decide), jrf_ok sM1, Option.bind_some, G4.1.t14, jra_ok sM12 (by omega) (by omega), Option.bind_some, Int.toNat_natCast, E4.2.1, if_neg (by decide)]
    unfold f_X12_layAges_b283 f_X12_layAges_b302 f_X12_layAges_b303
    rw [if_neg (by omega), jck_ok sM1, Option.bind_some, e5, Option.bind_some]
    dsimp only
    have hno : f_X12_isLoop (sg i) = some 0 := by rw [sM_isLoop, if_neg (by omega)]
    have hpop := ag_pop (N := N) (p := p) (n := n4) (m := M5) (show pl < 6 by omega) (by rw [s5 1 (by decide)]; exact t4)
    by_cases cz : z5 = 0
    · rw [if_pos cz, hno, Option.bind_some, if_pos rfl, hpop]
    · rw [if_neg cz, hno, Option.bind_some, if_pos rfl, hpop]
  have f6 : FrG M5 (jm_up M5 1 12 (pl : Int)) pl := FrG.f12
  refine ⟨jm_up M5 1 12 (pl : Int), n4, ?_, by omega, G5.fr f6, ⟨fun k hk => (up_ne (by decide)).trans (r5 k hk), fun j hj a e k hk => (up_ne (by decide)).trans ((s5 20 (by decide) _).trans (A4.2 j hj a e k hk))⟩, up_eq, (((((f0.tr f1.dn (Nat.le_refl _)).tr f2 (Nat.le_refl _)).tr f3 (Nat.le_refl _)).tr f4.dn (Nat.le_refl _)).tr f5 (Nat.le_refl _)).tr f6 (Nat.le_refl _)⟩
  rw [e0, e1, st1, e4, st4]
