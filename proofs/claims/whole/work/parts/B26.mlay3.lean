theorem ag_second {N p cn : Nat} {sg : Nat → Int} {S w h : Nat} (hp : p < 4) (hX : TX cn sg) {i n : Nat} {m : jm_M} (hi : i + 1 < cn) (hG : GNa m p cn sg S w h) : f_X12_layAges_b265 N shM (f_X12_layAges_l63 N shM n) 1 (p : Int) ((30 * p + i : Nat) : Int) m = f_X12_layAges_l63 N shM n 1 (p : Int) ((30 * p + nx sg i : Nat) : Int) m := by
  have hcn := hX.1
  have hz := (hX.node hi).2
  unfold f_X12_layAges_b265 f_X12_layAges_b341
  rw [jrf_ok sM1, Option.bind_some, hG.1.t5, jw_eq (x := ((30 * p + i : Nat) : Int) + 1) (by omega) (by omega), show ((30 * p + i : Nat) : Int) + 1 = ((30 * p + (i + 1) : Nat) : Int) by omega, jra_ok sM6 (by omega) (by omega), Option.bind_some, Int.toNat_natCast, (hG.2.2 _ hi).2, jw_eq (by omega) (by omega), show ((30 * p + (i + 1) : Nat) : Int) + (zs sg 4 (i + 1) : Int) = ((30 * p + nx sg i : Nat) : Int) by unfold nx; omega]
theorem PE.fr {m M : jm_M} {pl at' : Nat} {st : Int} (h : PE m pl at' st) (hf : FrG m M (pl + 1)) (h12 : M 1 12 = ((pl + 1 : Nat) : Int)) : PE M pl at' st := ⟨by rw [(hf.2.2.1 pl (by omega)).1]; exact h.1, by rw [(hf.2.2.1 pl (by omega)).2.1]; exact h.2.1, h12⟩
theorem KA.fr {m M : jm_M} {pl : Nat} {a : AgT} (h : KA m pl a) (hf : FrG m M (pl + 1)) : KA M pl a := fun k hk => by rw [hf.2.2.2 _ (by omega)]; exact h k hk
theorem FrG.dn {m M : jm_M} {pl : Nat} (h : FrG m M (pl + 1)) : FrG m M pl := ⟨h.1, h.2.1, fun j hj => h.2.2.1 j (by omega), fun j hj => h.2.2.2 j (by omega)⟩
theorem ag_seqM {N p cn : Nat} {sg : Nat → Int} {S w h : Nat} (hN : 1000 ≤ N) (hp : p < 4) (hT : ST S w h) (hX : TX cn sg) {d i : Nat} (hs : sg i = 59) (hz : zs sg 4 i = 1 + zs sg 4 (i + 1) + zs sg 4 (nx sg i)) (ih : AgP N p cn sg S w h d (i + 1)) (ih2 : AgP N p cn sg S w h d (nx sg i)) : AgP N p cn sg S w h (d + 1) i := by
  intro pl n q m hpl hi hb hG hA h12 hn
  have hp1 := zs_pos sg 4 (i + 1)
  have hp2 := zs_pos sg 4 (nx sg i)
  have hnx : nx sg i = i + 1 + zs sg 4 (i + 1) := rfl
  have hst : stA (d + 1) = 6 + 66 * (stA d + 1) := rfl
  rw [hst] at hn ⊢
  rw [pa_seq hs]
  obtain ⟨n, rfl⟩ : ∃ n', n = n' + 1 := ⟨n - 1, by omega⟩
  obtain ⟨M0, e0, G0, A0, E0, -, f0⟩ := ag_enter (N := N) (n := n) hN hp hX (show i < cn by omega) (show pl < 6 by omega) (Or.inr (Or.inl hs)) hG hA h12
  obtain ⟨M1, n1, e1, l1, G1, A1, t1, f1⟩ := ih (pl + 1) n q M0 (by omega) (by omega) hb G0 A0 E0.2.2 (by omega)
  obtain ⟨n1, rfl⟩ : ∃ n', n1 = n' + 1 := ⟨n1 - 1, by omega⟩
  have E1 := E0.fr f1 t1
  have c1 := ag_come (N := N) (n := n1) hp hX (show i < cn by omega) (show pl < 6 by omega) G1 E1
  generalize hM2 : jm_up M1 12 pl 1 = M2
  have f2 : FrG M1 M2 pl := by rw [← hM2]; exact FrG.st
  have k2 : ∀ a, a ≠ 12 → ∀ j, M2 a j = M1 a j := fun a ha j => by rw [← hM2]; exact up_ne ha
  have G2 := G1.fr f2
  have A2 : AM M2 (pa S w h sg d (i + 1) q) := A1.same (k2 18 (by decide)) (k2 20 (by decide))
  have E2 : PE M2 pl (30 * p + i) 1 := ⟨by rw [k2 11 (by decide)]; exact E1.1, by rw [← hM2]; exact up_eq, by rw [k2 1 (by decide)]; exact t1⟩
  have s1 : f_X12_layAges_l63 N shM (n1 + 1) 1 (p : Int) (-6) M1 = f_X12_layAges_l63 N shM n1 1 (p : Int) ((30 * p + nx sg i : Nat) : Int) M2 := by
    rw [c1]
    unfold f_X12_layAges_b230
    rw [if_pos (Or.inl hs), if_neg (by decide), jrf_ok sM1, Option.bind_some, G1.1.t14, jra_ok sM12 (by omega) (by omega), Option.bind_some, Int.toNat_natCast, E1.2.1, if_pos rfl, Option.bind_some, G1.1.t14, jwa_ok sM12 (by omega) (by omega), Option.bind_some, Int.toNat_natCast, hM2, if_neg (by omega)]
    exact ag_second hp hX (by omega) G2
  obtain ⟨M3, n3, e3, l3, G3, A3, t3, f3⟩ := ih2 (pl + 1) n1 _ M2 (by omega) (by omega) (pa_bd hT.2.1.2 d (i + 1) q hb) G2 A2 E2.2.2 (by omega)
  obtain ⟨n3, rfl⟩ : ∃ n', n3 = n' + 1 := ⟨n3 - 1, by omega⟩
  have E3 := E2.fr f3 t3
  have c3 := ag_come (N := N) (n := n3) hp hX (show i < cn by omega) (show pl < 6 by omega) G3 E3
  have s3 : f_X12_layAges_l63 N shM (n3 + 1) 1 (p : Int) (-6) M3 = f_X12_layAges_l63 N shM n3 1 (p : Int) (-6) (jm_up M3 1 12 (pl : Int)) := by
    rw [c3]
    unfold f_X12_layAges_b230
    rw [if_pos (Or.inl hs), if_neg (by decide), jrf_ok sM1, Option.bind_some, G3.1.t14, jra_ok sM12 (by omega) (by omega), Option.bind_some, Int.toNat_natCast, E3.2.1, if_neg (by decide)]
    unfold f_X12_layAges_b283 f_X12_layAges_b302 f_X12_layAges_b303
    rw [if_pos hs, sM_isLoop, Option.bind_some, ifb, if_neg (by omega)]
    exact ag_pop (by omega) t3
  have f4 : FrG M3 (jm_up M3 1 12 (pl : Int)) pl := FrG.f12
  refine ⟨jm_up M3 1 12 (pl : Int), n3, ?_, by omega, G3.fr f4, A3.same (fun j => up_ne (by decide)) (fun j => up_ne (by decide)), up_eq, (((f0.tr f1.dn (Nat.le_refl _)).tr f2 (Nat.le_refl _)).tr f3.dn (Nat.le_refl _)).tr f4 (Nat.le_refl _)⟩
  rw [e0, e1, s1, e3, s3]
