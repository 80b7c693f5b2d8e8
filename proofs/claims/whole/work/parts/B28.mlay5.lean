theorem ag_loopM {N p cn : Nat} {sg : Nat → Int} {S w h : Nat} (hN : 1000 ≤ N) (hp : p < 4) (hT : ST S w h) (hX : TX cn sg) {d i : Nat} (hs : 98 ≤ sg i ∧ sg i ≤ 100) (hz : zs sg 4 i = 1 + zs sg 4 (i + 1)) (ih : AgP N p cn sg S w h d (i + 1)) : AgP N p cn sg S w h (d + 1) i := by
  intro pl n q m hpl hi hb hG hA h12 hn
  have hp1 := zs_pos sg 4 (i + 1)
  have hcn := hX.1
  have hst : stA (d + 1) = 6 + 66 * (stA d + 1) := rfl
  rw [hst] at hn ⊢
  rw [pa_loop hs]
  obtain ⟨n, rfl⟩ : ∃ n', n = n' + 1 := ⟨n - 1, by omega⟩
  obtain ⟨M0, e0, G0, A0, E0, K0, f0⟩ := ag_enter (N := N) (n := n) hN hp hX (show i < cn by omega) (show pl < 6 by omega) (Or.inl hs) hG hA h12
  have hlp : f_X12_isLoop (sg i) = some 1 := by rw [sM_isLoop, if_pos hs]
  have loop : ∀ (r n : Nat) (q : AS) (M : jm_M), phA q.1 16 < r → r * (stA d + 1) < n → bdA q.1 → GNa M p cn sg S w h → AM M q → PE M pl (30 * p + i) 0 → KA M pl q.1 → FrG m M pl → ∃ M' n', f_X12_layAges_l63 N shM n 1 (p : Int) ((30 * p + (i + 1) : Nat) : Int) M = f_X12_layAges_l63 N shM n' 1 (p : Int) (-6) M' ∧ n ≤ n' + r * (stA d + 1) ∧ GNa M' p cn sg S w h ∧ AM M' (lpA (pa S w h sg d (i + 1)) r q) ∧ M' 1 12 = (pl : Int) ∧ FrG m M' pl := by
    intro r
    induction r with
    | zero => intro n q M h1; omega
    | succ r ihr =>
      intro n q M hph hn hb hG hA hE hK hf
      have sm : (r + 1) * (stA d + 1) = r * (stA d + 1) + (stA d + 1) := Nat.succ_mul _ _
      rw [sm] at hn ⊢
      generalize r * (stA d + 1) = R at *
      obtain ⟨M1, n1, e1, l1, G1, A1, t1, f1⟩ := ih (pl + 1) n q M (by omega) (by omega) hb hG hA hE.2.2 (by omega)
      obtain ⟨n1, rfl⟩ : ∃ n', n1 = n' + 1 := ⟨n1 - 1, by omega⟩
      have E1 := hE.fr f1 t1
      have K1 := hK.fr f1
      have c1 := ag_come (N := N) (n := n1) hp hX (show i < cn by omega) (show pl < 6 by omega) G1 E1
      obtain ⟨M2, e2, r2, s2⟩ := sM_joinAges (N := N) (f := pl) (by omega) G1.1 (by omega) A1.1 K1
      have f2 : FrG M1 M2 pl := FrG.row s2 (Or.inl rfl)
      have G2 := G1.fr f2
      have A2 : AM M2 (jAg (pa S w h sg d (i + 1) q).1 q.1, (pa S w h sg d (i + 1) q).2) := ⟨r2, fun j hj a e k hk => by rw [s2 20 (by decide)]; exact A1.2 j hj a e k hk⟩
      have t2 : M2 1 12 = ((pl + 1 : Nat) : Int) := by rw [s2 1 (by decide)]; exact t1
      have E2 : PE M2 pl (30 * p + i) 0 := ⟨by rw [s2 11 (by decide)]; exact E1.1, by rw [s2 12 (by decide)]; exact E1.2.1, t2⟩
      have el : lpA (pa S w h sg d (i + 1)) (r + 1) q = if sA (jAg (pa S w h sg d (i + 1) q).1 q.1) q.1 = true then (jAg (pa S w h sg d (i + 1) q).1 q.1, (pa S w h sg d (i + 1) q).2) else lpA (pa S w h sg d (i + 1)) r (jAg (pa S w h sg d (i + 1) q).1 q.1, (pa S w h sg d (i + 1) q).2) := rfl
      have hf2 : FrG m M2 pl := (hf.tr f1.dn (Nat.le_refl _)).tr f2 (Nat.le_refl _)
      rw [el]
      by_cases c : sA (jAg (pa S w h sg d (i + 1) q).1 q.1) q.1 = true
      · rw [if_pos c] at e2 ⊢
        have st1 : f_X12_layAges_l63 N shM (n1 + 1) 1 (p : Int) (-6) M1 = f_X12_layAges_l63 N shM n1 1 (p : Int) (-6) (jm_up M2 1 12 (pl : Int)) := by
          rw [c1, if_neg (show ¬ (sg i = 59 ∨ sg i = 63) by omega)]
          unfold f_X12_layAges_b230
          rw [if_pos rfl]
          unfold f_X12_layAges_b283 f_X12_layAges_b302 f_X12_layAges_b303
          rw [if_neg (by omega), jck_ok sM1, Option.bind_some, e2, Option.bind_some]
          dsimp only
          rw [if_pos rfl, hlp, Option.bind_some, if_neg (by decide), if_pos rfl]
          exact ag_pop (by omega) t2
        have f3 : FrG M2 (jm_up M2 1 12 (pl : Int)) pl := FrG.f12
        refine ⟨jm_up M2 1 12 (pl : Int), n1, ?_, by omega, G2.fr f3, A2.same (fun j => up_ne (by decide)) (fun j => up_ne (by decide)), up_eq, hf2.tr f3 (Nat.le_refl _)⟩
        rw [e1, st1]
      · rw [if_neg c] at e2 ⊢
        obtain ⟨M3, e3, K3, s3, s3'⟩ := sM_keepAges (N := N) (f := pl) (by omega) G2.1 (by omega) A2.1
        have f3 : FrG M2 M3 pl := FrG.r19 s3 s3'
        have G3 := G2.fr f3
        have E3 : PE M3 pl (30 * p + i) 0 := ⟨by rw [s3 11 (by decide)]; exact E2.1, by rw [s3 12 (by decide)]; exact E2.2.1, by rw [s3 1 (by decide)]; exact t2⟩
        have st1 : f_X12_layAges_l63 N shM (n1 + 1) 1 (p : Int) (-6) M1 = f_X12_layAges_l63 N shM n1 1 (p : Int) ((30 * p + (i + 1) : Nat) : Int) M3 := by
          rw [c1, if_neg (show ¬ (sg i = 59 ∨ sg i = 63) by omega)]
          unfold f_X12_layAges_b230
          rw [if_pos rfl]
          unfold f_X12_layAges_b283 f_X12_layAges_b302 f_X12_layAges_b303 f_X12_layAges_b341
          rw [if_neg (by omega), jck_ok sM1, Option.bind_some, e2, Option.bind_some]
          dsimp only
          rw [if_neg (by decide), hlp, Option.bind_some, if_neg (by decide), if_neg (by decide), Option.bind_some, e3, Option.bind_some, jw_eq (by omega) (by omega), show ((30 * p + i : Nat) : Int) + 1 = ((30 * p + (i + 1) : Nat) : Int) by omega]
        have hph2 := phA_lt (pa_bd hT.2.1.2 d (i + 1) q hb) hb c
        obtain ⟨M', n', e', l', G', A', t', f'⟩ := ihr n1 (jAg (pa S w h sg d (i + 1) q).1 q.1, (pa S w h sg d (i + 1) q).2) M3 (show phA (jAg (pa S w h sg d (i + 1) q).1 q.1) 16 < r by omega) (by omega) (jA_bd (pa_bd hT.2.1.2 d (i + 1) q hb) hb) G3 (A2.same (s3 18 (by decide)) (s3 20 (by decide))) E3 K3 (hf2.tr f3 (Nat.le_refl _))
        refine ⟨M', n', ?_, by omega, G', A', t', f'⟩
        rw [e1, st1, e']
  have hph := phA_le hb 16 (Nat.le_refl _)
  obtain ⟨M', n', e', l', G', A', t', f'⟩ := loop 64 n q M0 (by omega) (by omega) hb G0 A0 E0 K0 f0
  refine ⟨M', n', ?_, by omega, G', A', t', f'⟩
  rw [e0, e']
theorem ages_all {N p cn : Nat} {sg : Nat → Int} {S w h : Nat} (hN : 1000 ≤ N) (hp : p < 4) (hT : ST S w h) (hX : TX cn sg) : ∀ d, d ≤ 4 → ∀ i, wf sg d i = true → AgP N p cn sg S w h d i := by
  refine wf_ind sg (AgP N p cn sg S w h) ?_ ?_ ?_
  · intro d i hd hl hz
    exact ag_leafM hN hp hT hX hl hz
  · intro d i hd hs hz hw ih
    exact ag_loopM hN hp hT hX hs hz ih
  · intro d i hd hs hz hw hw2 ih ih2
    rcases hs with hs | hs
    · exact ag_seqM hN hp hT hX hs hz ih ih2
    · exact ag_choM hN hp hT hX hs hz ih ih2
