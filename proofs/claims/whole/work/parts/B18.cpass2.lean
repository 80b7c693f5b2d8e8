theorem AW.set {m M : jm_M} {q : AS} {i : Nat} {a : AgT} (h : AW m q) (hi : i < 30) (h1 : RA M (145 + i) a) (hs : ∀ c, c ≠ 145 + i → ∀ j, M c j = m c j) : AW M (q.1, seA q.2 i a) := by
  refine ⟨h.1.same (hs 143 (by omega)), fun j hj b e => ?_⟩
  have e : (if j = i then some a else q.2 j) = some b := e
  by_cases c : j = i
  · rw [if_pos c] at e
    cases e
    rw [c]; exact h1
  · rw [if_neg c] at e
    exact (h.2 j hj b e).same (hs (145 + j) (by omega))
theorem AW.now {m M : jm_M} {q : AS} {a : AgT} (h : AW m q) (h1 : RA M 143 a) (hs : ∀ c, c ≠ 143 → ∀ j, M c j = m c j) : AW M (a, q.2) := ⟨h1, fun j hj b e => (h.2 j hj b e).same (hs (145 + j) (by omega))⟩
theorem pa_leafC {N t cn : Nat} {sg : Nat → Int} {S w h : Nat} (hN : 100 ≤ N) (ht : t ∈ tL) (hX : TX cn sg) (hT : ST S w h) {d i : Nat} (hl : isLf (sg i) = true) (hz : zs sg 4 i = 1) : PaP N t cn sg S w h d i := by
  intro D x q m hx hD hi hb hG hA
  have hcn := hX.1
  obtain ⟨D, rfl⟩ : ∃ D', D = D' + 1 := ⟨D - 1, by omega⟩
  obtain ⟨v, -, hd⟩ := pass_hd (N := N) (D := D) (x := x) ht hX hG (show i < cn by omega) (by omega)
  obtain ⟨n1, n2, n3⟩ := lf_not hl
  rw [pa_leaf hl]
  unfold paL
  by_cases c : 48 ≤ sg i ∧ sg i ≤ 55
  · rw [if_pos c]
    obtain ⟨hF, hC, hS, h0⟩ := id hG
    obtain ⟨r1, r2⟩ := at_row hF (show i < 30 by omega)
    obtain ⟨M1, e1, a1, f1⟩ := s_copyA (N := N) (by omega) r143 r2 (by omega) hA.1
    have fr1 : FrA m M1 x := FrA.one f1 (by unfold offA; omega)
    have hG1 := hG.fr ht fr1
    have hA1 := hA.set (by omega) a1 f1
    obtain ⟨t1, -⟩ := tC hG1.1 t ht
    obtain ⟨M2, e2, a2, f2⟩ := s_fetchA (N := N) (l := lnO (sg i)) (by omega) hG1.1 hG1.2.2.1 hT (ln_lt c) hA1.1 hb
    have et : (M1 142 0).toNat = t := by rw [hG1.2.2.2]; exact Int.toNat_natCast _
    refine ⟨M2, ?_, hA1.now a2 f2, fr1.tr (FrA.one f2 (by unfold offA; omega)) (Nat.le_refl x)⟩
    refine hd _ (fun z => by omega) (fun z => by omega) (fun z => by omega) (fun z => by omega) (fun _ => ?_)
    rw [e1, Option.bind_some, jrf_ok sC142, Option.bind_some, et, jck_ok t1, Option.bind_some, s_line hG1.1 ht hG1.2.1 hcn (by omega) c, Option.bind_some, e2, Option.bind_some]
  · rw [if_neg c]
    refine ⟨m, ?_, hA, FrA.rf m x⟩
    refine hd _ (fun _ => rfl) (fun z => absurd z n1) (fun z => absurd z n2) (fun z => absurd z n3) (fun z => absurd z c)
theorem pa_seqC {N t cn : Nat} {sg : Nat → Int} {S w h : Nat} (ht : t ∈ tL) (hX : TX cn sg) (hT : ST S w h) {d i : Nat} (hs : sg i = 59) (hz : zs sg 4 i = 1 + zs sg 4 (i + 1) + zs sg 4 (nx sg i)) (ih : PaP N t cn sg S w h d (i + 1)) (ih2 : PaP N t cn sg S w h d (nx sg i)) : PaP N t cn sg S w h (d + 1) i := by
  intro D x q m hx hD hi hb hG hA
  have hp1 := zs_pos sg 4 (i + 1)
  have hp2 := zs_pos sg 4 (nx sg i)
  have hnx : nx sg i = i + 1 + zs sg 4 (i + 1) := rfl
  obtain ⟨D, rfl⟩ : ∃ D', D = D' + 1 := ⟨D - 1, by omega⟩
  obtain ⟨v, hv, hd⟩ := pass_hd (N := N) (D := D) (x := x) ht hX hG (show i < cn by omega) (by omega)
  obtain rfl := hv (by omega)
  rw [pa_seq hs]
  obtain ⟨M1, e1, a1, f1⟩ := ih D (x + 1) q m (by omega) (by omega) (by omega) hb hG hA
  obtain ⟨M2, e2, a2, f2⟩ := ih2 D (x + 1) _ M1 (by omega) (by omega) (by omega) (pa_bd hT.2.1.2 d (i + 1) q hb) (hG.fr ht f1) a1
  have f1' : FrA m M1 x := fun a ha j => f1 a (by unfold offA at ha ⊢; omega) j
  refine ⟨M2, ?_, a2, f1'.tr f2 (by omega)⟩
  refine hd _ (fun z => by omega) (fun _ => ?_) (fun z => by omega) (fun z => by omega) (fun z => by omega)
  rw [e1, Option.bind_some, e2, Option.bind_some]
theorem pa_choC {N t cn : Nat} {sg : Nat → Int} {S w h : Nat} (hN : 100 ≤ N) (ht : t ∈ tL) (hX : TX cn sg) (hT : ST S w h) {d i : Nat} (hs : sg i = 63) (hz : zs sg 4 i = 1 + zs sg 4 (i + 1) + zs sg 4 (nx sg i)) (ih : PaP N t cn sg S w h d (i + 1)) (ih2 : PaP N t cn sg S w h d (nx sg i)) : PaP N t cn sg S w h (d + 1) i := by
  intro D x q m hx hD hi hb hG hA
  have hp1 := zs_pos sg 4 (i + 1)
  have hp2 := zs_pos sg 4 (nx sg i)
  have hnx : nx sg i = i + 1 + zs sg 4 (i + 1) := rfl
  obtain ⟨D, rfl⟩ : ∃ D', D = D' + 1 := ⟨D - 1, by omega⟩
  obtain ⟨v, hv, hd⟩ := pass_hd (N := N) (D := D) (x := x) ht hX hG (show i < cn by omega) (by omega)
  obtain rfl := hv (by omega)
  rw [pa_cho hs]
  obtain ⟨r1, i1, r2, i2⟩ := ca_row hG.1 (show x < 5 by omega)
  obtain ⟨M1, e1, a1, f1⟩ := s_copyA (N := N) (by omega) r143 i1 (by omega) hA.1
  have fr1 : FrA m M1 x := FrA.one f1 (by unfold offA; omega)
  have hG1 := hG.fr ht fr1
  have hA1 : AW M1 q := hA.same (fun a h1 h2 j => f1 a (by omega) j)
  obtain ⟨M2, e2, a2, f2⟩ := ih D (x + 1) q M1 (by omega) (by omega) (by omega) hb hG1 hA1
  have f2' : FrA M1 M2 x := fun a ha j => f2 a (by unfold offA at ha ⊢; omega) j
  have hG2 := hG1.fr ht f2'
  have k2 : RA M2 (176 + x) q.1 := a1.same (f2 (176 + x) (by unfold offA; omega))
  obtain ⟨M3, e3, a3, f3⟩ := s_copyA (N := N) (by omega) r143 i2 (by omega) a2.1
  have fr3 : FrA M2 M3 x := FrA.one f3 (by unfold offA; omega)
  have hG3 := hG2.fr ht fr3
  have k3 : RA M3 (176 + x) q.1 := k2.same (f3 (176 + x) (by omega))
  obtain ⟨M4, e4, a4, f4⟩ := s_copyA (N := N) (by omega) i1 r143 (by omega) k3
  have fr4 : FrA M3 M4 x := FrA.one f4 (by unfold offA; omega)
  have hG4 := hG3.fr ht fr4
  have hA3 : AW M3 (pa S w h sg d (i + 1) q) := a2.same (fun a h1 h2 j => f3 a (by omega) j)
  have hA4 := hA3.now a4 f4
  have k4 : RA M4 (182 + x) (pa S w h sg d (i + 1) q).1 := a3.same (f4 (182 + x) (by omega))
  obtain ⟨M5, e5, a5, f5⟩ := ih2 D (x + 1) (q.1, (pa S w h sg d (i + 1) q).2) M4 (by omega) (by omega) (by omega) hb hG4 hA4
  have f5' : FrA M4 M5 x := fun a ha j => f5 a (by unfold offA at ha ⊢; omega) j
  have hG5 := hG4.fr ht f5'
  have k5 : RA M5 (182 + x) (pa S w h sg d (i + 1) q).1 := k4.same (f5 (182 + x) (by unfold offA; omega))
  obtain ⟨M6, e6, a6, f6⟩ := s_joinA (N := N) (by omega) hG5.1 i2 (by omega) a5.1 k5
  have fr6 : FrA M5 M6 x := FrA.one f6 (by unfold offA; omega)
  refine ⟨M6, ?_, a5.now a6 f6, ((((fr1.tr f2' (Nat.le_refl _)).tr fr3 (Nat.le_refl _)).tr fr4 (Nat.le_refl _)).tr f5' (Nat.le_refl _)).tr fr6 (Nat.le_refl _)⟩
  refine hd _ (fun z => by omega) (fun z => by omega) (fun _ => ?_) (fun z => by omega) (fun z => by omega)
  rw [e1, Option.bind_some, e2, Option.bind_some, jrf_ok sC142, Option.bind_some, hG2.1.t142_2, jrf_ok sC142, Option.bind_some, hG2.1.t142_5, jra_ok sC181 (by omega) (by omega), Option.bind_some, Int.toNat_natCast, (ca_row hG2.1 (show x < 5 by omega)).2.2.1, e3, Option.bind_some, jrf_ok sC142, Option.bind_some, hG3.1.t142_4, jra_ok sC175 (by omega) (by omega), Option.bind_some, Int.toNat_natCast, (ca_row hG3.1 (show x < 5 by omega)).1, jrf_ok sC142, Option.bind_some, hG3.1.t142_2, e4, Option.bind_some, e5, Option.bind_some, jrf_ok sC142, Option.bind_some, hG5.1.t142_5, jra_ok sC181 (by omega) (by omega), Option.bind_some, Int.toNat_natCast, (ca_row hG5.1 (show x < 5 by omega)).2.2.1, e6, Option.bind_some]
