def FS3 (m : jm_M) : Nat → List Nat → Prop
  | _, [] => True
  | t, d :: r => m 113 t = (d : Int) ∧ FS3 m (t + 1) r
theorem FS3_app {m : jm_M} : ∀ (P : List Nat) (t d : Nat), FS3 m t P → m 113 (t + P.length) = (d : Int) → FS3 m t (P ++ [d])
  | [], t, d, _, h => ⟨h, trivial⟩
  | x :: P, t, d, hp, h => ⟨hp.1, FS3_app P (t + 1) d hp.2 (by rw [List.length_cons] at h; rw [show t + 1 + P.length = t + (P.length + 1) by omega]; exact h)⟩
theorem FS3_up {m M : jm_M} : ∀ (P : List Nat) (t : Nat), (∀ j, j < t + P.length → M 113 j = m 113 j) → FS3 m t P → FS3 M t P
  | [], _, _, _ => trivial
  | x :: P, t, hs, hp => ⟨by rw [hs t (by rw [List.length_cons]; omega)]; exact hp.1, FS3_up P (t + 1) (fun j hj => hs j (by rw [List.length_cons]; omega)) hp.2⟩
theorem FS3_at {m : jm_M} : ∀ (P : List Nat) (t i : Nat), i < P.length → FS3 m t P → m 113 (t + i) = (P.getD i 0 : Int)
  | [], _, _, h, _ => absurd h (Nat.not_lt_zero _)
  | x :: P, t, 0, _, hp => hp.1
  | x :: P, t, i + 1, h, hp => by
    have := FS3_at P (t + 1) i (by rw [List.length_cons] at h; omega) hp.2
    rw [show t + (i + 1) = t + 1 + i by omega, this]
    rfl
/-- where the walk is: on which shelf, by which digits; or past twenty -/
def QW (m : jm_M) (S w h cr k : Nat) (ds : List Nat) : Prop := (ds.length ≤ 20 → (∃ c : Nat, Rk S w h cr k c ∧ m 112 1 = (c : Int)) ∧ m 112 0 = (ds.length : Int) ∧ FS3 m 0 ds) ∧ (20 < ds.length → m 112 0 = 21)
theorem QW.same {m M : jm_M} {S w h cr k : Nat} {ds : List Nat} (hq : QW m S w h cr k ds) (h1 : ∀ j, M 112 j = m 112 j) (h2 : ∀ j, M 113 j = m 113 j) : QW M S w h cr k ds := ⟨fun z => by
  obtain ⟨⟨c, a, b⟩, d, e⟩ := hq.1 z
  exact ⟨⟨c, a, by rw [h1]; exact b⟩, by rw [h1]; exact d, FS3_up ds 0 (fun j _ => h2 j) e⟩, fun z => by rw [h1]; exact hq.2 z⟩
def FrC (m M : jm_M) (x : Nat) : Prop := (∀ a, a ≠ 112 → a ≠ 113 → ¬ (116 ≤ a ∧ a ≤ 120) → ¬ (122 + 4 * x ≤ a ∧ a ≤ 141) → ∀ j, M a j = m a j) ∧ (∀ j, j ≠ 0 → j ≠ 1 → M 112 j = m 112 j)
theorem FrC.rf (m : jm_M) (x : Nat) : FrC m m x := ⟨fun _ _ _ _ _ _ => rfl, fun _ _ _ => rfl⟩
theorem FrC.tr {m m1 m2 : jm_M} {x y : Nat} (h1 : FrC m m1 x) (h2 : FrC m1 m2 y) (hy : x ≤ y) : FrC m m2 x := ⟨fun a a1 a2 a3 a4 j => (h2.1 a a1 a2 a3 (by omega) j).trans (h1.1 a a1 a2 a3 a4 j), fun j a1 a2 => (h2.2 j a1 a2).trans (h1.2 j a1 a2)⟩
theorem FrC.dn {m M : jm_M} {x y : Nat} (h : FrC m M y) (hy : x ≤ y) : FrC m M x := ⟨fun a a1 a2 a3 a4 j => h.1 a a1 a2 a3 (by omega) j, h.2⟩
theorem FrC.G {m M : jm_M} {t cn x : Nat} {sg : Nat → Int} {S w h ms cr : Nat} (hf : FrC m M x) (hG : GRr m t cn sg S w h ms cr) (ht : t ∈ tL) : GRr M t cn sg S w h ms cr := hG.rows ht (fun a h1 h2 h3 j => hf.1 a h2 h3 (by unfold isW at h1; omega) (by unfold isW at h1; omega) j) hf.2
theorem FrB.C {m M : jm_M} {to x : Nat} (h : FrB m M to (x + 1)) (h1 : 122 + 4 * x ≤ to) (h2 : to ≤ 141) : FrC m M x := ⟨fun a a1 a2 a3 a4 j => h a (by omega) (by omega) j, fun j _ _ => h 112 (by omega) (by omega) j⟩
theorem FrB.Q {m M : jm_M} {to x : Nat} {S w h cr k : Nat} {ds : List Nat} (hf : FrB m M to x) (hto : isW to) (hq : QW m S w h cr k ds) : QW M S w h cr k ds := hq.same (fun j => hf 112 (fun z => by unfold isW at hto; omega) (by omega) j) (fun j => hf 113 (fun z => by unfold isW at hto; omega) (by omega) j)
theorem s_ahead {m : jm_M} (hF : CF m) {x i fr : Nat} (hx : x ≤ 4) (hi : i < 4) : f_X5_aheadRow shC 112 (x : Int) (i : Int) fr m = some (122 + 4 * x + i) := by
  obtain ⟨a1, a2⟩ := ah_row hF (show 4 * x + i < 20 by omega)
  have e : jw (jw (4 * (x : Int)) + (i : Int)) = ((4 * x + i : Nat) : Int) := by
    rw [jw_eq (x := 4 * (x : Int)) (by omega) (by omega), jw_eq (by omega) (by omega)]; omega
  have h20 : ((4 * x + i : Nat) : Int) < ((20 : Nat) : Int) := by omega
  unfold f_X5_aheadRow
  rw [if_pos (by omega), e, if_neg (by omega), jrf_ok sC112, Option.bind_some, hF.t112_9, jlen_ok sC121 (by decide) (by decide) (by decide), Option.bind_some, if_pos h20, Option.bind_some, hF.t112_9, jra_ok sC121 (by omega) (by omega), Option.bind_some, Int.toNat_natCast, a1, show 122 + (4 * x + i) = 122 + 4 * x + i by omega]
theorem s_here {m : jm_M} {S w h cr k c a : Nat} {β : Bt} (hT : ST S w h) (hW : isW a) (hA : TBc m S w h cr a β) (hR : Rk S w h cr k c) (h1 : m 112 1 = (c : Int)) : f_X5_costHere shC 112 a m = some (β k : Int) := by
  have hc := (hR.lt hT.2.1.2).2
  have hC := CN_le (w := w) (h := h) (cr := cr) hT.1
  have h6 : (c : Int) < ((625 : Nat) : Int) := by omega
  unfold f_X5_costHere
  rw [jrf_ok sC112, Option.bind_some, h1, if_neg (by omega), Option.bind_some, jlen_ok hW.s (by decide) (by decide) (by decide), Option.bind_some, if_pos h6, Option.bind_some, jra_ok hW.s (by omega) h6, Option.bind_some, Int.toNat_natCast, hA k c hR]
theorem s_put {m : jm_M} {S w h cr k x d : Nat} {ds : List Nat} (hF : CF m) (hl : ds.length ≤ 20) (hq : QW m S w h cr k ds) : ∃ M, f_X5_put shC 112 (d : Int) m = some M ∧ QW M S w h cr k (ds ++ [d]) ∧ FrC m M x ∧ M 112 1 = m 112 1 := by
  obtain ⟨⟨c, a, b⟩, e, f⟩ := hq.1 hl
  have l2 : (ds ++ [d]).length = ds.length + 1 := by rw [List.length_append]; rfl
  unfold f_X5_put f_X5_put_b22
  rw [jrf_ok sC112, Option.bind_some, e, jrf_ok sC112, Option.bind_some, hF.t112_6, jlen_ok sC113 (by decide) (by decide) (by decide), Option.bind_some]
  by_cases c0 : ds.length < 20
  · have h20 : (ds.length : Int) < ((20 : Nat) : Int) := by omega
    refine ⟨jm_up (jm_up m 113 ds.length (d : Int)) 112 0 ((ds.length + 1 : Nat) : Int), ?_, ⟨fun _ => ⟨⟨c, a, by rw [up_nk (by decide), up_ne (by decide)]; exact b⟩, by rw [l2]; exact up_eq, FS3_app ds 0 d (FS3_up ds 0 (fun j hj => by rw [up_ne (by decide), up_nk (by omega)]) f) (by rw [Nat.zero_add, up_ne (by decide)]; exact up_eq)⟩, fun z => by omega⟩, ⟨fun a a1 a2 _ _ j => by rw [up_ne a1, up_ne a2], fun j a1 _ => by rw [up_nk a1, up_ne (by decide)]⟩, by rw [up_nk (by decide), up_ne (by decide)]⟩
    rw [if_pos h20, Option.bind_some, hF.t112_6, Option.bind_some, jwa_ok sC113 (by omega) h20, Option.bind_some, Int.toNat_natCast, jrf_ok sC112, Option.bind_some, up_ne (by decide), e, jw_succ (by omega), jwf_ok sC112, Option.bind_some]
  · have h20 : ¬ (ds.length : Int) < ((20 : Nat) : Int) := by omega
    refine ⟨jm_up m 112 0 ((ds.length + 1 : Nat) : Int), ?_, ⟨fun z => by omega, fun _ => by rw [up_eq]; omega⟩, ⟨fun a a1 a2 _ _ j => by rw [up_ne a1], fun j a1 _ => by rw [up_nk a1]⟩, by rw [up_nk (by decide)]⟩
    rw [if_neg h20, Option.bind_some, jw_succ (by omega), jwf_ok sC112, Option.bind_some]
def WlP (N t cn : Nat) (sg : Nat → Int) (S w h ms cr : Nat) (d i : Nat) : Prop := ∀ (D x fr B k : Nat) (β : Bt) (ds : List Nat) (m : jm_M), d + 1 ≤ D → x + d ≤ 4 → isW fr → (fr < 116 ∨ (120 < fr ∧ fr < 122 + 4 * x)) → i + zs sg 4 i ≤ cn → GRr m t cn sg S w h ms cr → TBc m S w h cr fr β → (∀ k, β k ≤ B) → B + (ms + 1) * 4 ^ d ≤ 100000 → QW m S w h cr k ds →
    ∃ M, f_X5_walk N shC D 112 (i : Int) (x : Int) fr m = some M ∧ QW M S w h cr (gr S w h ms sg d i β k).1 (ds ++ (gr S w h ms sg d i β k).2) ∧ FrC m M x
theorem walk_stop {N t cn : Nat} {sg : Nat → Int} {S w h ms cr d i : Nat} {D x fr k : Nat} {β : Bt} {ds : List Nat} {m : jm_M} (hx : x ≤ 4) (hl : 20 < ds.length) (hq : QW m S w h cr k ds) : ∃ M, f_X5_walk N shC (D + 1) 112 (i : Int) (x : Int) fr m = some M ∧ QW M S w h cr (gr S w h ms sg d i β k).1 (ds ++ (gr S w h ms sg d i β k).2) ∧ FrC m M x := by
  refine ⟨m, ?_, ⟨fun z => by rw [List.length_append] at z; omega, fun _ => hq.2 hl⟩, FrC.rf m x⟩
  show f_X5_walk_e N shC (f_X5_walk N shC D) 112 (i : Int) (x : Int) fr m = _
  unfold f_X5_walk_e
  rw [if_neg (by omega), jrf_ok sC112, Option.bind_some, hq.2 hl, if_pos (by decide)]
theorem walk_head {N t cn : Nat} {sg : Nat → Int} {S w h ms cr i : Nat} {D x fr k : Nat} {ds : List Nat} {m : jm_M} (ht : t ∈ tL) (hX : TX cn sg) (hx : x ≤ 4) (hi : i < cn) (hl : ds.length ≤ 20) (hG : GRr m t cn sg S w h ms cr) (hq : QW m S w h cr k ds) : f_X5_walk N shC (D + 1) 112 (i : Int) (x : Int) fr m = (if sg i = 45 then some m else if sg i = 59 then Option.bind (f_X5_walkBoth N shC (f_X5_walk N shC D) 112 (i : Int) (x : Int) fr m) (fun q => some q) else if sg i = 63 then Option.bind (f_X5_walkOne N shC (f_X5_walk N shC D) 112 (i : Int) (x : Int) fr m) (fun q => some q) else if 98 ≤ sg i ∧ sg i ≤ 100 then Option.bind (f_X5_walkLoop N shC (f_X5_walk N shC D) 112 (i : Int) (x : Int) fr m) (fun q => some q) else Option.bind (f_X10_lineAt shC t (i : Int) m) (fun q26 => Option.bind (f_X7_stepOf shC 65 q26 (m 112 1) m) (fun q30 => some (jm_up m 112 1 (jshr q30 1))))) := by
  have hcn := hX.1
  obtain ⟨g1, g2, g3, g4, g5⟩ := id hG
  have ht1 := (tC g1 t ht).1
  show f_X5_walk_e N shC (f_X5_walk N shC D) 112 (i : Int) (x : Int) fr m = _
  unfold f_X5_walk_e
  rw [if_neg (by omega), jrf_ok sC112, Option.bind_some, (hq.1 hl).2.1, if_neg (by omega), jrf_ok sC112, Option.bind_some, g4, Int.toNat_natCast, jck_ok ht1, Option.bind_some, s_sg g1 ht g2 hcn hi, Option.bind_some]
  by_cases c45 : sg i = 45
  · rw [if_pos c45.symm, if_pos c45]
  · rw [if_neg (fun q => c45 q.symm), if_neg c45]
    by_cases c59 : sg i = 59
    · rw [if_pos c59.symm, if_pos c59, jck_ok sC112, Option.bind_some]
    · rw [if_neg (fun q => c59 q.symm), if_neg c59]
      by_cases c63 : sg i = 63
      · rw [if_pos c63.symm, if_pos c63, jck_ok sC112, Option.bind_some]
      · rw [if_neg (fun q => c63 q.symm), if_neg c63]
        by_cases cl : 98 ≤ sg i ∧ sg i ≤ 100
        · rw [if_pos cl]
          unfold f_X5_walk_b100
          rw [jck_ok sC112, Option.bind_some]
          by_cases q1 : (98 : Int) = sg i
          · rw [if_pos q1]
          · rw [if_neg q1]
            by_cases q2 : (99 : Int) = sg i
            · rw [if_pos q2]
            · rw [if_neg q2, if_pos (by omega)]
        · rw [if_neg (by omega), if_neg (by omega), if_neg (by omega), if_neg cl]
          simp only [jrf_ok sC112, Option.bind_some, g4, Int.toNat_natCast, jck_ok ht1, g1.t112_5, jck_ok sC65, jwf_ok sC112]
theorem walk_leaf {N t cn : Nat} {sg : Nat → Int} {S w h ms cr : Nat} (ht : t ∈ tL) (hT : ST S w h) (hX : TX cn sg) (hcr : cr = lr sg 0 cn) {d i : Nat} (hl : isLf (sg i) = true) (hz : zs sg 4 i = 1) : WlP N t cn sg S w h ms cr d i := by
  intro D x fr B k β ds m hD hx hfr hfx hi hG hA hAB hB hq
  have hic : i < cn := by omega
  obtain ⟨D, rfl⟩ : ∃ D', D = D' + 1 := ⟨D - 1, by omega⟩
  by_cases c20 : ds.length ≤ 20
  · have hd := walk_head (N := N) (D := D) (x := x) (fr := fr) ht hX (show x ≤ 4 by omega) hic c20 hG hq
    obtain ⟨⟨c, rk, e1⟩, e0, ef⟩ := hq.1 c20
    rw [gr_leaf hl, hd]
    rw [isLf_iff] at hl
    by_cases c45 : sg i = 45
    · have eg : (gLf S w h (sg i) β k).1 = k := if_neg (by omega)
      have ed : ds ++ (gLf S w h (sg i) β k).2 = ds := List.append_nil ds
      rw [if_pos c45, eg, ed]
      exact ⟨m, rfl, hq, FrC.rf m x⟩
    · have hs : 48 ≤ sg i ∧ sg i ≤ 55 := by omega
      have hcl : hb cr (lnO (sg i)) = true := by rw [hcr]; exact lr_bit cn i hic hs
      have eg : (gLf S w h (sg i) β k).1 = fK S w h k (lnO (sg i)) := if_pos hs
      have ed : ds ++ (gLf S w h (sg i) β k).2 = ds := List.append_nil ds
      obtain ⟨r1, r2⟩ := rk.fetch hT.1 hT.2.1.2 (ln_lt hs) hcl
      have hlt := (r1.lt hT.2.1.2).2
      have hC := CN_le (w := w) (h := h) (cr := cr) hT.1
      rw [if_neg c45, if_neg (by omega), if_neg (by omega), if_neg (by omega), eg, ed, s_line hG.1 ht hG.2.1 hX.1 hic hs, Option.bind_some, e1, s_stepOf hG.1 hT hG.2.2.1 (ln_lt hs) hcl (rk.lt hT.2.1.2).2, Option.bind_some, (step_parts (by omega)).1]
      refine ⟨_, rfl, ⟨fun _ => ⟨⟨_, r1, up_eq⟩, by rw [up_nk (by decide)]; exact e0, FS3_up ds 0 (fun j _ => up_ne (by decide)) ef⟩, fun z => by omega⟩, ⟨fun a a1 a2 _ _ j => up_ne a1, fun j a1 a2 => up_nk a2⟩⟩
  · exact walk_stop (t := t) (cn := cn) (by omega) (by omega) hq
