/-! ages: the reference's pile -/
def GNa (m : jm_M) (p cn : Nat) (sg : Nat → Int) (S w h : Nat) : Prop := MF m ∧ SMm m S w h ∧ ∀ i, i < cn → m 5 (30 * p + i) = sg i ∧ m 6 (30 * p + i) = (zs sg 4 i : Int)
def AM (m : jm_M) (q : AS) : Prop := RA m 18 q.1 ∧ ∀ i, i < 30 → ∀ a, q.2 i = some a → ∀ k, k < 16 → m 20 (16 * i + k) = (a k : Int)
def FrG (m M : jm_M) (pl : Nat) : Prop := (∀ a, a ≠ 1 → a ≠ 11 → a ≠ 12 → a ≠ 13 → a ≠ 18 → a ≠ 19 → a ≠ 20 → ∀ j, M a j = m a j) ∧ (∀ j, j ≠ 12 → M 1 j = m 1 j) ∧ (∀ j, j < pl → M 11 j = m 11 j ∧ M 12 j = m 12 j ∧ M 13 j = m 13 j) ∧ ∀ j, j < 16 * pl → M 19 j = m 19 j
theorem FrG.rf (m : jm_M) (pl : Nat) : FrG m m pl := ⟨fun _ _ _ _ _ _ _ _ _ => rfl, fun _ _ => rfl, fun _ _ => ⟨rfl, rfl, rfl⟩, fun _ _ => rfl⟩
theorem FrG.tr {m m1 m2 : jm_M} {pl pl2 : Nat} (h1 : FrG m m1 pl) (h2 : FrG m1 m2 pl2) (hp : pl ≤ pl2) : FrG m m2 pl := ⟨fun a a1 a2 a3 a4 a5 a6 a7 j => (h2.1 a a1 a2 a3 a4 a5 a6 a7 j).trans (h1.1 a a1 a2 a3 a4 a5 a6 a7 j), fun j hj => (h2.2.1 j hj).trans (h1.2.1 j hj), fun j hj => ⟨(h2.2.2.1 j (by omega)).1.trans (h1.2.2.1 j hj).1, (h2.2.2.1 j (by omega)).2.1.trans (h1.2.2.1 j hj).2.1, (h2.2.2.1 j (by omega)).2.2.trans (h1.2.2.1 j hj).2.2⟩, fun j hj => (h2.2.2.2 j (by omega)).trans (h1.2.2.2 j hj)⟩
theorem FrG.row {m M : jm_M} {pl b : Nat} (hs : ∀ c, c ≠ b → ∀ j, M c j = m c j) (hb : b = 18 ∨ b = 20) : FrG m M pl := ⟨fun a a1 a2 a3 a4 a5 a6 a7 j => hs a (by omega) j, fun j _ => hs 1 (by omega) j, fun j _ => ⟨hs 11 (by omega) j, hs 12 (by omega) j, hs 13 (by omega) j⟩, fun j _ => hs 19 (by omega) j⟩
theorem FrG.r19 {m M : jm_M} {pl : Nat} (hs : ∀ c, c ≠ 19 → ∀ j, M c j = m c j) (h2 : ∀ j, j < 16 * pl → M 19 j = m 19 j) : FrG m M pl := ⟨fun a a1 a2 a3 a4 a5 a6 a7 j => hs a a6 j, fun j _ => hs 1 (by decide) j, fun j _ => ⟨hs 11 (by decide) j, hs 12 (by decide) j, hs 13 (by decide) j⟩, h2⟩
theorem FrG.f12 {m : jm_M} {pl : Nat} {v : Int} : FrG m (jm_up m 1 12 v) pl := ⟨fun a a1 _ _ _ _ _ _ j => up_ne a1, fun j hj => up_nk hj, fun j _ => ⟨up_ne (by decide), up_ne (by decide), up_ne (by decide)⟩, fun j _ => up_ne (by decide)⟩
theorem FrG.st {m : jm_M} {pl : Nat} {v : Int} : FrG m (jm_up m 12 pl v) pl := ⟨fun a _ _ a3 _ _ _ _ j => up_ne a3, fun j _ => up_ne (by decide), fun j hj => ⟨up_ne (by decide), up_nk (by omega), up_ne (by decide)⟩, fun j _ => up_ne (by decide)⟩
theorem FrG.pi {m : jm_M} {pl : Nat} {at' st lf : Int} : FrG m (piM m pl at' st lf) pl := by
  unfold piM
  exact ⟨fun a a1 a2 a3 a4 _ _ _ j => by rw [up_ne a1, up_ne a4, up_ne a3, up_ne a2], fun j hj => by rw [up_nk hj, up_ne (by decide), up_ne (by decide), up_ne (by decide)], fun j hj => ⟨by rw [up_ne (by decide), up_ne (by decide), up_ne (by decide), up_nk (by omega)], by rw [up_ne (by decide), up_ne (by decide), up_nk (by omega), up_ne (by decide)], by rw [up_ne (by decide), up_nk (by omega), up_ne (by decide), up_ne (by decide)]⟩, fun j _ => by rw [up_ne (by decide), up_ne (by decide), up_ne (by decide), up_ne (by decide)]⟩
theorem GNa.fr {m M : jm_M} {p cn : Nat} {sg : Nat → Int} {S w h pl : Nat} (hG : GNa m p cn sg S w h) (hf : FrG m M pl) : GNa M p cn sg S w h := by
  have r : ∀ a, a = 2 ∨ a = 5 ∨ a = 6 → ∀ j, M a j = m a j := fun a ha j => hf.1 a (by omega) (by omega) (by omega) (by omega) (by omega) (by omega) (by omega) j
  refine ⟨hG.1.same fun q hq => ?_, hG.2.1.same (r 2 (by omega)), fun i hi => ⟨by rw [r 5 (by omega)]; exact (hG.2.2 i hi).1, by rw [r 6 (by omega)]; exact (hG.2.2 i hi).2⟩⟩
  have h1 : ∀ q ∈ rfM, q.1 = 1 ∧ q.2.1 ≠ 12 := by decide
  rw [(h1 q hq).1]
  exact hf.2.1 _ (h1 q hq).2
theorem AM.same {m M : jm_M} {q : AS} (h : AM m q) (h1 : ∀ j, M 18 j = m 18 j) (h2 : ∀ j, M 20 j = m 20 j) : AM M q := ⟨h.1.same h1, fun i hi a e k hk => (h2 _).trans (h.2 i hi a e k hk)⟩
def stA : Nat → Nat
  | 0 => 2
  | d + 1 => 6 + 66 * (stA d + 1)
theorem stA_pos (d : Nat) : 2 ≤ stA d := by cases d <;> simp [stA] <;> omega
/-- what a text does to the reference's ages -/
def AgP (N p cn : Nat) (sg : Nat → Int) (S w h d i : Nat) : Prop := ∀ (pl n : Nat) (q : AS) (m : jm_M), pl + d ≤ 5 → i + zs sg 4 i ≤ cn → bdA q.1 → GNa m p cn sg S w h → AM m q → m 1 12 = (pl : Int) → stA d < n →
    ∃ M n', f_X12_layAges_l63 N shM n 1 (p : Int) ((30 * p + i : Nat) : Int) m = f_X12_layAges_l63 N shM n' 1 (p : Int) (-6) M ∧ n ≤ n' + stA d ∧ GNa M p cn sg S w h ∧ AM M (pa S w h sg d i q) ∧ M 1 12 = (pl : Int) ∧ FrG m M pl
theorem ag_leafM {N p cn : Nat} {sg : Nat → Int} {S w h : Nat} (hN : 1000 ≤ N) (hp : p < 4) (hT : ST S w h) (hX : TX cn sg) {d i : Nat} (hl : isLf (sg i) = true) (hz : zs sg 4 i = 1) : AgP N p cn sg S w h d i := by
  intro pl n q m hpl hi hb hG hA h12 hn
  have hsp := stA_pos d
  have hcn := hX.1
  have hic : i < cn := by omega
  obtain ⟨n, rfl⟩ : ∃ n', n = n' + 1 := ⟨n - 1, by omega⟩
  obtain ⟨g1, g2, g4⟩ := id hG
  rw [pa_leaf hl]
  unfold paL
  have head : f_X12_layAges_l63 N shM (n + 1) 1 (p : Int) ((30 * p + i : Nat) : Int) m = if 48 ≤ sg i ∧ sg i ≤ 55 then f_X12_layAges_l106 N shM (f_X12_layAges_l63 N shM n) N 1 (p : Int) (-6) ((30 * p + i : Nat) : Int) (sg i) 0 m else f_X12_layAges_l63 N shM n 1 (p : Int) (-6) m := by
    show f_X12_layAges_b63 N shM (f_X12_layAges_l63 N shM n) 1 (p : Int) ((30 * p + i : Nat) : Int) m = _
    unfold f_X12_layAges_b63 f_X12_layAges_b74 f_X12_layAges_b184
    rw [if_neg (by omega), if_neg (by omega), jrf_ok sM1, Option.bind_some, g1.t4, jra_ok sM5 (by omega) (by omega), Option.bind_some, Int.toNat_natCast, (g4 i hic).1, sM_in, Option.bind_some, ifb]
    by_cases c : 48 ≤ sg i ∧ sg i ≤ 55
    · rw [if_pos c, if_pos c]
    · have h0 : pt (sg i) = 0 := pt_0 hl
      rw [if_neg c, if_neg c, sM_partsOf (Or.inl hl), Option.bind_some, h0, if_neg (by decide)]
  rw [head]
  by_cases c : 48 ≤ sg i ∧ sg i ≤ 55
  · rw [if_pos c, if_pos c]
    have hl8 := ln_lt c
    have eln : jw (sg i - 48) = (lnO (sg i) : Int) := by rw [jw_eq (by omega) (by omega)]; unfold lnO; omega
    obtain ⟨M, n', e, qq⟩ := loopN (fun n' k m => f_X12_layAges_l106 N shM (f_X12_layAges_l63 N shM n) n' 1 (p : Int) (-6) ((30 * p + i : Nat) : Int) (sg i) k m) 16 (fun x M => (∀ k, k < x → M 20 (16 * i + k) = (q.1 k : Int)) ∧ (∀ c, c ≠ 20 → ∀ j, M c j = m c j) ∧ ∀ j, (∀ k, k < 16 → j ≠ 16 * i + k) → M 20 j = m 20 j) (fun n' x M hx hI => by
      have mf : MF M := g1.row rM_ag.2.2 hI.2.1
      have h1 : M 18 x = (q.1 x : Int) := by rw [hI.2.1 18 (by decide)]; exact hA.1 x hx
      have ei : jw (jw (16 * jw (((30 * p + i : Nat) : Int) - jw (30 * (p : Int)))) + (x : Int)) = ((16 * i + x : Nat) : Int) := by
        rw [jw_eq (x := 30 * (p : Int)) (by omega) (by omega), jw_eq (x := ((30 * p + i : Nat) : Int) - 30 * (p : Int)) (by omega) (by omega), show ((30 * p + i : Nat) : Int) - 30 * (p : Int) = (i : Int) by omega]
        exact jw16 (by omega) hx
      refine ⟨jm_up M 20 (16 * i + x) (q.1 x : Int), ?_, fun k hk => ?_, fun c hc j => (up_ne hc).trans (hI.2.1 c hc j), fun j hj => (up_nk (hj x hx)).trans (hI.2.2 j hj)⟩
      · show f_X12_layAges_b106 N shM (f_X12_layAges_l63 N shM n) (f_X12_layAges_l106 N shM (f_X12_layAges_l63 N shM n) n') 1 (p : Int) (-6) ((30 * p + i : Nat) : Int) (sg i) (x : Int) M = _
        unfold f_X12_layAges_b106
        rw [if_pos (by omega), jrf_ok sM1, Option.bind_some, jrf_ok sM1, Option.bind_some, mf.t27, mf.t29, jra_ok sM18 (by omega) (by omega), Option.bind_some, Int.toNat_natCast, h1, ei, jwa_ok sM20 (by omega) (by omega), Option.bind_some, Int.toNat_natCast, jw_succ (by omega)]
      · by_cases c : k = x
        · rw [c]; exact up_eq
        · rw [up_nk (by omega)]; exact hI.1 k (by omega)) 0 N m (by omega) (by omega) ⟨fun k hk => by omega, fun _ _ _ => rfl, fun _ _ => rfl⟩
    have e : f_X12_layAges_l106 N shM (f_X12_layAges_l63 N shM n) N 1 (p : Int) (-6) ((30 * p + i : Nat) : Int) (sg i) 0 m = f_X12_layAges_l106 N shM (f_X12_layAges_l63 N shM n) (n' + 1) 1 (p : Int) (-6) ((30 * p + i : Nat) : Int) (sg i) ((16 : Nat) : Int) M := e
    have fr1 : FrG m M pl := FrG.row qq.2.1 (Or.inr rfl)
    have hG1 := hG.fr fr1
    have hA1 : RA M 18 q.1 := hA.1.same (qq.2.1 18 (by decide))
    obtain ⟨M2, e2, a2, f2⟩ := sM_fetchAges (N := N) (by omega) hG1.1 hT hG1.2.1 hl8 hA1 hb
    have fr2 : FrG M M2 pl := FrG.row f2 (Or.inl rfl)
    refine ⟨M2, n, ?_, by omega, hG1.fr fr2, ⟨a2, fun j hj b eb k hk => ?_⟩, by rw [f2 1 (by decide), qq.2.1 1 (by decide)]; exact h12, fr1.tr fr2 (Nat.le_refl _)⟩
    · rw [e]
      show f_X12_layAges_b106 N shM (f_X12_layAges_l63 N shM n) (f_X12_layAges_l106 N shM (f_X12_layAges_l63 N shM n) n') 1 (p : Int) (-6) ((30 * p + i : Nat) : Int) (sg i) ((16 : Nat) : Int) M = _
      unfold f_X12_layAges_b106 f_X12_layAges_b184
      rw [if_neg (by omega), jck_ok sM1, Option.bind_some, eln, e2, Option.bind_some]
    · have eb : (if j = i then some q.1 else q.2 j) = some b := eb
      rw [f2 20 (by decide)]
      by_cases cj : j = i
      · rw [if_pos cj] at eb
        cases eb
        rw [cj]; exact qq.1 k hk
      · rw [if_neg cj] at eb
        rw [qq.2.2 _ (fun k' hk' => by omega)]
        exact hA.2 j hj b eb k hk
  · rw [if_neg c, if_neg c]
    exact ⟨m, n, rfl, by omega, hG, hA, h12, FrG.rf m pl⟩
