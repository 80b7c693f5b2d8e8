theorem lf_or {s : Int} (h : isLf s = true) : s = 45 ∨ (48 ≤ s ∧ s ≤ 55) := by
  unfold isLf at h
  simp at h
  omega
/-! ages: the class's pass -/
def GA (m : jm_M) (t cn : Nat) (sg : Nat → Int) (S w h : Nat) : Prop := CF m ∧ CT m t cn sg ∧ GS m S w h ∧ m 142 0 = (t : Int)
def AW (m : jm_M) (q : AS) : Prop := RA m 143 q.1 ∧ ∀ i, i < 30 → ∀ a, q.2 i = some a → RA m (145 + i) a
def offA (x a : Nat) : Prop := a < 143 ∨ 186 < a ∨ a = 144 ∨ a = 175 ∨ a = 181 ∨ (176 ≤ a ∧ a < 176 + x ∧ a < 181) ∨ (182 ≤ a ∧ a < 182 + x)
def FrA (m M : jm_M) (x : Nat) : Prop := ∀ a, offA x a → ∀ j, M a j = m a j
theorem FrA.rf (m : jm_M) (x : Nat) : FrA m m x := fun _ _ _ => rfl
theorem FrA.tr {m m1 m2 : jm_M} {x y : Nat} (h1 : FrA m m1 x) (h2 : FrA m1 m2 y) (hxy : x ≤ y) : FrA m m2 x := fun a ha j => (h2 a (by unfold offA at ha ⊢; omega) j).trans (h1 a ha j)
theorem FrA.one {m M : jm_M} {x b : Nat} (hs : ∀ c, c ≠ b → ∀ j, M c j = m c j) (hb : ¬ offA x b) : FrA m M x := fun a ha j => hs a (fun z => hb (z ▸ ha)) j
theorem GA.fr {m M : jm_M} {t cn : Nat} {sg : Nat → Int} {S w h x : Nat} (hG : GA m t cn sg S w h) (ht : t ∈ tL) (hf : FrA m M x) : GA M t cn sg S w h := by
  have htl := tL_lt t ht
  obtain ⟨a, b, c, d⟩ := hG
  have hq : ∀ q ∈ rfC, q.1 < 143 ∨ 186 < q.1 ∨ q.1 = 144 ∨ q.1 = 175 ∨ q.1 = 181 := by decide +kernel
  exact ⟨a.same fun q h => hf _ (by have := hq q h; unfold offA; omega) _, b.same (fun a h1 h2 j => hf a (by unfold offA; omega) j), ⟨by rw [hf 3 (by unfold offA; omega)]; exact c.1, by rw [hf 3 (by unfold offA; omega)]; exact c.2.1, by rw [hf 3 (by unfold offA; omega)]; exact c.2.2⟩, by rw [hf 142 (by unfold offA; omega)]; exact d⟩
theorem AW.same {m M : jm_M} {q : AS} (h : AW m q) (hs : ∀ a, 143 ≤ a → a ≤ 174 → ∀ j, M a j = m a j) : AW M q := ⟨h.1.same (hs 143 (by omega) (by omega)), fun i hi a e => (h.2 i hi a e).same (hs (145 + i) (by omega) (by omega))⟩
def PaP (N t cn : Nat) (sg : Nat → Int) (S w h d i : Nat) : Prop := ∀ (D x : Nat) (q : AS) (m : jm_M), x + d ≤ 4 → d < D → i + zs sg 4 i ≤ cn → bdA q.1 → GA m t cn sg S w h → AW m q → ∃ M, f_X0_pass N shC D 142 (i : Int) (x : Int) m = some M ∧ AW M (pa S w h sg d i q) ∧ FrA m M x
theorem pass_hd {N t cn : Nat} {sg : Nat → Int} {S w h D i x : Nat} {m : jm_M} (ht : t ∈ tL) (hX : TX cn sg) (hG : GA m t cn sg S w h) (hi : i < cn) (hx : x ≤ 4) : ∃ v : Nat, (i + 1 < cn → v = nx sg i) ∧ ∀ Z, (sg i = 45 → Z = some m) → (sg i = 59 → Z = Option.bind (f_X0_pass N shC D 142 ((i + 1 : Nat) : Int) ((x + 1 : Nat) : Int) m) fun q22 => Option.bind (f_X0_pass N shC D 142 (v : Int) ((x + 1 : Nat) : Int) q22) fun q25 => some q25) →
    (sg i = 63 → Z = Option.bind (f_X0_copy N shC 143 (176 + x) m) fun q31 => Option.bind (f_X0_pass N shC D 142 ((i + 1 : Nat) : Int) ((x + 1 : Nat) : Int) q31) fun q34 => Option.bind (jrf shC q34 142 0 6 2) fun v36 => Option.bind (jrf shC q34 142 0 6 5) fun v37 => Option.bind (jra shC q34 v37.toNat 16 (x : Int)) fun v38 => Option.bind (f_X0_copy N shC v36.toNat v38.toNat q34) fun q39 => Option.bind (jrf shC q39 142 0 6 4) fun v41 => Option.bind (jra shC q39 v41.toNat 16 (x : Int)) fun v42 => Option.bind (jrf shC q39 142 0 6 2) fun v43 => Option.bind (f_X0_copy N shC v42.toNat v43.toNat q39) fun q44 => Option.bind (f_X0_pass N shC D 142 (v : Int) ((x + 1 : Nat) : Int) q44) fun q47 => Option.bind (jrf shC q47 142 0 6 5) fun v49 => Option.bind (jra shC q47 v49.toNat 16 (x : Int)) fun v50 => Option.bind (f_X0_join N shC 142 v50.toNat q47) fun q52 => some q52) →
    (98 ≤ sg i ∧ sg i ≤ 100 → Z = Option.bind (f_X0_passLoop_l5 N shC (f_X0_pass N shC D) N 142 ((i + 1 : Nat) : Int) (x : Int) 1 0 m) fun q2 => some q2) → (48 ≤ sg i ∧ sg i ≤ 55 → Z = Option.bind (f_X0_copy N shC 143 (145 + i) m) fun q60 => Option.bind (jrf shC q60 142 0 6 0) fun v62 => Option.bind (jck shC v62.toNat 10 4) fun _ => Option.bind (f_X10_lineAt shC v62.toNat (i : Int) q60) fun q64 => Option.bind (f_X0_fetch N shC 142 q64 q60) fun q67 => some q67) → f_X0_pass N shC (D + 1) 142 (i : Int) (x : Int) m = Z := by
  have hcn := hX.1
  obtain ⟨hF, hC, hS, h0⟩ := id hG
  obtain ⟨t1, -⟩ := tC hF t ht
  have et : (m 142 0).toNat = t := by rw [h0]; exact Int.toNat_natCast _
  obtain ⟨v, ev, hv⟩ := s_second hF ht hX hC hi
  have esg := s_sg hF ht hC hcn hi
  have ew : jw ((x : Int) + 1) = ((x + 1 : Nat) : Int) := jw_succ (by omega)
  refine ⟨v, hv, fun Z z1 z2 z3 z4 z5 => ?_⟩
  show f_X0_pass_e N shC (f_X0_pass N shC D) 142 (i : Int) (x : Int) m = Z
  unfold f_X0_pass_e
  rw [if_neg (by omega), if_neg (by omega), if_pos (by omega), jrf_ok sC142, Option.bind_some, et, jck_ok t1, Option.bind_some, s_first (by omega), Option.bind_some, Option.bind_some, et, jck_ok t1, Option.bind_some, ev, Option.bind_some, Option.bind_some, et, jck_ok t1, Option.bind_some, esg, Option.bind_some]
  have sgn := hX.sign hi
  by_cases c1 : sg i = 45
  · rw [if_pos c1.symm, z1 c1]
  · rw [if_neg (fun z => c1 z.symm)]
    by_cases c2 : sg i = 59
    · rw [if_pos c2.symm, z2 c2, jck_ok sC142, Option.bind_some, ew]
      simp only [Option.bind_some]
    · rw [if_neg (fun z => c2 z.symm)]
      by_cases c3 : sg i = 63
      · rw [if_pos c3.symm, z3 c3, jrf_ok sC142, Option.bind_some, hF.t142_2, jrf_ok sC142, Option.bind_some, hF.t142_4, jra_ok sC175 (by omega) (by omega), Option.bind_some, Int.toNat_natCast, (ca_row hF (by omega)).1, ew, jck_ok sC142]
        simp only [Option.bind_some]
      · rw [if_neg (fun z => c3 z.symm)]
        by_cases c4 : 98 ≤ sg i ∧ sg i ≤ 100
        · have hb : f_X0_pass_b189 N shC (f_X0_pass N shC D) 142 (x : Int) ((i + 1 : Nat) : Int) m = Option.bind (f_X0_passLoop_l5 N shC (f_X0_pass N shC D) N 142 ((i + 1 : Nat) : Int) (x : Int) 1 0 m) fun q2 => some q2 := by
            unfold f_X0_pass_b189 f_X0_passLoop
            rw [jck_ok sC142, Option.bind_some]
          rw [hb, z4 c4]
          by_cases k1 : (98 : Int) = sg i
          · rw [if_pos k1]
          · rw [if_neg k1]
            by_cases k2 : (99 : Int) = sg i
            · rw [if_pos k2]
            · rw [if_neg k2, if_pos (by omega)]
        · have hl : 48 ≤ sg i ∧ sg i ≤ 55 := by
            rcases sgn with z | z | z | z
            · exact (lf_or z).resolve_left c1
            · exact absurd z c4
            · exact absurd z c2
            · exact absurd z c3
          rw [if_neg (by omega), if_neg (by omega), if_neg (by omega), z5 hl, jrf_ok sC142, Option.bind_some, hF.t142_2, jrf_ok sC142, Option.bind_some, hF.t142_3, jra_ok sC144 (by omega) (by omega), Option.bind_some, Int.toNat_natCast, (at_row hF (by omega)).1, jck_ok sC142]
          simp only [Option.bind_some]
